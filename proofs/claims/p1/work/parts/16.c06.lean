/-! THE ROADS of calls 6 on a fresh object (by wip/px_cmd.py) -/
set_option maxHeartbeats 400000000 in
set_option maxRecDepth 20000 in
theorem w_c6 {xs : Nat → Int32} {m : zM} {Q : Option Value → zM → Prop} (H : w_ok 6 xs 168 63950 w_T0 m) (hQ : ∀ N S T m, w_ok 6 xs N S T m → N ≤ 600039 → S ≤ 7302250 → Q (some (.int 1)) m) : z_W 1000 1000 395 [(0, .ref 0), (1, .ref 39), (2, .ref 143), (3, .int (0 : Int32))] [] m Q := by
  have b1 := zi_bd (xs 1)
  have b2 := zi_bd (xs 2)
  have b3 := zi_bd (xs 3)
  have b4 := zi_bd (xs 4)
  have b5 := zi_bd (xs 5)
  refine w_p h_m1000 1 (pc' := 396) (L' := [(0, .ref 0), (1, .ref 39), (2, .ref 143), (3, .int (0 : Int32))]) (st' := [.ref 39]) rfl ?_
  refine w_cv (H.t rfl) (pc' := 399) (L' := [(0, .ref 0), (1, .ref 39), (2, .ref 143), (3, .int (0 : Int32))]) (rest := []) (Ps := []) (L0 := [(0, .ref 39)]) h_m1000 (z_at.mk 3 rfl rfl) (Or.inl ⟨rfl, rfl⟩) rfl rfl (by decide) (by decide) rfl rfl rfl rfl rfl rfl (by decide) rfl rfl rfl ?_
  refine w_p h_m122 1 (pc' := 1) (L' := [(0, .ref 39)]) (st' := [.ref 39]) rfl ?_
  refine w_gf H (pc' := 4) (L' := [(0, .ref 39)]) h_m122 (z_at.mk 3 rfl rfl) rfl (u := .ref 120) rfl rfl rfl ?_
  refine w_cv (H.t rfl) (pc' := 7) (L' := [(0, .ref 39)]) (rest := []) (Ps := []) (L0 := [(0, .ref 120)]) h_m122 (z_at.mk 3 rfl rfl) (Or.inl ⟨rfl, rfl⟩) rfl rfl (by decide) (by decide) rfl rfl rfl rfl rfl rfl (by decide) rfl rfl rfl ?_
  refine w_p h_m92 2 (pc' := 2) (L' := [(0, .ref 120)]) (st' := [.int (0 : Int32), .ref 120]) rfl ?_
  refine w_pf H (19, 4, [(2, .int (0 : Int32)), (3, .int (-1 : Int32)), (1, .int (0 : Int32)), (0, .ref 121)], none) (pc' := 5) (L' := [(0, .ref 120)]) h_m92 (z_at.mk 3 rfl rfl) rfl (by decide) rfl (Or.inl rfl) rfl rfl rfl ?_
  clear H m; intro m H
  refine w_p h_m92 2 (pc' := 7) (L' := [(0, .ref 120)]) (st' := [.int (-1 : Int32), .ref 120]) rfl ?_
  refine w_pf H (19, 4, [(3, .int (-1 : Int32)), (2, .int (0 : Int32)), (1, .int (0 : Int32)), (0, .ref 121)], none) (pc' := 10) (L' := [(0, .ref 120)]) h_m92 (z_at.mk 3 rfl rfl) rfl (by decide) rfl (Or.inl rfl) rfl rfl rfl ?_
  clear H m; intro m H
  refine w_rv h_m92 (z_at.mk 1 rfl rfl) rfl ?_
  show z_W 999 122 7 [(0, .ref 39)] [] m _
  refine w_p h_m122 1 (pc' := 8) (L' := [(0, .ref 39)]) (st' := [.ref 39]) rfl ?_
  refine w_gf H (pc' := 11) (L' := [(0, .ref 39)]) h_m122 (z_at.mk 3 rfl rfl) rfl (u := .ref 118) rfl rfl rfl ?_
  refine w_p h_m122 1 (pc' := 12) (L' := [(0, .ref 39)]) (st' := [.ref 39, .ref 118]) rfl ?_
  refine w_gf H (pc' := 15) (L' := [(0, .ref 39)]) h_m122 (z_at.mk 3 rfl rfl) rfl (u := .ref 40) rfl rfl rfl ?_
  refine w_gf H (pc' := 18) (L' := [(0, .ref 39)]) h_m122 (z_at.mk 3 rfl rfl) rfl (u := .ref 48) rfl rfl rfl ?_
  refine w_gf H (pc' := 21) (L' := [(0, .ref 39)]) h_m122 (z_at.mk 3 rfl rfl) rfl (u := .ref 49) rfl rfl rfl ?_
  refine w_cv (H.t rfl) (pc' := 24) (L' := [(0, .ref 39)]) (rest := []) (Ps := [.ref 49]) (L0 := [(0, .ref 118), (1, .ref 49)]) h_m122 (z_at.mk 3 rfl rfl) (Or.inl ⟨rfl, rfl⟩) rfl rfl (by decide) (by decide) rfl rfl rfl rfl rfl rfl (by decide) rfl rfl rfl ?_
  refine w_p h_m74 1 (pc' := 1) (L' := [(0, .ref 118), (1, .ref 49)]) (st' := [.ref 49]) rfl ?_
  refine w_gf H (pc' := 4) (L' := [(0, .ref 118), (1, .ref 49)]) h_m74 (z_at.mk 3 rfl rfl) rfl (u := .ref 50) rfl rfl rfl ?_
  refine w_p h_m74 2 (pc' := 6) (L' := [(0, .ref 118), (1, .ref 49)]) (st' := [.ref 118, .int (0 : Int32), .ref 50]) rfl ?_
  refine w_gf H (pc' := 9) (L' := [(0, .ref 118), (1, .ref 49)]) h_m74 (z_at.mk 3 rfl rfl) rfl (u := .ref 119) rfl rfl rfl ?_
  refine w_p h_m74 2 (pc' := 12) (L' := [(0, .ref 118), (1, .ref 49)]) (st' := [.int (7 : Int32), .int (0 : Int32), .ref 119, .int (0 : Int32), .ref 50]) rfl ?_
  refine w_cpf H (ra := (0, 7, [(6, .int (1024 : Int32)), (5, .int (1 : Int32)), (4, .int (1 : Int32)), (3, .int (0 : Int32)), (2, .int (12 : Int32)), (1, .int (40 : Int32)), (0, .int (10 : Int32))], some (.int (0 : Int32)))) (pc' := 15) (L' := [(0, .ref 118), (1, .ref 49)]) h_m74 (z_at.mk 3 rfl rfl) rfl (z_cat_le 0 rfl (by decide)) rfl rfl rfl rfl (by decide) rfl rfl ?_
  clear H m; intro m H
  refine w_rv h_m74 (z_at.mk 1 rfl rfl) rfl ?_
  show z_W 999 122 24 [(0, .ref 39)] [] m _
  refine w_p h_m122 1 (pc' := 25) (L' := [(0, .ref 39)]) (st' := [.ref 39]) rfl ?_
  refine w_gf H (pc' := 28) (L' := [(0, .ref 39)]) h_m122 (z_at.mk 3 rfl rfl) rfl (u := .ref 118) rfl rfl rfl ?_
  refine w_p h_m122 1 (pc' := 29) (L' := [(0, .ref 39)]) (st' := [.ref 39, .ref 118]) rfl ?_
  refine w_gf H (pc' := 32) (L' := [(0, .ref 39)]) h_m122 (z_at.mk 3 rfl rfl) rfl (u := .ref 120) rfl rfl rfl ?_
  refine w_cv (H.t rfl) (pc' := 35) (L' := [(0, .ref 39)]) (rest := []) (Ps := [.ref 120]) (L0 := [(0, .ref 118), (1, .ref 120)]) h_m122 (z_at.mk 3 rfl rfl) (Or.inl ⟨rfl, rfl⟩) rfl rfl (by decide) (by decide) rfl rfl rfl rfl rfl rfl (by decide) rfl rfl rfl ?_
  refine w_p h_m75 11 (pc' := 18) (L' := [(0, .ref 118), (1, .ref 120), (2, .int (0 : Int32)), (3, .int (1 : Int32))]) (st' := [.ref 1, .ref 120]) rfl ?_
  refine w_cv (H.t rfl) (pc' := 21) (L' := [(0, .ref 118), (1, .ref 120), (2, .int (0 : Int32)), (3, .int (1 : Int32))]) (rest := []) (Ps := [.ref 1]) (L0 := [(0, .ref 120), (1, .ref 1)]) h_m75 (z_at.mk 3 rfl rfl) (Or.inl ⟨rfl, rfl⟩) rfl rfl (by decide) (by decide) rfl rfl rfl rfl rfl rfl (by decide) rfl rfl rfl ?_
  refine w_p h_m102 1 (pc' := 1) (L' := [(0, .ref 120), (1, .ref 1)]) (st' := [.ref 120]) rfl ?_
  refine w_gf H (pc' := 4) (L' := [(0, .ref 120), (1, .ref 1)]) h_m102 (z_at.mk 3 rfl rfl) rfl (u := .int (0 : Int32)) rfl rfl rfl ?_
  refine w_p h_m102 7 (pc' := 15) (L' := [(0, .ref 120), (1, .ref 1), (2, .int (0 : Int32)), (3, .int (0 : Int32))]) (st' := [.ref 120]) rfl ?_
  refine w_cv (H.t rfl) (pc' := 18) (L' := [(0, .ref 120), (1, .ref 1), (2, .int (0 : Int32)), (3, .int (0 : Int32))]) (rest := []) (Ps := []) (L0 := [(0, .ref 120)]) h_m102 (z_at.mk 3 rfl rfl) (Or.inl ⟨rfl, rfl⟩) rfl rfl (by decide) (by decide) rfl rfl rfl rfl rfl rfl (by decide) rfl rfl rfl ?_
  refine w_p h_m96 1 (pc' := 1) (L' := [(0, .ref 120)]) (st' := [.ref 120]) rfl ?_
  refine w_gf H (pc' := 4) (L' := [(0, .ref 120)]) h_m96 (z_at.mk 3 rfl rfl) rfl (u := .int (-1 : Int32)) rfl rfl rfl ?_
  refine w_p h_m96 3 (pc' := 9) (L' := [(0, .ref 120)]) (st' := [.ref 120]) rfl ?_
  refine w_gf H (pc' := 12) (L' := [(0, .ref 120)]) h_m96 (z_at.mk 3 rfl rfl) rfl (u := .int (0 : Int32)) rfl rfl rfl ?_
  refine w_p h_m96 2 (pc' := 16) (L' := [(0, .ref 120)]) (st' := [.ref 120]) rfl ?_
  refine w_gf H (pc' := 19) (L' := [(0, .ref 120)]) h_m96 (z_at.mk 3 rfl rfl) rfl (u := .int (0 : Int32)) rfl rfl rfl ?_
  refine w_p h_m96 1 (pc' := 20) (L' := [(0, .ref 120)]) (st' := [.ref 120, .int (0 : Int32)]) rfl ?_
  refine w_gf H (pc' := 23) (L' := [(0, .ref 120)]) h_m96 (z_at.mk 3 rfl rfl) rfl (u := .int (0 : Int32)) rfl rfl rfl ?_
  refine w_p h_m96 2 (pc' := 49) (L' := []) (st' := [.int (0 : Int32)]) rfl ?_
  refine w_ri h_m96 (z_at.mk 1 rfl rfl) rfl rfl ?_
  show z_W 997 102 18 [(0, .ref 120), (1, .ref 1), (2, .int (0 : Int32)), (3, .int (0 : Int32))] [.int (0 : Int32)] m _
  refine w_p h_m102 10 (pc' := 59) (L' := [(0, .ref 120), (1, .ref 1), (2, .int (0 : Int32)), (3, .int (0 : Int32)), (4, .int (0 : Int32)), (5, .int (0 : Int32))]) (st' := [.ref 1, .int (0 : Int32)]) rfl ?_
  refine w_cv (H.te (by decide) rfl).1 (pc' := 62) (L' := [(0, .ref 120), (1, .ref 1), (2, .int (0 : Int32)), (3, .int (0 : Int32)), (4, .int (0 : Int32)), (5, .int (0 : Int32))]) (rest := [.int (0 : Int32)]) (Ps := []) (L0 := [(0, .ref 1)]) h_m102 (z_at.mk 3 rfl rfl) (Or.inl ⟨rfl, rfl⟩) rfl rfl (by decide) (by decide) rfl rfl rfl rfl rfl rfl (by decide) rfl rfl rfl ?_
  refine w_p h_m293 1 (pc' := 1) (L' := [(0, .ref 1)]) (st' := [.ref 1]) rfl ?_
  refine w_gs H (pc' := 4) (L' := [(0, .ref 1)]) h_m293 (z_at.mk 3 rfl rfl) rfl (by decide) rfl rfl rfl rfl ?_
  refine w_lene H (x := (39 : Int32)) (pc' := 5) (L' := [(0, .ref 1)]) h_m293 (z_at.mk 1 rfl rfl) (by decide) rfl (by decide) rfl rfl rfl ?_
  refine w_p h_m293 1 (pc' := 6) (L' := [(0, .ref 1)]) (st' := [.ref 1, .int (39 : Int32)]) rfl ?_
  refine w_cv (H.te (by decide) rfl).1 (pc' := 9) (L' := [(0, .ref 1)]) (rest := [.int (39 : Int32)]) (Ps := []) (L0 := [(0, .ref 1)]) h_m293 (z_at.mk 3 rfl rfl) (Or.inl ⟨rfl, rfl⟩) rfl rfl (by decide) (by decide) rfl rfl rfl rfl rfl rfl (by decide) rfl rfl rfl ?_
  refine w_p h_m298 3 (pc' := 7) (L' := [(0, .ref 1)]) (st' := [.ref 1]) rfl ?_
  refine w_gs H (pc' := 10) (L' := [(0, .ref 1)]) h_m298 (z_at.mk 3 rfl rfl) rfl (by decide) rfl rfl rfl rfl ?_
  refine w_p h_m298 1 (pc' := 14) (L' := []) (st' := [.int (0 : Int32)]) rfl ?_
  refine w_ri h_m298 (z_at.mk 1 rfl rfl) rfl rfl ?_
  show z_W 996 293 9 [(0, .ref 1)] [.int (0 : Int32), .int (39 : Int32)] m _
  refine w_p h_m293 1 (pc' := 10) (L' := [(0, .ref 1)]) (st' := [.int (39 : Int32)]) rfl ?_
  refine w_ri h_m293 (z_at.mk 1 rfl rfl) rfl rfl ?_
  show z_W 997 102 62 [(0, .ref 120), (1, .ref 1), (2, .int (0 : Int32)), (3, .int (0 : Int32)), (4, .int (0 : Int32)), (5, .int (0 : Int32))] [.int (39 : Int32), .int (0 : Int32)] m _
  refine w_p h_m102 3 (pc' := 68) (L' := [(0, .ref 120), (1, .ref 1), (2, .int (0 : Int32)), (3, .int (0 : Int32)), (4, .int (0 : Int32)), (5, .int (0 : Int32))]) (st' := [.ref 1, .int (0 : Int32)]) rfl ?_
  refine w_cv (H.te (by decide) rfl).1 (pc' := 71) (L' := [(0, .ref 120), (1, .ref 1), (2, .int (0 : Int32)), (3, .int (0 : Int32)), (4, .int (0 : Int32)), (5, .int (0 : Int32))]) (rest := [.int (0 : Int32)]) (Ps := []) (L0 := [(0, .ref 1)]) h_m102 (z_at.mk 3 rfl rfl) (Or.inl ⟨rfl, rfl⟩) rfl rfl (by decide) (by decide) rfl rfl rfl rfl rfl rfl (by decide) rfl rfl rfl ?_
  refine w_p h_m293 1 (pc' := 1) (L' := [(0, .ref 1)]) (st' := [.ref 1]) rfl ?_
  refine w_gs H (pc' := 4) (L' := [(0, .ref 1)]) h_m293 (z_at.mk 3 rfl rfl) rfl (by decide) rfl rfl rfl rfl ?_
  refine w_lene H (x := (39 : Int32)) (pc' := 5) (L' := [(0, .ref 1)]) h_m293 (z_at.mk 1 rfl rfl) (by decide) rfl (by decide) rfl rfl rfl ?_
  refine w_p h_m293 1 (pc' := 6) (L' := [(0, .ref 1)]) (st' := [.ref 1, .int (39 : Int32)]) rfl ?_
  refine w_cv (H.te (by decide) rfl).1 (pc' := 9) (L' := [(0, .ref 1)]) (rest := [.int (39 : Int32)]) (Ps := []) (L0 := [(0, .ref 1)]) h_m293 (z_at.mk 3 rfl rfl) (Or.inl ⟨rfl, rfl⟩) rfl rfl (by decide) (by decide) rfl rfl rfl rfl rfl rfl (by decide) rfl rfl rfl ?_
  refine w_p h_m298 3 (pc' := 7) (L' := [(0, .ref 1)]) (st' := [.ref 1]) rfl ?_
  refine w_gs H (pc' := 10) (L' := [(0, .ref 1)]) h_m298 (z_at.mk 3 rfl rfl) rfl (by decide) rfl rfl rfl rfl ?_
  refine w_p h_m298 1 (pc' := 14) (L' := []) (st' := [.int (0 : Int32)]) rfl ?_
  refine w_ri h_m298 (z_at.mk 1 rfl rfl) rfl rfl ?_
  show z_W 996 293 9 [(0, .ref 1)] [.int (0 : Int32), .int (39 : Int32)] m _
  refine w_p h_m293 1 (pc' := 10) (L' := [(0, .ref 1)]) (st' := [.int (39 : Int32)]) rfl ?_
  refine w_ri h_m293 (z_at.mk 1 rfl rfl) rfl rfl ?_
  show z_W 997 102 71 [(0, .ref 120), (1, .ref 1), (2, .int (0 : Int32)), (3, .int (0 : Int32)), (4, .int (0 : Int32)), (5, .int (0 : Int32))] [.int (39 : Int32), .int (0 : Int32)] m _
  refine w_p h_m102 3 (pc' := 77) (L' := [(0, .ref 120), (1, .ref 1), (2, .int (0 : Int32)), (3, .int (0 : Int32)), (4, .int (0 : Int32)), (5, .int (0 : Int32))]) (st' := [.int (0 : Int32), .ref 1]) rfl ?_
  refine w_cv (H.te (by decide) rfl).1 (pc' := 80) (L' := [(0, .ref 120), (1, .ref 1), (2, .int (0 : Int32)), (3, .int (0 : Int32)), (4, .int (0 : Int32)), (5, .int (0 : Int32))]) (rest := []) (Ps := [.int (0 : Int32)]) (L0 := [(0, .ref 1), (1, .int (0 : Int32))]) h_m102 (z_at.mk 3 rfl rfl) (Or.inl ⟨rfl, rfl⟩) rfl rfl (by decide) (by decide) rfl rfl rfl rfl rfl rfl (by decide) rfl rfl rfl ?_
  refine w_p h_m294 1 (pc' := 1) (L' := [(0, .ref 1), (1, .int (0 : Int32))]) (st' := [.ref 1]) rfl ?_
  refine w_cv (H.te (by decide) rfl).1 (pc' := 4) (L' := [(0, .ref 1), (1, .int (0 : Int32))]) (rest := []) (Ps := []) (L0 := [(0, .ref 1)]) h_m294 (z_at.mk 3 rfl rfl) (Or.inl ⟨rfl, rfl⟩) rfl rfl (by decide) (by decide) rfl rfl rfl rfl rfl rfl (by decide) rfl rfl rfl ?_
  refine w_p h_m299 3 (pc' := 7) (L' := [(0, .ref 1)]) (st' := [.ref 1]) rfl ?_
  refine w_gs H (pc' := 10) (L' := [(0, .ref 1)]) h_m299 (z_at.mk 3 rfl rfl) rfl (by decide) rfl rfl rfl rfl ?_
  refine w_p h_m299 3 (pc' := 18) (L' := []) (st' := [.int (1 : Int32)]) rfl ?_
  refine w_ri h_m299 (z_at.mk 1 rfl rfl) rfl rfl ?_
  show z_W 996 294 4 [(0, .ref 1), (1, .int (0 : Int32))] [.int (1 : Int32)] m _
  refine w_p h_m294 2 (pc' := 8) (L' := [(0, .ref 1), (1, .int (0 : Int32))]) (st' := [.ref 1]) rfl ?_
  refine w_gs H (pc' := 11) (L' := [(0, .ref 1), (1, .int (0 : Int32))]) h_m294 (z_at.mk 3 rfl rfl) rfl (by decide) rfl rfl rfl rfl ?_
  refine w_p h_m294 1 (pc' := 12) (L' := [(0, .ref 1), (1, .int (0 : Int32))]) (st' := [.int (0 : Int32), .ref 19]) rfl ?_
  refine w_cs (As := [.ref 19, .int (0 : Int32)]) (rest := []) (j := 308) (L0 := [(0, .ref 19), (1, .int (0 : Int32))]) (pc' := 15) (L' := [(0, .ref 1), (1, .int (0 : Int32))]) h_m294 (z_at.mk 3 rfl rfl) (Or.inl ⟨rfl, rfl⟩) rfl rfl rfl rfl rfl ?_
  refine w_p h_m308 2 (pc' := 2) (L' := [(0, .ref 19), (1, .int (0 : Int32))]) (st' := [.ref 19, .int (0 : Int32)]) rfl ?_
  refine w_lene H (x := (39 : Int32)) (pc' := 3) (L' := [(0, .ref 19), (1, .int (0 : Int32))]) h_m308 (z_at.mk 1 rfl rfl) (by decide) rfl (by decide) rfl rfl rfl ?_
  refine w_ci (pc' := 6) (L' := [(0, .ref 19), (1, .int (0 : Int32))]) h_m308 (z_at.mk 3 rfl rfl) rfl (z_cat_le 0 rfl (by decide)) ⟨by decide, by decide⟩ rfl rfl ?_
  refine w_p h_m308 2 (pc' := 8) (L' := [(0, .ref 19), (1, .int (0 : Int32))]) (st' := [.int (0 : Int32), .ref 19]) rfl ?_
  refine w_ae H (j := 0) (pc' := 9) (L' := [(0, .ref 19), (1, .int (0 : Int32))]) h_m308 (z_at.mk 1 rfl rfl) rfl rfl rfl (by decide) rfl (by decide) rfl rfl rfl ?_
  refine w_p h_m308 3 (pc' := 14) (L' := [(0, .ref 19), (1, .int (0 : Int32))]) (st' := [.int (115 : Int32)]) rfl ?_
  refine w_ri h_m308 (z_at.mk 1 rfl rfl) rfl rfl ?_
  show z_W 996 294 15 [(0, .ref 1), (1, .int (0 : Int32))] [.int (115 : Int32)] m _
  refine w_ri h_m294 (z_at.mk 1 rfl rfl) rfl rfl ?_
  show z_W 997 102 80 [(0, .ref 120), (1, .ref 1), (2, .int (0 : Int32)), (3, .int (0 : Int32)), (4, .int (0 : Int32)), (5, .int (0 : Int32))] [.int (115 : Int32)] m _
  refine w_p h_m102 6 (pc' := 59) (L' := [(0, .ref 120), (1, .ref 1), (2, .int (0 : Int32)), (3, .int (0 : Int32)), (4, .int (0 : Int32)), (5, .int (1 : Int32))]) (st' := [.ref 1, .int (1 : Int32)]) rfl ?_
  refine w_cv (H.te (by decide) rfl).1 (pc' := 62) (L' := [(0, .ref 120), (1, .ref 1), (2, .int (0 : Int32)), (3, .int (0 : Int32)), (4, .int (0 : Int32)), (5, .int (1 : Int32))]) (rest := [.int (1 : Int32)]) (Ps := []) (L0 := [(0, .ref 1)]) h_m102 (z_at.mk 3 rfl rfl) (Or.inl ⟨rfl, rfl⟩) rfl rfl (by decide) (by decide) rfl rfl rfl rfl rfl rfl (by decide) rfl rfl rfl ?_
  refine w_p h_m293 1 (pc' := 1) (L' := [(0, .ref 1)]) (st' := [.ref 1]) rfl ?_
  refine w_gs H (pc' := 4) (L' := [(0, .ref 1)]) h_m293 (z_at.mk 3 rfl rfl) rfl (by decide) rfl rfl rfl rfl ?_
  refine w_lene H (x := (39 : Int32)) (pc' := 5) (L' := [(0, .ref 1)]) h_m293 (z_at.mk 1 rfl rfl) (by decide) rfl (by decide) rfl rfl rfl ?_
  refine w_p h_m293 1 (pc' := 6) (L' := [(0, .ref 1)]) (st' := [.ref 1, .int (39 : Int32)]) rfl ?_
  refine w_cv (H.te (by decide) rfl).1 (pc' := 9) (L' := [(0, .ref 1)]) (rest := [.int (39 : Int32)]) (Ps := []) (L0 := [(0, .ref 1)]) h_m293 (z_at.mk 3 rfl rfl) (Or.inl ⟨rfl, rfl⟩) rfl rfl (by decide) (by decide) rfl rfl rfl rfl rfl rfl (by decide) rfl rfl rfl ?_
  refine w_p h_m298 3 (pc' := 7) (L' := [(0, .ref 1)]) (st' := [.ref 1]) rfl ?_
  refine w_gs H (pc' := 10) (L' := [(0, .ref 1)]) h_m298 (z_at.mk 3 rfl rfl) rfl (by decide) rfl rfl rfl rfl ?_
  refine w_p h_m298 1 (pc' := 14) (L' := []) (st' := [.int (0 : Int32)]) rfl ?_
  refine w_ri h_m298 (z_at.mk 1 rfl rfl) rfl rfl ?_
  show z_W 996 293 9 [(0, .ref 1)] [.int (0 : Int32), .int (39 : Int32)] m _
  refine w_p h_m293 1 (pc' := 10) (L' := [(0, .ref 1)]) (st' := [.int (39 : Int32)]) rfl ?_
  refine w_ri h_m293 (z_at.mk 1 rfl rfl) rfl rfl ?_
  show z_W 997 102 62 [(0, .ref 120), (1, .ref 1), (2, .int (0 : Int32)), (3, .int (0 : Int32)), (4, .int (0 : Int32)), (5, .int (1 : Int32))] [.int (39 : Int32), .int (1 : Int32)] m _
  refine w_p h_m102 3 (pc' := 68) (L' := [(0, .ref 120), (1, .ref 1), (2, .int (0 : Int32)), (3, .int (0 : Int32)), (4, .int (0 : Int32)), (5, .int (1 : Int32))]) (st' := [.ref 1, .int (1 : Int32)]) rfl ?_
  refine w_cv (H.te (by decide) rfl).1 (pc' := 71) (L' := [(0, .ref 120), (1, .ref 1), (2, .int (0 : Int32)), (3, .int (0 : Int32)), (4, .int (0 : Int32)), (5, .int (1 : Int32))]) (rest := [.int (1 : Int32)]) (Ps := []) (L0 := [(0, .ref 1)]) h_m102 (z_at.mk 3 rfl rfl) (Or.inl ⟨rfl, rfl⟩) rfl rfl (by decide) (by decide) rfl rfl rfl rfl rfl rfl (by decide) rfl rfl rfl ?_
  refine w_p h_m293 1 (pc' := 1) (L' := [(0, .ref 1)]) (st' := [.ref 1]) rfl ?_
  refine w_gs H (pc' := 4) (L' := [(0, .ref 1)]) h_m293 (z_at.mk 3 rfl rfl) rfl (by decide) rfl rfl rfl rfl ?_
  refine w_lene H (x := (39 : Int32)) (pc' := 5) (L' := [(0, .ref 1)]) h_m293 (z_at.mk 1 rfl rfl) (by decide) rfl (by decide) rfl rfl rfl ?_
  refine w_p h_m293 1 (pc' := 6) (L' := [(0, .ref 1)]) (st' := [.ref 1, .int (39 : Int32)]) rfl ?_
  refine w_cv (H.te (by decide) rfl).1 (pc' := 9) (L' := [(0, .ref 1)]) (rest := [.int (39 : Int32)]) (Ps := []) (L0 := [(0, .ref 1)]) h_m293 (z_at.mk 3 rfl rfl) (Or.inl ⟨rfl, rfl⟩) rfl rfl (by decide) (by decide) rfl rfl rfl rfl rfl rfl (by decide) rfl rfl rfl ?_
  refine w_p h_m298 3 (pc' := 7) (L' := [(0, .ref 1)]) (st' := [.ref 1]) rfl ?_
  refine w_gs H (pc' := 10) (L' := [(0, .ref 1)]) h_m298 (z_at.mk 3 rfl rfl) rfl (by decide) rfl rfl rfl rfl ?_
  refine w_p h_m298 1 (pc' := 14) (L' := []) (st' := [.int (0 : Int32)]) rfl ?_
  refine w_ri h_m298 (z_at.mk 1 rfl rfl) rfl rfl ?_
  show z_W 996 293 9 [(0, .ref 1)] [.int (0 : Int32), .int (39 : Int32)] m _
  refine w_p h_m293 1 (pc' := 10) (L' := [(0, .ref 1)]) (st' := [.int (39 : Int32)]) rfl ?_
  refine w_ri h_m293 (z_at.mk 1 rfl rfl) rfl rfl ?_
  show z_W 997 102 71 [(0, .ref 120), (1, .ref 1), (2, .int (0 : Int32)), (3, .int (0 : Int32)), (4, .int (0 : Int32)), (5, .int (1 : Int32))] [.int (39 : Int32), .int (1 : Int32)] m _
  refine w_p h_m102 3 (pc' := 77) (L' := [(0, .ref 120), (1, .ref 1), (2, .int (0 : Int32)), (3, .int (0 : Int32)), (4, .int (0 : Int32)), (5, .int (1 : Int32))]) (st' := [.int (1 : Int32), .ref 1]) rfl ?_
  refine w_cv (H.te (by decide) rfl).1 (pc' := 80) (L' := [(0, .ref 120), (1, .ref 1), (2, .int (0 : Int32)), (3, .int (0 : Int32)), (4, .int (0 : Int32)), (5, .int (1 : Int32))]) (rest := []) (Ps := [.int (1 : Int32)]) (L0 := [(0, .ref 1), (1, .int (1 : Int32))]) h_m102 (z_at.mk 3 rfl rfl) (Or.inl ⟨rfl, rfl⟩) rfl rfl (by decide) (by decide) rfl rfl rfl rfl rfl rfl (by decide) rfl rfl rfl ?_
  refine w_p h_m294 1 (pc' := 1) (L' := [(0, .ref 1), (1, .int (1 : Int32))]) (st' := [.ref 1]) rfl ?_
  refine w_cv (H.te (by decide) rfl).1 (pc' := 4) (L' := [(0, .ref 1), (1, .int (1 : Int32))]) (rest := []) (Ps := []) (L0 := [(0, .ref 1)]) h_m294 (z_at.mk 3 rfl rfl) (Or.inl ⟨rfl, rfl⟩) rfl rfl (by decide) (by decide) rfl rfl rfl rfl rfl rfl (by decide) rfl rfl rfl ?_
  refine w_p h_m299 3 (pc' := 7) (L' := [(0, .ref 1)]) (st' := [.ref 1]) rfl ?_
  refine w_gs H (pc' := 10) (L' := [(0, .ref 1)]) h_m299 (z_at.mk 3 rfl rfl) rfl (by decide) rfl rfl rfl rfl ?_
  refine w_p h_m299 3 (pc' := 18) (L' := []) (st' := [.int (1 : Int32)]) rfl ?_
  refine w_ri h_m299 (z_at.mk 1 rfl rfl) rfl rfl ?_
  show z_W 996 294 4 [(0, .ref 1), (1, .int (1 : Int32))] [.int (1 : Int32)] m _
  refine w_p h_m294 2 (pc' := 8) (L' := [(0, .ref 1), (1, .int (1 : Int32))]) (st' := [.ref 1]) rfl ?_
  refine w_gs H (pc' := 11) (L' := [(0, .ref 1), (1, .int (1 : Int32))]) h_m294 (z_at.mk 3 rfl rfl) rfl (by decide) rfl rfl rfl rfl ?_
  refine w_p h_m294 1 (pc' := 12) (L' := [(0, .ref 1), (1, .int (1 : Int32))]) (st' := [.int (1 : Int32), .ref 19]) rfl ?_
  refine w_cs (As := [.ref 19, .int (1 : Int32)]) (rest := []) (j := 308) (L0 := [(0, .ref 19), (1, .int (1 : Int32))]) (pc' := 15) (L' := [(0, .ref 1), (1, .int (1 : Int32))]) h_m294 (z_at.mk 3 rfl rfl) (Or.inl ⟨rfl, rfl⟩) rfl rfl rfl rfl rfl ?_
  refine w_p h_m308 2 (pc' := 2) (L' := [(0, .ref 19), (1, .int (1 : Int32))]) (st' := [.ref 19, .int (1 : Int32)]) rfl ?_
  refine w_lene H (x := (39 : Int32)) (pc' := 3) (L' := [(0, .ref 19), (1, .int (1 : Int32))]) h_m308 (z_at.mk 1 rfl rfl) (by decide) rfl (by decide) rfl rfl rfl ?_
  refine w_ci (pc' := 6) (L' := [(0, .ref 19), (1, .int (1 : Int32))]) h_m308 (z_at.mk 3 rfl rfl) rfl (z_cat_le 0 rfl (by decide)) ⟨by decide, by decide⟩ rfl rfl ?_
  refine w_p h_m308 2 (pc' := 8) (L' := [(0, .ref 19), (1, .int (1 : Int32))]) (st' := [.int (1 : Int32), .ref 19]) rfl ?_
  refine w_ae H (j := 1) (pc' := 9) (L' := [(0, .ref 19), (1, .int (1 : Int32))]) h_m308 (z_at.mk 1 rfl rfl) rfl rfl rfl (by decide) rfl (by decide) rfl rfl rfl ?_
  refine w_p h_m308 3 (pc' := 14) (L' := [(0, .ref 19), (1, .int (1 : Int32))]) (st' := [.int (101 : Int32)]) rfl ?_
  refine w_ri h_m308 (z_at.mk 1 rfl rfl) rfl rfl ?_
  show z_W 996 294 15 [(0, .ref 1), (1, .int (1 : Int32))] [.int (101 : Int32)] m _
  refine w_ri h_m294 (z_at.mk 1 rfl rfl) rfl rfl ?_
  show z_W 997 102 80 [(0, .ref 120), (1, .ref 1), (2, .int (0 : Int32)), (3, .int (0 : Int32)), (4, .int (0 : Int32)), (5, .int (1 : Int32))] [.int (101 : Int32)] m _
  refine w_p h_m102 6 (pc' := 59) (L' := [(0, .ref 120), (1, .ref 1), (2, .int (0 : Int32)), (3, .int (0 : Int32)), (4, .int (0 : Int32)), (5, .int (2 : Int32))]) (st' := [.ref 1, .int (2 : Int32)]) rfl ?_
  refine w_cv (H.te (by decide) rfl).1 (pc' := 62) (L' := [(0, .ref 120), (1, .ref 1), (2, .int (0 : Int32)), (3, .int (0 : Int32)), (4, .int (0 : Int32)), (5, .int (2 : Int32))]) (rest := [.int (2 : Int32)]) (Ps := []) (L0 := [(0, .ref 1)]) h_m102 (z_at.mk 3 rfl rfl) (Or.inl ⟨rfl, rfl⟩) rfl rfl (by decide) (by decide) rfl rfl rfl rfl rfl rfl (by decide) rfl rfl rfl ?_
  refine w_p h_m293 1 (pc' := 1) (L' := [(0, .ref 1)]) (st' := [.ref 1]) rfl ?_
  refine w_gs H (pc' := 4) (L' := [(0, .ref 1)]) h_m293 (z_at.mk 3 rfl rfl) rfl (by decide) rfl rfl rfl rfl ?_
  refine w_lene H (x := (39 : Int32)) (pc' := 5) (L' := [(0, .ref 1)]) h_m293 (z_at.mk 1 rfl rfl) (by decide) rfl (by decide) rfl rfl rfl ?_
  refine w_p h_m293 1 (pc' := 6) (L' := [(0, .ref 1)]) (st' := [.ref 1, .int (39 : Int32)]) rfl ?_
  refine w_cv (H.te (by decide) rfl).1 (pc' := 9) (L' := [(0, .ref 1)]) (rest := [.int (39 : Int32)]) (Ps := []) (L0 := [(0, .ref 1)]) h_m293 (z_at.mk 3 rfl rfl) (Or.inl ⟨rfl, rfl⟩) rfl rfl (by decide) (by decide) rfl rfl rfl rfl rfl rfl (by decide) rfl rfl rfl ?_
  refine w_p h_m298 3 (pc' := 7) (L' := [(0, .ref 1)]) (st' := [.ref 1]) rfl ?_
  refine w_gs H (pc' := 10) (L' := [(0, .ref 1)]) h_m298 (z_at.mk 3 rfl rfl) rfl (by decide) rfl rfl rfl rfl ?_
  refine w_p h_m298 1 (pc' := 14) (L' := []) (st' := [.int (0 : Int32)]) rfl ?_
  refine w_ri h_m298 (z_at.mk 1 rfl rfl) rfl rfl ?_
  show z_W 996 293 9 [(0, .ref 1)] [.int (0 : Int32), .int (39 : Int32)] m _
  refine w_p h_m293 1 (pc' := 10) (L' := [(0, .ref 1)]) (st' := [.int (39 : Int32)]) rfl ?_
  refine w_ri h_m293 (z_at.mk 1 rfl rfl) rfl rfl ?_
  show z_W 997 102 62 [(0, .ref 120), (1, .ref 1), (2, .int (0 : Int32)), (3, .int (0 : Int32)), (4, .int (0 : Int32)), (5, .int (2 : Int32))] [.int (39 : Int32), .int (2 : Int32)] m _
  refine w_p h_m102 3 (pc' := 68) (L' := [(0, .ref 120), (1, .ref 1), (2, .int (0 : Int32)), (3, .int (0 : Int32)), (4, .int (0 : Int32)), (5, .int (2 : Int32))]) (st' := [.ref 1, .int (2 : Int32)]) rfl ?_
  refine w_cv (H.te (by decide) rfl).1 (pc' := 71) (L' := [(0, .ref 120), (1, .ref 1), (2, .int (0 : Int32)), (3, .int (0 : Int32)), (4, .int (0 : Int32)), (5, .int (2 : Int32))]) (rest := [.int (2 : Int32)]) (Ps := []) (L0 := [(0, .ref 1)]) h_m102 (z_at.mk 3 rfl rfl) (Or.inl ⟨rfl, rfl⟩) rfl rfl (by decide) (by decide) rfl rfl rfl rfl rfl rfl (by decide) rfl rfl rfl ?_
  refine w_p h_m293 1 (pc' := 1) (L' := [(0, .ref 1)]) (st' := [.ref 1]) rfl ?_
  refine w_gs H (pc' := 4) (L' := [(0, .ref 1)]) h_m293 (z_at.mk 3 rfl rfl) rfl (by decide) rfl rfl rfl rfl ?_
  refine w_lene H (x := (39 : Int32)) (pc' := 5) (L' := [(0, .ref 1)]) h_m293 (z_at.mk 1 rfl rfl) (by decide) rfl (by decide) rfl rfl rfl ?_
  refine w_p h_m293 1 (pc' := 6) (L' := [(0, .ref 1)]) (st' := [.ref 1, .int (39 : Int32)]) rfl ?_
  refine w_cv (H.te (by decide) rfl).1 (pc' := 9) (L' := [(0, .ref 1)]) (rest := [.int (39 : Int32)]) (Ps := []) (L0 := [(0, .ref 1)]) h_m293 (z_at.mk 3 rfl rfl) (Or.inl ⟨rfl, rfl⟩) rfl rfl (by decide) (by decide) rfl rfl rfl rfl rfl rfl (by decide) rfl rfl rfl ?_
  refine w_p h_m298 3 (pc' := 7) (L' := [(0, .ref 1)]) (st' := [.ref 1]) rfl ?_
  refine w_gs H (pc' := 10) (L' := [(0, .ref 1)]) h_m298 (z_at.mk 3 rfl rfl) rfl (by decide) rfl rfl rfl rfl ?_
  refine w_p h_m298 1 (pc' := 14) (L' := []) (st' := [.int (0 : Int32)]) rfl ?_
  refine w_ri h_m298 (z_at.mk 1 rfl rfl) rfl rfl ?_
  show z_W 996 293 9 [(0, .ref 1)] [.int (0 : Int32), .int (39 : Int32)] m _
  refine w_p h_m293 1 (pc' := 10) (L' := [(0, .ref 1)]) (st' := [.int (39 : Int32)]) rfl ?_
  refine w_ri h_m293 (z_at.mk 1 rfl rfl) rfl rfl ?_
  show z_W 997 102 71 [(0, .ref 120), (1, .ref 1), (2, .int (0 : Int32)), (3, .int (0 : Int32)), (4, .int (0 : Int32)), (5, .int (2 : Int32))] [.int (39 : Int32), .int (2 : Int32)] m _
  refine w_p h_m102 3 (pc' := 77) (L' := [(0, .ref 120), (1, .ref 1), (2, .int (0 : Int32)), (3, .int (0 : Int32)), (4, .int (0 : Int32)), (5, .int (2 : Int32))]) (st' := [.int (2 : Int32), .ref 1]) rfl ?_
  refine w_cv (H.te (by decide) rfl).1 (pc' := 80) (L' := [(0, .ref 120), (1, .ref 1), (2, .int (0 : Int32)), (3, .int (0 : Int32)), (4, .int (0 : Int32)), (5, .int (2 : Int32))]) (rest := []) (Ps := [.int (2 : Int32)]) (L0 := [(0, .ref 1), (1, .int (2 : Int32))]) h_m102 (z_at.mk 3 rfl rfl) (Or.inl ⟨rfl, rfl⟩) rfl rfl (by decide) (by decide) rfl rfl rfl rfl rfl rfl (by decide) rfl rfl rfl ?_
  refine w_p h_m294 1 (pc' := 1) (L' := [(0, .ref 1), (1, .int (2 : Int32))]) (st' := [.ref 1]) rfl ?_
  refine w_cv (H.te (by decide) rfl).1 (pc' := 4) (L' := [(0, .ref 1), (1, .int (2 : Int32))]) (rest := []) (Ps := []) (L0 := [(0, .ref 1)]) h_m294 (z_at.mk 3 rfl rfl) (Or.inl ⟨rfl, rfl⟩) rfl rfl (by decide) (by decide) rfl rfl rfl rfl rfl rfl (by decide) rfl rfl rfl ?_
  refine w_p h_m299 3 (pc' := 7) (L' := [(0, .ref 1)]) (st' := [.ref 1]) rfl ?_
  refine w_gs H (pc' := 10) (L' := [(0, .ref 1)]) h_m299 (z_at.mk 3 rfl rfl) rfl (by decide) rfl rfl rfl rfl ?_
  refine w_p h_m299 3 (pc' := 18) (L' := []) (st' := [.int (1 : Int32)]) rfl ?_
  refine w_ri h_m299 (z_at.mk 1 rfl rfl) rfl rfl ?_
  show z_W 996 294 4 [(0, .ref 1), (1, .int (2 : Int32))] [.int (1 : Int32)] m _
  refine w_p h_m294 2 (pc' := 8) (L' := [(0, .ref 1), (1, .int (2 : Int32))]) (st' := [.ref 1]) rfl ?_
  refine w_gs H (pc' := 11) (L' := [(0, .ref 1), (1, .int (2 : Int32))]) h_m294 (z_at.mk 3 rfl rfl) rfl (by decide) rfl rfl rfl rfl ?_
  refine w_p h_m294 1 (pc' := 12) (L' := [(0, .ref 1), (1, .int (2 : Int32))]) (st' := [.int (2 : Int32), .ref 19]) rfl ?_
  refine w_cs (As := [.ref 19, .int (2 : Int32)]) (rest := []) (j := 308) (L0 := [(0, .ref 19), (1, .int (2 : Int32))]) (pc' := 15) (L' := [(0, .ref 1), (1, .int (2 : Int32))]) h_m294 (z_at.mk 3 rfl rfl) (Or.inl ⟨rfl, rfl⟩) rfl rfl rfl rfl rfl ?_
  refine w_p h_m308 2 (pc' := 2) (L' := [(0, .ref 19), (1, .int (2 : Int32))]) (st' := [.ref 19, .int (2 : Int32)]) rfl ?_
  refine w_lene H (x := (39 : Int32)) (pc' := 3) (L' := [(0, .ref 19), (1, .int (2 : Int32))]) h_m308 (z_at.mk 1 rfl rfl) (by decide) rfl (by decide) rfl rfl rfl ?_
  refine w_ci (pc' := 6) (L' := [(0, .ref 19), (1, .int (2 : Int32))]) h_m308 (z_at.mk 3 rfl rfl) rfl (z_cat_le 0 rfl (by decide)) ⟨by decide, by decide⟩ rfl rfl ?_
  refine w_p h_m308 2 (pc' := 8) (L' := [(0, .ref 19), (1, .int (2 : Int32))]) (st' := [.int (2 : Int32), .ref 19]) rfl ?_
  refine w_ae H (j := 2) (pc' := 9) (L' := [(0, .ref 19), (1, .int (2 : Int32))]) h_m308 (z_at.mk 1 rfl rfl) rfl rfl rfl (by decide) rfl (by decide) rfl rfl rfl ?_
  refine w_p h_m308 3 (pc' := 14) (L' := [(0, .ref 19), (1, .int (2 : Int32))]) (st' := [.int (116 : Int32)]) rfl ?_
  refine w_ri h_m308 (z_at.mk 1 rfl rfl) rfl rfl ?_
  show z_W 996 294 15 [(0, .ref 1), (1, .int (2 : Int32))] [.int (116 : Int32)] m _
  refine w_ri h_m294 (z_at.mk 1 rfl rfl) rfl rfl ?_
  show z_W 997 102 80 [(0, .ref 120), (1, .ref 1), (2, .int (0 : Int32)), (3, .int (0 : Int32)), (4, .int (0 : Int32)), (5, .int (2 : Int32))] [.int (116 : Int32)] m _
  refine w_p h_m102 6 (pc' := 59) (L' := [(0, .ref 120), (1, .ref 1), (2, .int (0 : Int32)), (3, .int (0 : Int32)), (4, .int (0 : Int32)), (5, .int (3 : Int32))]) (st' := [.ref 1, .int (3 : Int32)]) rfl ?_
  refine w_cv (H.te (by decide) rfl).1 (pc' := 62) (L' := [(0, .ref 120), (1, .ref 1), (2, .int (0 : Int32)), (3, .int (0 : Int32)), (4, .int (0 : Int32)), (5, .int (3 : Int32))]) (rest := [.int (3 : Int32)]) (Ps := []) (L0 := [(0, .ref 1)]) h_m102 (z_at.mk 3 rfl rfl) (Or.inl ⟨rfl, rfl⟩) rfl rfl (by decide) (by decide) rfl rfl rfl rfl rfl rfl (by decide) rfl rfl rfl ?_
  refine w_p h_m293 1 (pc' := 1) (L' := [(0, .ref 1)]) (st' := [.ref 1]) rfl ?_
  refine w_gs H (pc' := 4) (L' := [(0, .ref 1)]) h_m293 (z_at.mk 3 rfl rfl) rfl (by decide) rfl rfl rfl rfl ?_
  refine w_lene H (x := (39 : Int32)) (pc' := 5) (L' := [(0, .ref 1)]) h_m293 (z_at.mk 1 rfl rfl) (by decide) rfl (by decide) rfl rfl rfl ?_
  refine w_p h_m293 1 (pc' := 6) (L' := [(0, .ref 1)]) (st' := [.ref 1, .int (39 : Int32)]) rfl ?_
  refine w_cv (H.te (by decide) rfl).1 (pc' := 9) (L' := [(0, .ref 1)]) (rest := [.int (39 : Int32)]) (Ps := []) (L0 := [(0, .ref 1)]) h_m293 (z_at.mk 3 rfl rfl) (Or.inl ⟨rfl, rfl⟩) rfl rfl (by decide) (by decide) rfl rfl rfl rfl rfl rfl (by decide) rfl rfl rfl ?_
  refine w_p h_m298 3 (pc' := 7) (L' := [(0, .ref 1)]) (st' := [.ref 1]) rfl ?_
  refine w_gs H (pc' := 10) (L' := [(0, .ref 1)]) h_m298 (z_at.mk 3 rfl rfl) rfl (by decide) rfl rfl rfl rfl ?_
  refine w_p h_m298 1 (pc' := 14) (L' := []) (st' := [.int (0 : Int32)]) rfl ?_
  refine w_ri h_m298 (z_at.mk 1 rfl rfl) rfl rfl ?_
  show z_W 996 293 9 [(0, .ref 1)] [.int (0 : Int32), .int (39 : Int32)] m _
  refine w_p h_m293 1 (pc' := 10) (L' := [(0, .ref 1)]) (st' := [.int (39 : Int32)]) rfl ?_
  refine w_ri h_m293 (z_at.mk 1 rfl rfl) rfl rfl ?_
  show z_W 997 102 62 [(0, .ref 120), (1, .ref 1), (2, .int (0 : Int32)), (3, .int (0 : Int32)), (4, .int (0 : Int32)), (5, .int (3 : Int32))] [.int (39 : Int32), .int (3 : Int32)] m _
  refine w_p h_m102 3 (pc' := 68) (L' := [(0, .ref 120), (1, .ref 1), (2, .int (0 : Int32)), (3, .int (0 : Int32)), (4, .int (0 : Int32)), (5, .int (3 : Int32))]) (st' := [.ref 1, .int (3 : Int32)]) rfl ?_
  refine w_cv (H.te (by decide) rfl).1 (pc' := 71) (L' := [(0, .ref 120), (1, .ref 1), (2, .int (0 : Int32)), (3, .int (0 : Int32)), (4, .int (0 : Int32)), (5, .int (3 : Int32))]) (rest := [.int (3 : Int32)]) (Ps := []) (L0 := [(0, .ref 1)]) h_m102 (z_at.mk 3 rfl rfl) (Or.inl ⟨rfl, rfl⟩) rfl rfl (by decide) (by decide) rfl rfl rfl rfl rfl rfl (by decide) rfl rfl rfl ?_
  refine w_p h_m293 1 (pc' := 1) (L' := [(0, .ref 1)]) (st' := [.ref 1]) rfl ?_
  refine w_gs H (pc' := 4) (L' := [(0, .ref 1)]) h_m293 (z_at.mk 3 rfl rfl) rfl (by decide) rfl rfl rfl rfl ?_
  refine w_lene H (x := (39 : Int32)) (pc' := 5) (L' := [(0, .ref 1)]) h_m293 (z_at.mk 1 rfl rfl) (by decide) rfl (by decide) rfl rfl rfl ?_
  refine w_p h_m293 1 (pc' := 6) (L' := [(0, .ref 1)]) (st' := [.ref 1, .int (39 : Int32)]) rfl ?_
  refine w_cv (H.te (by decide) rfl).1 (pc' := 9) (L' := [(0, .ref 1)]) (rest := [.int (39 : Int32)]) (Ps := []) (L0 := [(0, .ref 1)]) h_m293 (z_at.mk 3 rfl rfl) (Or.inl ⟨rfl, rfl⟩) rfl rfl (by decide) (by decide) rfl rfl rfl rfl rfl rfl (by decide) rfl rfl rfl ?_
  refine w_p h_m298 3 (pc' := 7) (L' := [(0, .ref 1)]) (st' := [.ref 1]) rfl ?_
  refine w_gs H (pc' := 10) (L' := [(0, .ref 1)]) h_m298 (z_at.mk 3 rfl rfl) rfl (by decide) rfl rfl rfl rfl ?_
  refine w_p h_m298 1 (pc' := 14) (L' := []) (st' := [.int (0 : Int32)]) rfl ?_
  refine w_ri h_m298 (z_at.mk 1 rfl rfl) rfl rfl ?_
  show z_W 996 293 9 [(0, .ref 1)] [.int (0 : Int32), .int (39 : Int32)] m _
  refine w_p h_m293 1 (pc' := 10) (L' := [(0, .ref 1)]) (st' := [.int (39 : Int32)]) rfl ?_
  refine w_ri h_m293 (z_at.mk 1 rfl rfl) rfl rfl ?_
  show z_W 997 102 71 [(0, .ref 120), (1, .ref 1), (2, .int (0 : Int32)), (3, .int (0 : Int32)), (4, .int (0 : Int32)), (5, .int (3 : Int32))] [.int (39 : Int32), .int (3 : Int32)] m _
  refine w_p h_m102 3 (pc' := 77) (L' := [(0, .ref 120), (1, .ref 1), (2, .int (0 : Int32)), (3, .int (0 : Int32)), (4, .int (0 : Int32)), (5, .int (3 : Int32))]) (st' := [.int (3 : Int32), .ref 1]) rfl ?_
  refine w_cv (H.te (by decide) rfl).1 (pc' := 80) (L' := [(0, .ref 120), (1, .ref 1), (2, .int (0 : Int32)), (3, .int (0 : Int32)), (4, .int (0 : Int32)), (5, .int (3 : Int32))]) (rest := []) (Ps := [.int (3 : Int32)]) (L0 := [(0, .ref 1), (1, .int (3 : Int32))]) h_m102 (z_at.mk 3 rfl rfl) (Or.inl ⟨rfl, rfl⟩) rfl rfl (by decide) (by decide) rfl rfl rfl rfl rfl rfl (by decide) rfl rfl rfl ?_
  refine w_p h_m294 1 (pc' := 1) (L' := [(0, .ref 1), (1, .int (3 : Int32))]) (st' := [.ref 1]) rfl ?_
  refine w_cv (H.te (by decide) rfl).1 (pc' := 4) (L' := [(0, .ref 1), (1, .int (3 : Int32))]) (rest := []) (Ps := []) (L0 := [(0, .ref 1)]) h_m294 (z_at.mk 3 rfl rfl) (Or.inl ⟨rfl, rfl⟩) rfl rfl (by decide) (by decide) rfl rfl rfl rfl rfl rfl (by decide) rfl rfl rfl ?_
  refine w_p h_m299 3 (pc' := 7) (L' := [(0, .ref 1)]) (st' := [.ref 1]) rfl ?_
  refine w_gs H (pc' := 10) (L' := [(0, .ref 1)]) h_m299 (z_at.mk 3 rfl rfl) rfl (by decide) rfl rfl rfl rfl ?_
  refine w_p h_m299 3 (pc' := 18) (L' := []) (st' := [.int (1 : Int32)]) rfl ?_
  refine w_ri h_m299 (z_at.mk 1 rfl rfl) rfl rfl ?_
  show z_W 996 294 4 [(0, .ref 1), (1, .int (3 : Int32))] [.int (1 : Int32)] m _
  refine w_p h_m294 2 (pc' := 8) (L' := [(0, .ref 1), (1, .int (3 : Int32))]) (st' := [.ref 1]) rfl ?_
  refine w_gs H (pc' := 11) (L' := [(0, .ref 1), (1, .int (3 : Int32))]) h_m294 (z_at.mk 3 rfl rfl) rfl (by decide) rfl rfl rfl rfl ?_
  refine w_p h_m294 1 (pc' := 12) (L' := [(0, .ref 1), (1, .int (3 : Int32))]) (st' := [.int (3 : Int32), .ref 19]) rfl ?_
  refine w_cs (As := [.ref 19, .int (3 : Int32)]) (rest := []) (j := 308) (L0 := [(0, .ref 19), (1, .int (3 : Int32))]) (pc' := 15) (L' := [(0, .ref 1), (1, .int (3 : Int32))]) h_m294 (z_at.mk 3 rfl rfl) (Or.inl ⟨rfl, rfl⟩) rfl rfl rfl rfl rfl ?_
  refine w_p h_m308 2 (pc' := 2) (L' := [(0, .ref 19), (1, .int (3 : Int32))]) (st' := [.ref 19, .int (3 : Int32)]) rfl ?_
  refine w_lene H (x := (39 : Int32)) (pc' := 3) (L' := [(0, .ref 19), (1, .int (3 : Int32))]) h_m308 (z_at.mk 1 rfl rfl) (by decide) rfl (by decide) rfl rfl rfl ?_
  refine w_ci (pc' := 6) (L' := [(0, .ref 19), (1, .int (3 : Int32))]) h_m308 (z_at.mk 3 rfl rfl) rfl (z_cat_le 0 rfl (by decide)) ⟨by decide, by decide⟩ rfl rfl ?_
  refine w_p h_m308 2 (pc' := 8) (L' := [(0, .ref 19), (1, .int (3 : Int32))]) (st' := [.int (3 : Int32), .ref 19]) rfl ?_
  refine w_ae H (j := 3) (pc' := 9) (L' := [(0, .ref 19), (1, .int (3 : Int32))]) h_m308 (z_at.mk 1 rfl rfl) rfl rfl rfl (by decide) rfl (by decide) rfl rfl rfl ?_
  refine w_p h_m308 3 (pc' := 14) (L' := [(0, .ref 19), (1, .int (3 : Int32))]) (st' := [.int (117 : Int32)]) rfl ?_
  refine w_ri h_m308 (z_at.mk 1 rfl rfl) rfl rfl ?_
  show z_W 996 294 15 [(0, .ref 1), (1, .int (3 : Int32))] [.int (117 : Int32)] m _
  refine w_ri h_m294 (z_at.mk 1 rfl rfl) rfl rfl ?_
  show z_W 997 102 80 [(0, .ref 120), (1, .ref 1), (2, .int (0 : Int32)), (3, .int (0 : Int32)), (4, .int (0 : Int32)), (5, .int (3 : Int32))] [.int (117 : Int32)] m _
  refine w_p h_m102 6 (pc' := 59) (L' := [(0, .ref 120), (1, .ref 1), (2, .int (0 : Int32)), (3, .int (0 : Int32)), (4, .int (0 : Int32)), (5, .int (4 : Int32))]) (st' := [.ref 1, .int (4 : Int32)]) rfl ?_
  refine w_cv (H.te (by decide) rfl).1 (pc' := 62) (L' := [(0, .ref 120), (1, .ref 1), (2, .int (0 : Int32)), (3, .int (0 : Int32)), (4, .int (0 : Int32)), (5, .int (4 : Int32))]) (rest := [.int (4 : Int32)]) (Ps := []) (L0 := [(0, .ref 1)]) h_m102 (z_at.mk 3 rfl rfl) (Or.inl ⟨rfl, rfl⟩) rfl rfl (by decide) (by decide) rfl rfl rfl rfl rfl rfl (by decide) rfl rfl rfl ?_
  refine w_p h_m293 1 (pc' := 1) (L' := [(0, .ref 1)]) (st' := [.ref 1]) rfl ?_
  refine w_gs H (pc' := 4) (L' := [(0, .ref 1)]) h_m293 (z_at.mk 3 rfl rfl) rfl (by decide) rfl rfl rfl rfl ?_
  refine w_lene H (x := (39 : Int32)) (pc' := 5) (L' := [(0, .ref 1)]) h_m293 (z_at.mk 1 rfl rfl) (by decide) rfl (by decide) rfl rfl rfl ?_
  refine w_p h_m293 1 (pc' := 6) (L' := [(0, .ref 1)]) (st' := [.ref 1, .int (39 : Int32)]) rfl ?_
  refine w_cv (H.te (by decide) rfl).1 (pc' := 9) (L' := [(0, .ref 1)]) (rest := [.int (39 : Int32)]) (Ps := []) (L0 := [(0, .ref 1)]) h_m293 (z_at.mk 3 rfl rfl) (Or.inl ⟨rfl, rfl⟩) rfl rfl (by decide) (by decide) rfl rfl rfl rfl rfl rfl (by decide) rfl rfl rfl ?_
  refine w_p h_m298 3 (pc' := 7) (L' := [(0, .ref 1)]) (st' := [.ref 1]) rfl ?_
  refine w_gs H (pc' := 10) (L' := [(0, .ref 1)]) h_m298 (z_at.mk 3 rfl rfl) rfl (by decide) rfl rfl rfl rfl ?_
  refine w_p h_m298 1 (pc' := 14) (L' := []) (st' := [.int (0 : Int32)]) rfl ?_
  refine w_ri h_m298 (z_at.mk 1 rfl rfl) rfl rfl ?_
  show z_W 996 293 9 [(0, .ref 1)] [.int (0 : Int32), .int (39 : Int32)] m _
  refine w_p h_m293 1 (pc' := 10) (L' := [(0, .ref 1)]) (st' := [.int (39 : Int32)]) rfl ?_
  refine w_ri h_m293 (z_at.mk 1 rfl rfl) rfl rfl ?_
  show z_W 997 102 62 [(0, .ref 120), (1, .ref 1), (2, .int (0 : Int32)), (3, .int (0 : Int32)), (4, .int (0 : Int32)), (5, .int (4 : Int32))] [.int (39 : Int32), .int (4 : Int32)] m _
  refine w_p h_m102 3 (pc' := 68) (L' := [(0, .ref 120), (1, .ref 1), (2, .int (0 : Int32)), (3, .int (0 : Int32)), (4, .int (0 : Int32)), (5, .int (4 : Int32))]) (st' := [.ref 1, .int (4 : Int32)]) rfl ?_
  refine w_cv (H.te (by decide) rfl).1 (pc' := 71) (L' := [(0, .ref 120), (1, .ref 1), (2, .int (0 : Int32)), (3, .int (0 : Int32)), (4, .int (0 : Int32)), (5, .int (4 : Int32))]) (rest := [.int (4 : Int32)]) (Ps := []) (L0 := [(0, .ref 1)]) h_m102 (z_at.mk 3 rfl rfl) (Or.inl ⟨rfl, rfl⟩) rfl rfl (by decide) (by decide) rfl rfl rfl rfl rfl rfl (by decide) rfl rfl rfl ?_
  refine w_p h_m293 1 (pc' := 1) (L' := [(0, .ref 1)]) (st' := [.ref 1]) rfl ?_
  refine w_gs H (pc' := 4) (L' := [(0, .ref 1)]) h_m293 (z_at.mk 3 rfl rfl) rfl (by decide) rfl rfl rfl rfl ?_
  refine w_lene H (x := (39 : Int32)) (pc' := 5) (L' := [(0, .ref 1)]) h_m293 (z_at.mk 1 rfl rfl) (by decide) rfl (by decide) rfl rfl rfl ?_
  refine w_p h_m293 1 (pc' := 6) (L' := [(0, .ref 1)]) (st' := [.ref 1, .int (39 : Int32)]) rfl ?_
  refine w_cv (H.te (by decide) rfl).1 (pc' := 9) (L' := [(0, .ref 1)]) (rest := [.int (39 : Int32)]) (Ps := []) (L0 := [(0, .ref 1)]) h_m293 (z_at.mk 3 rfl rfl) (Or.inl ⟨rfl, rfl⟩) rfl rfl (by decide) (by decide) rfl rfl rfl rfl rfl rfl (by decide) rfl rfl rfl ?_
  refine w_p h_m298 3 (pc' := 7) (L' := [(0, .ref 1)]) (st' := [.ref 1]) rfl ?_
  refine w_gs H (pc' := 10) (L' := [(0, .ref 1)]) h_m298 (z_at.mk 3 rfl rfl) rfl (by decide) rfl rfl rfl rfl ?_
  refine w_p h_m298 1 (pc' := 14) (L' := []) (st' := [.int (0 : Int32)]) rfl ?_
  refine w_ri h_m298 (z_at.mk 1 rfl rfl) rfl rfl ?_
  show z_W 996 293 9 [(0, .ref 1)] [.int (0 : Int32), .int (39 : Int32)] m _
  refine w_p h_m293 1 (pc' := 10) (L' := [(0, .ref 1)]) (st' := [.int (39 : Int32)]) rfl ?_
  refine w_ri h_m293 (z_at.mk 1 rfl rfl) rfl rfl ?_
  show z_W 997 102 71 [(0, .ref 120), (1, .ref 1), (2, .int (0 : Int32)), (3, .int (0 : Int32)), (4, .int (0 : Int32)), (5, .int (4 : Int32))] [.int (39 : Int32), .int (4 : Int32)] m _
  refine w_p h_m102 3 (pc' := 77) (L' := [(0, .ref 120), (1, .ref 1), (2, .int (0 : Int32)), (3, .int (0 : Int32)), (4, .int (0 : Int32)), (5, .int (4 : Int32))]) (st' := [.int (4 : Int32), .ref 1]) rfl ?_
  refine w_cv (H.te (by decide) rfl).1 (pc' := 80) (L' := [(0, .ref 120), (1, .ref 1), (2, .int (0 : Int32)), (3, .int (0 : Int32)), (4, .int (0 : Int32)), (5, .int (4 : Int32))]) (rest := []) (Ps := [.int (4 : Int32)]) (L0 := [(0, .ref 1), (1, .int (4 : Int32))]) h_m102 (z_at.mk 3 rfl rfl) (Or.inl ⟨rfl, rfl⟩) rfl rfl (by decide) (by decide) rfl rfl rfl rfl rfl rfl (by decide) rfl rfl rfl ?_
  refine w_p h_m294 1 (pc' := 1) (L' := [(0, .ref 1), (1, .int (4 : Int32))]) (st' := [.ref 1]) rfl ?_
  refine w_cv (H.te (by decide) rfl).1 (pc' := 4) (L' := [(0, .ref 1), (1, .int (4 : Int32))]) (rest := []) (Ps := []) (L0 := [(0, .ref 1)]) h_m294 (z_at.mk 3 rfl rfl) (Or.inl ⟨rfl, rfl⟩) rfl rfl (by decide) (by decide) rfl rfl rfl rfl rfl rfl (by decide) rfl rfl rfl ?_
  refine w_p h_m299 3 (pc' := 7) (L' := [(0, .ref 1)]) (st' := [.ref 1]) rfl ?_
  refine w_gs H (pc' := 10) (L' := [(0, .ref 1)]) h_m299 (z_at.mk 3 rfl rfl) rfl (by decide) rfl rfl rfl rfl ?_
  refine w_p h_m299 3 (pc' := 18) (L' := []) (st' := [.int (1 : Int32)]) rfl ?_
  refine w_ri h_m299 (z_at.mk 1 rfl rfl) rfl rfl ?_
  show z_W 996 294 4 [(0, .ref 1), (1, .int (4 : Int32))] [.int (1 : Int32)] m _
  refine w_p h_m294 2 (pc' := 8) (L' := [(0, .ref 1), (1, .int (4 : Int32))]) (st' := [.ref 1]) rfl ?_
  refine w_gs H (pc' := 11) (L' := [(0, .ref 1), (1, .int (4 : Int32))]) h_m294 (z_at.mk 3 rfl rfl) rfl (by decide) rfl rfl rfl rfl ?_
  refine w_p h_m294 1 (pc' := 12) (L' := [(0, .ref 1), (1, .int (4 : Int32))]) (st' := [.int (4 : Int32), .ref 19]) rfl ?_
  refine w_cs (As := [.ref 19, .int (4 : Int32)]) (rest := []) (j := 308) (L0 := [(0, .ref 19), (1, .int (4 : Int32))]) (pc' := 15) (L' := [(0, .ref 1), (1, .int (4 : Int32))]) h_m294 (z_at.mk 3 rfl rfl) (Or.inl ⟨rfl, rfl⟩) rfl rfl rfl rfl rfl ?_
  refine w_p h_m308 2 (pc' := 2) (L' := [(0, .ref 19), (1, .int (4 : Int32))]) (st' := [.ref 19, .int (4 : Int32)]) rfl ?_
  refine w_lene H (x := (39 : Int32)) (pc' := 3) (L' := [(0, .ref 19), (1, .int (4 : Int32))]) h_m308 (z_at.mk 1 rfl rfl) (by decide) rfl (by decide) rfl rfl rfl ?_
  refine w_ci (pc' := 6) (L' := [(0, .ref 19), (1, .int (4 : Int32))]) h_m308 (z_at.mk 3 rfl rfl) rfl (z_cat_le 0 rfl (by decide)) ⟨by decide, by decide⟩ rfl rfl ?_
  refine w_p h_m308 2 (pc' := 8) (L' := [(0, .ref 19), (1, .int (4 : Int32))]) (st' := [.int (4 : Int32), .ref 19]) rfl ?_
  refine w_ae H (j := 4) (pc' := 9) (L' := [(0, .ref 19), (1, .int (4 : Int32))]) h_m308 (z_at.mk 1 rfl rfl) rfl rfl rfl (by decide) rfl (by decide) rfl rfl rfl ?_
  refine w_p h_m308 3 (pc' := 14) (L' := [(0, .ref 19), (1, .int (4 : Int32))]) (st' := [.int (112 : Int32)]) rfl ?_
  refine w_ri h_m308 (z_at.mk 1 rfl rfl) rfl rfl ?_
  show z_W 996 294 15 [(0, .ref 1), (1, .int (4 : Int32))] [.int (112 : Int32)] m _
  refine w_ri h_m294 (z_at.mk 1 rfl rfl) rfl rfl ?_
  show z_W 997 102 80 [(0, .ref 120), (1, .ref 1), (2, .int (0 : Int32)), (3, .int (0 : Int32)), (4, .int (0 : Int32)), (5, .int (4 : Int32))] [.int (112 : Int32)] m _
  refine w_p h_m102 6 (pc' := 59) (L' := [(0, .ref 120), (1, .ref 1), (2, .int (0 : Int32)), (3, .int (0 : Int32)), (4, .int (0 : Int32)), (5, .int (5 : Int32))]) (st' := [.ref 1, .int (5 : Int32)]) rfl ?_
  refine w_cv (H.te (by decide) rfl).1 (pc' := 62) (L' := [(0, .ref 120), (1, .ref 1), (2, .int (0 : Int32)), (3, .int (0 : Int32)), (4, .int (0 : Int32)), (5, .int (5 : Int32))]) (rest := [.int (5 : Int32)]) (Ps := []) (L0 := [(0, .ref 1)]) h_m102 (z_at.mk 3 rfl rfl) (Or.inl ⟨rfl, rfl⟩) rfl rfl (by decide) (by decide) rfl rfl rfl rfl rfl rfl (by decide) rfl rfl rfl ?_
  refine w_p h_m293 1 (pc' := 1) (L' := [(0, .ref 1)]) (st' := [.ref 1]) rfl ?_
  refine w_gs H (pc' := 4) (L' := [(0, .ref 1)]) h_m293 (z_at.mk 3 rfl rfl) rfl (by decide) rfl rfl rfl rfl ?_
  refine w_lene H (x := (39 : Int32)) (pc' := 5) (L' := [(0, .ref 1)]) h_m293 (z_at.mk 1 rfl rfl) (by decide) rfl (by decide) rfl rfl rfl ?_
  refine w_p h_m293 1 (pc' := 6) (L' := [(0, .ref 1)]) (st' := [.ref 1, .int (39 : Int32)]) rfl ?_
  refine w_cv (H.te (by decide) rfl).1 (pc' := 9) (L' := [(0, .ref 1)]) (rest := [.int (39 : Int32)]) (Ps := []) (L0 := [(0, .ref 1)]) h_m293 (z_at.mk 3 rfl rfl) (Or.inl ⟨rfl, rfl⟩) rfl rfl (by decide) (by decide) rfl rfl rfl rfl rfl rfl (by decide) rfl rfl rfl ?_
  refine w_p h_m298 3 (pc' := 7) (L' := [(0, .ref 1)]) (st' := [.ref 1]) rfl ?_
  refine w_gs H (pc' := 10) (L' := [(0, .ref 1)]) h_m298 (z_at.mk 3 rfl rfl) rfl (by decide) rfl rfl rfl rfl ?_
  refine w_p h_m298 1 (pc' := 14) (L' := []) (st' := [.int (0 : Int32)]) rfl ?_
  refine w_ri h_m298 (z_at.mk 1 rfl rfl) rfl rfl ?_
  show z_W 996 293 9 [(0, .ref 1)] [.int (0 : Int32), .int (39 : Int32)] m _
  refine w_p h_m293 1 (pc' := 10) (L' := [(0, .ref 1)]) (st' := [.int (39 : Int32)]) rfl ?_
  refine w_ri h_m293 (z_at.mk 1 rfl rfl) rfl rfl ?_
  show z_W 997 102 62 [(0, .ref 120), (1, .ref 1), (2, .int (0 : Int32)), (3, .int (0 : Int32)), (4, .int (0 : Int32)), (5, .int (5 : Int32))] [.int (39 : Int32), .int (5 : Int32)] m _
  refine w_p h_m102 3 (pc' := 68) (L' := [(0, .ref 120), (1, .ref 1), (2, .int (0 : Int32)), (3, .int (0 : Int32)), (4, .int (0 : Int32)), (5, .int (5 : Int32))]) (st' := [.ref 1, .int (5 : Int32)]) rfl ?_
  refine w_cv (H.te (by decide) rfl).1 (pc' := 71) (L' := [(0, .ref 120), (1, .ref 1), (2, .int (0 : Int32)), (3, .int (0 : Int32)), (4, .int (0 : Int32)), (5, .int (5 : Int32))]) (rest := [.int (5 : Int32)]) (Ps := []) (L0 := [(0, .ref 1)]) h_m102 (z_at.mk 3 rfl rfl) (Or.inl ⟨rfl, rfl⟩) rfl rfl (by decide) (by decide) rfl rfl rfl rfl rfl rfl (by decide) rfl rfl rfl ?_
  refine w_p h_m293 1 (pc' := 1) (L' := [(0, .ref 1)]) (st' := [.ref 1]) rfl ?_
  refine w_gs H (pc' := 4) (L' := [(0, .ref 1)]) h_m293 (z_at.mk 3 rfl rfl) rfl (by decide) rfl rfl rfl rfl ?_
  refine w_lene H (x := (39 : Int32)) (pc' := 5) (L' := [(0, .ref 1)]) h_m293 (z_at.mk 1 rfl rfl) (by decide) rfl (by decide) rfl rfl rfl ?_
  refine w_p h_m293 1 (pc' := 6) (L' := [(0, .ref 1)]) (st' := [.ref 1, .int (39 : Int32)]) rfl ?_
  refine w_cv (H.te (by decide) rfl).1 (pc' := 9) (L' := [(0, .ref 1)]) (rest := [.int (39 : Int32)]) (Ps := []) (L0 := [(0, .ref 1)]) h_m293 (z_at.mk 3 rfl rfl) (Or.inl ⟨rfl, rfl⟩) rfl rfl (by decide) (by decide) rfl rfl rfl rfl rfl rfl (by decide) rfl rfl rfl ?_
  refine w_p h_m298 3 (pc' := 7) (L' := [(0, .ref 1)]) (st' := [.ref 1]) rfl ?_
  refine w_gs H (pc' := 10) (L' := [(0, .ref 1)]) h_m298 (z_at.mk 3 rfl rfl) rfl (by decide) rfl rfl rfl rfl ?_
  refine w_p h_m298 1 (pc' := 14) (L' := []) (st' := [.int (0 : Int32)]) rfl ?_
  refine w_ri h_m298 (z_at.mk 1 rfl rfl) rfl rfl ?_
  show z_W 996 293 9 [(0, .ref 1)] [.int (0 : Int32), .int (39 : Int32)] m _
  refine w_p h_m293 1 (pc' := 10) (L' := [(0, .ref 1)]) (st' := [.int (39 : Int32)]) rfl ?_
  refine w_ri h_m293 (z_at.mk 1 rfl rfl) rfl rfl ?_
  show z_W 997 102 71 [(0, .ref 120), (1, .ref 1), (2, .int (0 : Int32)), (3, .int (0 : Int32)), (4, .int (0 : Int32)), (5, .int (5 : Int32))] [.int (39 : Int32), .int (5 : Int32)] m _
  refine w_p h_m102 3 (pc' := 77) (L' := [(0, .ref 120), (1, .ref 1), (2, .int (0 : Int32)), (3, .int (0 : Int32)), (4, .int (0 : Int32)), (5, .int (5 : Int32))]) (st' := [.int (5 : Int32), .ref 1]) rfl ?_
  refine w_cv (H.te (by decide) rfl).1 (pc' := 80) (L' := [(0, .ref 120), (1, .ref 1), (2, .int (0 : Int32)), (3, .int (0 : Int32)), (4, .int (0 : Int32)), (5, .int (5 : Int32))]) (rest := []) (Ps := [.int (5 : Int32)]) (L0 := [(0, .ref 1), (1, .int (5 : Int32))]) h_m102 (z_at.mk 3 rfl rfl) (Or.inl ⟨rfl, rfl⟩) rfl rfl (by decide) (by decide) rfl rfl rfl rfl rfl rfl (by decide) rfl rfl rfl ?_
  refine w_p h_m294 1 (pc' := 1) (L' := [(0, .ref 1), (1, .int (5 : Int32))]) (st' := [.ref 1]) rfl ?_
  refine w_cv (H.te (by decide) rfl).1 (pc' := 4) (L' := [(0, .ref 1), (1, .int (5 : Int32))]) (rest := []) (Ps := []) (L0 := [(0, .ref 1)]) h_m294 (z_at.mk 3 rfl rfl) (Or.inl ⟨rfl, rfl⟩) rfl rfl (by decide) (by decide) rfl rfl rfl rfl rfl rfl (by decide) rfl rfl rfl ?_
  refine w_p h_m299 3 (pc' := 7) (L' := [(0, .ref 1)]) (st' := [.ref 1]) rfl ?_
  refine w_gs H (pc' := 10) (L' := [(0, .ref 1)]) h_m299 (z_at.mk 3 rfl rfl) rfl (by decide) rfl rfl rfl rfl ?_
  refine w_p h_m299 3 (pc' := 18) (L' := []) (st' := [.int (1 : Int32)]) rfl ?_
  refine w_ri h_m299 (z_at.mk 1 rfl rfl) rfl rfl ?_
  show z_W 996 294 4 [(0, .ref 1), (1, .int (5 : Int32))] [.int (1 : Int32)] m _
  refine w_p h_m294 2 (pc' := 8) (L' := [(0, .ref 1), (1, .int (5 : Int32))]) (st' := [.ref 1]) rfl ?_
  refine w_gs H (pc' := 11) (L' := [(0, .ref 1), (1, .int (5 : Int32))]) h_m294 (z_at.mk 3 rfl rfl) rfl (by decide) rfl rfl rfl rfl ?_
  refine w_p h_m294 1 (pc' := 12) (L' := [(0, .ref 1), (1, .int (5 : Int32))]) (st' := [.int (5 : Int32), .ref 19]) rfl ?_
  refine w_cs (As := [.ref 19, .int (5 : Int32)]) (rest := []) (j := 308) (L0 := [(0, .ref 19), (1, .int (5 : Int32))]) (pc' := 15) (L' := [(0, .ref 1), (1, .int (5 : Int32))]) h_m294 (z_at.mk 3 rfl rfl) (Or.inl ⟨rfl, rfl⟩) rfl rfl rfl rfl rfl ?_
  refine w_p h_m308 2 (pc' := 2) (L' := [(0, .ref 19), (1, .int (5 : Int32))]) (st' := [.ref 19, .int (5 : Int32)]) rfl ?_
  refine w_lene H (x := (39 : Int32)) (pc' := 3) (L' := [(0, .ref 19), (1, .int (5 : Int32))]) h_m308 (z_at.mk 1 rfl rfl) (by decide) rfl (by decide) rfl rfl rfl ?_
  refine w_ci (pc' := 6) (L' := [(0, .ref 19), (1, .int (5 : Int32))]) h_m308 (z_at.mk 3 rfl rfl) rfl (z_cat_le 0 rfl (by decide)) ⟨by decide, by decide⟩ rfl rfl ?_
  refine w_p h_m308 2 (pc' := 8) (L' := [(0, .ref 19), (1, .int (5 : Int32))]) (st' := [.int (5 : Int32), .ref 19]) rfl ?_
  refine w_ae H (j := 5) (pc' := 9) (L' := [(0, .ref 19), (1, .int (5 : Int32))]) h_m308 (z_at.mk 1 rfl rfl) rfl rfl rfl (by decide) rfl (by decide) rfl rfl rfl ?_
  refine w_p h_m308 3 (pc' := 14) (L' := [(0, .ref 19), (1, .int (5 : Int32))]) (st' := [.int (32 : Int32)]) rfl ?_
  refine w_ri h_m308 (z_at.mk 1 rfl rfl) rfl rfl ?_
  show z_W 996 294 15 [(0, .ref 1), (1, .int (5 : Int32))] [.int (32 : Int32)] m _
  refine w_ri h_m294 (z_at.mk 1 rfl rfl) rfl rfl ?_
  show z_W 997 102 80 [(0, .ref 120), (1, .ref 1), (2, .int (0 : Int32)), (3, .int (0 : Int32)), (4, .int (0 : Int32)), (5, .int (5 : Int32))] [.int (32 : Int32)] m _
  refine w_p h_m102 7 (pc' := 92) (L' := [(0, .ref 120), (1, .ref 1), (2, .int (0 : Int32)), (3, .int (0 : Int32)), (4, .int (0 : Int32)), (5, .int (5 : Int32))]) (st' := [.int (0 : Int32), .int (5 : Int32), .int (0 : Int32), .ref 1, .ref 120]) rfl ?_
  refine w_cv (H.t rfl) (pc' := 95) (L' := [(0, .ref 120), (1, .ref 1), (2, .int (0 : Int32)), (3, .int (0 : Int32)), (4, .int (0 : Int32)), (5, .int (5 : Int32))]) (rest := []) (Ps := [.ref 1, .int (0 : Int32), .int (5 : Int32), .int (0 : Int32)]) (L0 := [(0, .ref 120), (1, .ref 1), (2, .int (0 : Int32)), (3, .int (5 : Int32)), (4, .int (0 : Int32))]) h_m102 (z_at.mk 3 rfl rfl) (Or.inl ⟨rfl, rfl⟩) rfl rfl (by decide) (by decide) rfl rfl rfl rfl rfl rfl (by decide) rfl rfl rfl ?_
  refine w_p h_m103 1 (pc' := 1) (L' := [(0, .ref 120), (1, .ref 1), (2, .int (0 : Int32)), (3, .int (5 : Int32)), (4, .int (0 : Int32))]) (st' := [.ref 120]) rfl ?_
  refine w_cv (H.t rfl) (pc' := 4) (L' := [(0, .ref 120), (1, .ref 1), (2, .int (0 : Int32)), (3, .int (5 : Int32)), (4, .int (0 : Int32))]) (rest := []) (Ps := []) (L0 := [(0, .ref 120)]) h_m103 (z_at.mk 3 rfl rfl) (Or.inl ⟨rfl, rfl⟩) rfl rfl (by decide) (by decide) rfl rfl rfl rfl rfl rfl (by decide) rfl rfl rfl ?_
  refine w_p h_m93 1 (pc' := 1) (L' := [(0, .ref 120)]) (st' := [.ref 120]) rfl ?_
  refine w_gf H (pc' := 4) (L' := [(0, .ref 120)]) h_m93 (z_at.mk 3 rfl rfl) rfl (u := .int (-1 : Int32)) rfl rfl rfl ?_
  refine w_p h_m93 4 (pc' := 13) (L' := []) (st' := [.int (1 : Int32)]) rfl ?_
  refine w_ri h_m93 (z_at.mk 1 rfl rfl) rfl rfl ?_
  show z_W 996 103 4 [(0, .ref 120), (1, .ref 1), (2, .int (0 : Int32)), (3, .int (5 : Int32)), (4, .int (0 : Int32))] [.int (1 : Int32)] m _
  refine w_p h_m103 4 (pc' := 13) (L' := [(0, .ref 120), (1, .ref 1), (2, .int (0 : Int32)), (3, .int (5 : Int32)), (4, .int (0 : Int32))]) (st' := [.ref 120]) rfl ?_
  refine w_gf H (pc' := 16) (L' := [(0, .ref 120), (1, .ref 1), (2, .int (0 : Int32)), (3, .int (5 : Int32)), (4, .int (0 : Int32))]) h_m103 (z_at.mk 3 rfl rfl) rfl (u := .int (0 : Int32)) rfl rfl rfl ?_
  refine w_p h_m103 3 (pc' := 23) (L' := [(0, .ref 120), (1, .ref 1), (2, .int (0 : Int32)), (3, .int (5 : Int32)), (4, .int (0 : Int32))]) (st' := [.ref 120]) rfl ?_
  refine w_gf H (pc' := 26) (L' := [(0, .ref 120), (1, .ref 1), (2, .int (0 : Int32)), (3, .int (5 : Int32)), (4, .int (0 : Int32))]) h_m103 (z_at.mk 3 rfl rfl) rfl (u := .int (0 : Int32)) rfl rfl rfl ?_
  refine w_p h_m103 7 (pc' := 36) (L' := []) (st' := [.int (0 : Int32)]) rfl ?_
  refine w_ri h_m103 (z_at.mk 1 rfl rfl) rfl rfl ?_
  show z_W 997 102 95 [(0, .ref 120), (1, .ref 1), (2, .int (0 : Int32)), (3, .int (0 : Int32)), (4, .int (0 : Int32)), (5, .int (5 : Int32))] [.int (0 : Int32)] m _
  refine w_p h_m102 10 (pc' := 59) (L' := [(0, .ref 120), (1, .ref 1), (2, .int (0 : Int32)), (3, .int (1 : Int32)), (4, .int (6 : Int32)), (5, .int (6 : Int32))]) (st' := [.ref 1, .int (6 : Int32)]) rfl ?_
  refine w_cv (H.te (by decide) rfl).1 (pc' := 62) (L' := [(0, .ref 120), (1, .ref 1), (2, .int (0 : Int32)), (3, .int (1 : Int32)), (4, .int (6 : Int32)), (5, .int (6 : Int32))]) (rest := [.int (6 : Int32)]) (Ps := []) (L0 := [(0, .ref 1)]) h_m102 (z_at.mk 3 rfl rfl) (Or.inl ⟨rfl, rfl⟩) rfl rfl (by decide) (by decide) rfl rfl rfl rfl rfl rfl (by decide) rfl rfl rfl ?_
  refine w_p h_m293 1 (pc' := 1) (L' := [(0, .ref 1)]) (st' := [.ref 1]) rfl ?_
  refine w_gs H (pc' := 4) (L' := [(0, .ref 1)]) h_m293 (z_at.mk 3 rfl rfl) rfl (by decide) rfl rfl rfl rfl ?_
  refine w_lene H (x := (39 : Int32)) (pc' := 5) (L' := [(0, .ref 1)]) h_m293 (z_at.mk 1 rfl rfl) (by decide) rfl (by decide) rfl rfl rfl ?_
  refine w_p h_m293 1 (pc' := 6) (L' := [(0, .ref 1)]) (st' := [.ref 1, .int (39 : Int32)]) rfl ?_
  refine w_cv (H.te (by decide) rfl).1 (pc' := 9) (L' := [(0, .ref 1)]) (rest := [.int (39 : Int32)]) (Ps := []) (L0 := [(0, .ref 1)]) h_m293 (z_at.mk 3 rfl rfl) (Or.inl ⟨rfl, rfl⟩) rfl rfl (by decide) (by decide) rfl rfl rfl rfl rfl rfl (by decide) rfl rfl rfl ?_
  refine w_p h_m298 3 (pc' := 7) (L' := [(0, .ref 1)]) (st' := [.ref 1]) rfl ?_
  refine w_gs H (pc' := 10) (L' := [(0, .ref 1)]) h_m298 (z_at.mk 3 rfl rfl) rfl (by decide) rfl rfl rfl rfl ?_
  refine w_p h_m298 1 (pc' := 14) (L' := []) (st' := [.int (0 : Int32)]) rfl ?_
  refine w_ri h_m298 (z_at.mk 1 rfl rfl) rfl rfl ?_
  show z_W 996 293 9 [(0, .ref 1)] [.int (0 : Int32), .int (39 : Int32)] m _
  refine w_p h_m293 1 (pc' := 10) (L' := [(0, .ref 1)]) (st' := [.int (39 : Int32)]) rfl ?_
  refine w_ri h_m293 (z_at.mk 1 rfl rfl) rfl rfl ?_
  show z_W 997 102 62 [(0, .ref 120), (1, .ref 1), (2, .int (0 : Int32)), (3, .int (1 : Int32)), (4, .int (6 : Int32)), (5, .int (6 : Int32))] [.int (39 : Int32), .int (6 : Int32)] m _
  refine w_p h_m102 3 (pc' := 68) (L' := [(0, .ref 120), (1, .ref 1), (2, .int (0 : Int32)), (3, .int (1 : Int32)), (4, .int (6 : Int32)), (5, .int (6 : Int32))]) (st' := [.ref 1, .int (6 : Int32)]) rfl ?_
  refine w_cv (H.te (by decide) rfl).1 (pc' := 71) (L' := [(0, .ref 120), (1, .ref 1), (2, .int (0 : Int32)), (3, .int (1 : Int32)), (4, .int (6 : Int32)), (5, .int (6 : Int32))]) (rest := [.int (6 : Int32)]) (Ps := []) (L0 := [(0, .ref 1)]) h_m102 (z_at.mk 3 rfl rfl) (Or.inl ⟨rfl, rfl⟩) rfl rfl (by decide) (by decide) rfl rfl rfl rfl rfl rfl (by decide) rfl rfl rfl ?_
  refine w_p h_m293 1 (pc' := 1) (L' := [(0, .ref 1)]) (st' := [.ref 1]) rfl ?_
  refine w_gs H (pc' := 4) (L' := [(0, .ref 1)]) h_m293 (z_at.mk 3 rfl rfl) rfl (by decide) rfl rfl rfl rfl ?_
  refine w_lene H (x := (39 : Int32)) (pc' := 5) (L' := [(0, .ref 1)]) h_m293 (z_at.mk 1 rfl rfl) (by decide) rfl (by decide) rfl rfl rfl ?_
  refine w_p h_m293 1 (pc' := 6) (L' := [(0, .ref 1)]) (st' := [.ref 1, .int (39 : Int32)]) rfl ?_
  refine w_cv (H.te (by decide) rfl).1 (pc' := 9) (L' := [(0, .ref 1)]) (rest := [.int (39 : Int32)]) (Ps := []) (L0 := [(0, .ref 1)]) h_m293 (z_at.mk 3 rfl rfl) (Or.inl ⟨rfl, rfl⟩) rfl rfl (by decide) (by decide) rfl rfl rfl rfl rfl rfl (by decide) rfl rfl rfl ?_
  refine w_p h_m298 3 (pc' := 7) (L' := [(0, .ref 1)]) (st' := [.ref 1]) rfl ?_
  refine w_gs H (pc' := 10) (L' := [(0, .ref 1)]) h_m298 (z_at.mk 3 rfl rfl) rfl (by decide) rfl rfl rfl rfl ?_
  refine w_p h_m298 1 (pc' := 14) (L' := []) (st' := [.int (0 : Int32)]) rfl ?_
  refine w_ri h_m298 (z_at.mk 1 rfl rfl) rfl rfl ?_
  show z_W 996 293 9 [(0, .ref 1)] [.int (0 : Int32), .int (39 : Int32)] m _
  refine w_p h_m293 1 (pc' := 10) (L' := [(0, .ref 1)]) (st' := [.int (39 : Int32)]) rfl ?_
  refine w_ri h_m293 (z_at.mk 1 rfl rfl) rfl rfl ?_
  show z_W 997 102 71 [(0, .ref 120), (1, .ref 1), (2, .int (0 : Int32)), (3, .int (1 : Int32)), (4, .int (6 : Int32)), (5, .int (6 : Int32))] [.int (39 : Int32), .int (6 : Int32)] m _
  refine w_p h_m102 3 (pc' := 77) (L' := [(0, .ref 120), (1, .ref 1), (2, .int (0 : Int32)), (3, .int (1 : Int32)), (4, .int (6 : Int32)), (5, .int (6 : Int32))]) (st' := [.int (6 : Int32), .ref 1]) rfl ?_
  refine w_cv (H.te (by decide) rfl).1 (pc' := 80) (L' := [(0, .ref 120), (1, .ref 1), (2, .int (0 : Int32)), (3, .int (1 : Int32)), (4, .int (6 : Int32)), (5, .int (6 : Int32))]) (rest := []) (Ps := [.int (6 : Int32)]) (L0 := [(0, .ref 1), (1, .int (6 : Int32))]) h_m102 (z_at.mk 3 rfl rfl) (Or.inl ⟨rfl, rfl⟩) rfl rfl (by decide) (by decide) rfl rfl rfl rfl rfl rfl (by decide) rfl rfl rfl ?_
  refine w_p h_m294 1 (pc' := 1) (L' := [(0, .ref 1), (1, .int (6 : Int32))]) (st' := [.ref 1]) rfl ?_
  refine w_cv (H.te (by decide) rfl).1 (pc' := 4) (L' := [(0, .ref 1), (1, .int (6 : Int32))]) (rest := []) (Ps := []) (L0 := [(0, .ref 1)]) h_m294 (z_at.mk 3 rfl rfl) (Or.inl ⟨rfl, rfl⟩) rfl rfl (by decide) (by decide) rfl rfl rfl rfl rfl rfl (by decide) rfl rfl rfl ?_
  refine w_p h_m299 3 (pc' := 7) (L' := [(0, .ref 1)]) (st' := [.ref 1]) rfl ?_
  refine w_gs H (pc' := 10) (L' := [(0, .ref 1)]) h_m299 (z_at.mk 3 rfl rfl) rfl (by decide) rfl rfl rfl rfl ?_
  refine w_p h_m299 3 (pc' := 18) (L' := []) (st' := [.int (1 : Int32)]) rfl ?_
  refine w_ri h_m299 (z_at.mk 1 rfl rfl) rfl rfl ?_
  show z_W 996 294 4 [(0, .ref 1), (1, .int (6 : Int32))] [.int (1 : Int32)] m _
  refine w_p h_m294 2 (pc' := 8) (L' := [(0, .ref 1), (1, .int (6 : Int32))]) (st' := [.ref 1]) rfl ?_
  refine w_gs H (pc' := 11) (L' := [(0, .ref 1), (1, .int (6 : Int32))]) h_m294 (z_at.mk 3 rfl rfl) rfl (by decide) rfl rfl rfl rfl ?_
  refine w_p h_m294 1 (pc' := 12) (L' := [(0, .ref 1), (1, .int (6 : Int32))]) (st' := [.int (6 : Int32), .ref 19]) rfl ?_
  refine w_cs (As := [.ref 19, .int (6 : Int32)]) (rest := []) (j := 308) (L0 := [(0, .ref 19), (1, .int (6 : Int32))]) (pc' := 15) (L' := [(0, .ref 1), (1, .int (6 : Int32))]) h_m294 (z_at.mk 3 rfl rfl) (Or.inl ⟨rfl, rfl⟩) rfl rfl rfl rfl rfl ?_
  refine w_p h_m308 2 (pc' := 2) (L' := [(0, .ref 19), (1, .int (6 : Int32))]) (st' := [.ref 19, .int (6 : Int32)]) rfl ?_
  refine w_lene H (x := (39 : Int32)) (pc' := 3) (L' := [(0, .ref 19), (1, .int (6 : Int32))]) h_m308 (z_at.mk 1 rfl rfl) (by decide) rfl (by decide) rfl rfl rfl ?_
  refine w_ci (pc' := 6) (L' := [(0, .ref 19), (1, .int (6 : Int32))]) h_m308 (z_at.mk 3 rfl rfl) rfl (z_cat_le 0 rfl (by decide)) ⟨by decide, by decide⟩ rfl rfl ?_
  refine w_p h_m308 2 (pc' := 8) (L' := [(0, .ref 19), (1, .int (6 : Int32))]) (st' := [.int (6 : Int32), .ref 19]) rfl ?_
  refine w_ae H (j := 6) (pc' := 9) (L' := [(0, .ref 19), (1, .int (6 : Int32))]) h_m308 (z_at.mk 1 rfl rfl) rfl rfl rfl (by decide) rfl (by decide) rfl rfl rfl ?_
  refine w_p h_m308 3 (pc' := 14) (L' := [(0, .ref 19), (1, .int (6 : Int32))]) (st' := [.int (114 : Int32)]) rfl ?_
  refine w_ri h_m308 (z_at.mk 1 rfl rfl) rfl rfl ?_
  show z_W 996 294 15 [(0, .ref 1), (1, .int (6 : Int32))] [.int (114 : Int32)] m _
  refine w_ri h_m294 (z_at.mk 1 rfl rfl) rfl rfl ?_
  show z_W 997 102 80 [(0, .ref 120), (1, .ref 1), (2, .int (0 : Int32)), (3, .int (1 : Int32)), (4, .int (6 : Int32)), (5, .int (6 : Int32))] [.int (114 : Int32)] m _
  refine w_p h_m102 6 (pc' := 59) (L' := [(0, .ref 120), (1, .ref 1), (2, .int (0 : Int32)), (3, .int (1 : Int32)), (4, .int (6 : Int32)), (5, .int (7 : Int32))]) (st' := [.ref 1, .int (7 : Int32)]) rfl ?_
  refine w_cv (H.te (by decide) rfl).1 (pc' := 62) (L' := [(0, .ref 120), (1, .ref 1), (2, .int (0 : Int32)), (3, .int (1 : Int32)), (4, .int (6 : Int32)), (5, .int (7 : Int32))]) (rest := [.int (7 : Int32)]) (Ps := []) (L0 := [(0, .ref 1)]) h_m102 (z_at.mk 3 rfl rfl) (Or.inl ⟨rfl, rfl⟩) rfl rfl (by decide) (by decide) rfl rfl rfl rfl rfl rfl (by decide) rfl rfl rfl ?_
  refine w_p h_m293 1 (pc' := 1) (L' := [(0, .ref 1)]) (st' := [.ref 1]) rfl ?_
  refine w_gs H (pc' := 4) (L' := [(0, .ref 1)]) h_m293 (z_at.mk 3 rfl rfl) rfl (by decide) rfl rfl rfl rfl ?_
  refine w_lene H (x := (39 : Int32)) (pc' := 5) (L' := [(0, .ref 1)]) h_m293 (z_at.mk 1 rfl rfl) (by decide) rfl (by decide) rfl rfl rfl ?_
  refine w_p h_m293 1 (pc' := 6) (L' := [(0, .ref 1)]) (st' := [.ref 1, .int (39 : Int32)]) rfl ?_
  refine w_cv (H.te (by decide) rfl).1 (pc' := 9) (L' := [(0, .ref 1)]) (rest := [.int (39 : Int32)]) (Ps := []) (L0 := [(0, .ref 1)]) h_m293 (z_at.mk 3 rfl rfl) (Or.inl ⟨rfl, rfl⟩) rfl rfl (by decide) (by decide) rfl rfl rfl rfl rfl rfl (by decide) rfl rfl rfl ?_
  refine w_p h_m298 3 (pc' := 7) (L' := [(0, .ref 1)]) (st' := [.ref 1]) rfl ?_
  refine w_gs H (pc' := 10) (L' := [(0, .ref 1)]) h_m298 (z_at.mk 3 rfl rfl) rfl (by decide) rfl rfl rfl rfl ?_
  refine w_p h_m298 1 (pc' := 14) (L' := []) (st' := [.int (0 : Int32)]) rfl ?_
  refine w_ri h_m298 (z_at.mk 1 rfl rfl) rfl rfl ?_
  show z_W 996 293 9 [(0, .ref 1)] [.int (0 : Int32), .int (39 : Int32)] m _
  refine w_p h_m293 1 (pc' := 10) (L' := [(0, .ref 1)]) (st' := [.int (39 : Int32)]) rfl ?_
  refine w_ri h_m293 (z_at.mk 1 rfl rfl) rfl rfl ?_
  show z_W 997 102 62 [(0, .ref 120), (1, .ref 1), (2, .int (0 : Int32)), (3, .int (1 : Int32)), (4, .int (6 : Int32)), (5, .int (7 : Int32))] [.int (39 : Int32), .int (7 : Int32)] m _
  refine w_p h_m102 3 (pc' := 68) (L' := [(0, .ref 120), (1, .ref 1), (2, .int (0 : Int32)), (3, .int (1 : Int32)), (4, .int (6 : Int32)), (5, .int (7 : Int32))]) (st' := [.ref 1, .int (7 : Int32)]) rfl ?_
  refine w_cv (H.te (by decide) rfl).1 (pc' := 71) (L' := [(0, .ref 120), (1, .ref 1), (2, .int (0 : Int32)), (3, .int (1 : Int32)), (4, .int (6 : Int32)), (5, .int (7 : Int32))]) (rest := [.int (7 : Int32)]) (Ps := []) (L0 := [(0, .ref 1)]) h_m102 (z_at.mk 3 rfl rfl) (Or.inl ⟨rfl, rfl⟩) rfl rfl (by decide) (by decide) rfl rfl rfl rfl rfl rfl (by decide) rfl rfl rfl ?_
  refine w_p h_m293 1 (pc' := 1) (L' := [(0, .ref 1)]) (st' := [.ref 1]) rfl ?_
  refine w_gs H (pc' := 4) (L' := [(0, .ref 1)]) h_m293 (z_at.mk 3 rfl rfl) rfl (by decide) rfl rfl rfl rfl ?_
  refine w_lene H (x := (39 : Int32)) (pc' := 5) (L' := [(0, .ref 1)]) h_m293 (z_at.mk 1 rfl rfl) (by decide) rfl (by decide) rfl rfl rfl ?_
  refine w_p h_m293 1 (pc' := 6) (L' := [(0, .ref 1)]) (st' := [.ref 1, .int (39 : Int32)]) rfl ?_
  refine w_cv (H.te (by decide) rfl).1 (pc' := 9) (L' := [(0, .ref 1)]) (rest := [.int (39 : Int32)]) (Ps := []) (L0 := [(0, .ref 1)]) h_m293 (z_at.mk 3 rfl rfl) (Or.inl ⟨rfl, rfl⟩) rfl rfl (by decide) (by decide) rfl rfl rfl rfl rfl rfl (by decide) rfl rfl rfl ?_
  refine w_p h_m298 3 (pc' := 7) (L' := [(0, .ref 1)]) (st' := [.ref 1]) rfl ?_
  refine w_gs H (pc' := 10) (L' := [(0, .ref 1)]) h_m298 (z_at.mk 3 rfl rfl) rfl (by decide) rfl rfl rfl rfl ?_
  refine w_p h_m298 1 (pc' := 14) (L' := []) (st' := [.int (0 : Int32)]) rfl ?_
  refine w_ri h_m298 (z_at.mk 1 rfl rfl) rfl rfl ?_
  show z_W 996 293 9 [(0, .ref 1)] [.int (0 : Int32), .int (39 : Int32)] m _
  refine w_p h_m293 1 (pc' := 10) (L' := [(0, .ref 1)]) (st' := [.int (39 : Int32)]) rfl ?_
  refine w_ri h_m293 (z_at.mk 1 rfl rfl) rfl rfl ?_
  show z_W 997 102 71 [(0, .ref 120), (1, .ref 1), (2, .int (0 : Int32)), (3, .int (1 : Int32)), (4, .int (6 : Int32)), (5, .int (7 : Int32))] [.int (39 : Int32), .int (7 : Int32)] m _
  refine w_p h_m102 3 (pc' := 77) (L' := [(0, .ref 120), (1, .ref 1), (2, .int (0 : Int32)), (3, .int (1 : Int32)), (4, .int (6 : Int32)), (5, .int (7 : Int32))]) (st' := [.int (7 : Int32), .ref 1]) rfl ?_
  refine w_cv (H.te (by decide) rfl).1 (pc' := 80) (L' := [(0, .ref 120), (1, .ref 1), (2, .int (0 : Int32)), (3, .int (1 : Int32)), (4, .int (6 : Int32)), (5, .int (7 : Int32))]) (rest := []) (Ps := [.int (7 : Int32)]) (L0 := [(0, .ref 1), (1, .int (7 : Int32))]) h_m102 (z_at.mk 3 rfl rfl) (Or.inl ⟨rfl, rfl⟩) rfl rfl (by decide) (by decide) rfl rfl rfl rfl rfl rfl (by decide) rfl rfl rfl ?_
  refine w_p h_m294 1 (pc' := 1) (L' := [(0, .ref 1), (1, .int (7 : Int32))]) (st' := [.ref 1]) rfl ?_
  refine w_cv (H.te (by decide) rfl).1 (pc' := 4) (L' := [(0, .ref 1), (1, .int (7 : Int32))]) (rest := []) (Ps := []) (L0 := [(0, .ref 1)]) h_m294 (z_at.mk 3 rfl rfl) (Or.inl ⟨rfl, rfl⟩) rfl rfl (by decide) (by decide) rfl rfl rfl rfl rfl rfl (by decide) rfl rfl rfl ?_
  refine w_p h_m299 3 (pc' := 7) (L' := [(0, .ref 1)]) (st' := [.ref 1]) rfl ?_
  refine w_gs H (pc' := 10) (L' := [(0, .ref 1)]) h_m299 (z_at.mk 3 rfl rfl) rfl (by decide) rfl rfl rfl rfl ?_
  refine w_p h_m299 3 (pc' := 18) (L' := []) (st' := [.int (1 : Int32)]) rfl ?_
  refine w_ri h_m299 (z_at.mk 1 rfl rfl) rfl rfl ?_
  show z_W 996 294 4 [(0, .ref 1), (1, .int (7 : Int32))] [.int (1 : Int32)] m _
  refine w_p h_m294 2 (pc' := 8) (L' := [(0, .ref 1), (1, .int (7 : Int32))]) (st' := [.ref 1]) rfl ?_
  refine w_gs H (pc' := 11) (L' := [(0, .ref 1), (1, .int (7 : Int32))]) h_m294 (z_at.mk 3 rfl rfl) rfl (by decide) rfl rfl rfl rfl ?_
  refine w_p h_m294 1 (pc' := 12) (L' := [(0, .ref 1), (1, .int (7 : Int32))]) (st' := [.int (7 : Int32), .ref 19]) rfl ?_
  refine w_cs (As := [.ref 19, .int (7 : Int32)]) (rest := []) (j := 308) (L0 := [(0, .ref 19), (1, .int (7 : Int32))]) (pc' := 15) (L' := [(0, .ref 1), (1, .int (7 : Int32))]) h_m294 (z_at.mk 3 rfl rfl) (Or.inl ⟨rfl, rfl⟩) rfl rfl rfl rfl rfl ?_
  refine w_p h_m308 2 (pc' := 2) (L' := [(0, .ref 19), (1, .int (7 : Int32))]) (st' := [.ref 19, .int (7 : Int32)]) rfl ?_
  refine w_lene H (x := (39 : Int32)) (pc' := 3) (L' := [(0, .ref 19), (1, .int (7 : Int32))]) h_m308 (z_at.mk 1 rfl rfl) (by decide) rfl (by decide) rfl rfl rfl ?_
  refine w_ci (pc' := 6) (L' := [(0, .ref 19), (1, .int (7 : Int32))]) h_m308 (z_at.mk 3 rfl rfl) rfl (z_cat_le 0 rfl (by decide)) ⟨by decide, by decide⟩ rfl rfl ?_
  refine w_p h_m308 2 (pc' := 8) (L' := [(0, .ref 19), (1, .int (7 : Int32))]) (st' := [.int (7 : Int32), .ref 19]) rfl ?_
  refine w_ae H (j := 7) (pc' := 9) (L' := [(0, .ref 19), (1, .int (7 : Int32))]) h_m308 (z_at.mk 1 rfl rfl) rfl rfl rfl (by decide) rfl (by decide) rfl rfl rfl ?_
  refine w_p h_m308 3 (pc' := 14) (L' := [(0, .ref 19), (1, .int (7 : Int32))]) (st' := [.int (111 : Int32)]) rfl ?_
  refine w_ri h_m308 (z_at.mk 1 rfl rfl) rfl rfl ?_
  show z_W 996 294 15 [(0, .ref 1), (1, .int (7 : Int32))] [.int (111 : Int32)] m _
  refine w_ri h_m294 (z_at.mk 1 rfl rfl) rfl rfl ?_
  show z_W 997 102 80 [(0, .ref 120), (1, .ref 1), (2, .int (0 : Int32)), (3, .int (1 : Int32)), (4, .int (6 : Int32)), (5, .int (7 : Int32))] [.int (111 : Int32)] m _
  refine w_p h_m102 6 (pc' := 59) (L' := [(0, .ref 120), (1, .ref 1), (2, .int (0 : Int32)), (3, .int (1 : Int32)), (4, .int (6 : Int32)), (5, .int (8 : Int32))]) (st' := [.ref 1, .int (8 : Int32)]) rfl ?_
  refine w_cv (H.te (by decide) rfl).1 (pc' := 62) (L' := [(0, .ref 120), (1, .ref 1), (2, .int (0 : Int32)), (3, .int (1 : Int32)), (4, .int (6 : Int32)), (5, .int (8 : Int32))]) (rest := [.int (8 : Int32)]) (Ps := []) (L0 := [(0, .ref 1)]) h_m102 (z_at.mk 3 rfl rfl) (Or.inl ⟨rfl, rfl⟩) rfl rfl (by decide) (by decide) rfl rfl rfl rfl rfl rfl (by decide) rfl rfl rfl ?_
  refine w_p h_m293 1 (pc' := 1) (L' := [(0, .ref 1)]) (st' := [.ref 1]) rfl ?_
  refine w_gs H (pc' := 4) (L' := [(0, .ref 1)]) h_m293 (z_at.mk 3 rfl rfl) rfl (by decide) rfl rfl rfl rfl ?_
  refine w_lene H (x := (39 : Int32)) (pc' := 5) (L' := [(0, .ref 1)]) h_m293 (z_at.mk 1 rfl rfl) (by decide) rfl (by decide) rfl rfl rfl ?_
  refine w_p h_m293 1 (pc' := 6) (L' := [(0, .ref 1)]) (st' := [.ref 1, .int (39 : Int32)]) rfl ?_
  refine w_cv (H.te (by decide) rfl).1 (pc' := 9) (L' := [(0, .ref 1)]) (rest := [.int (39 : Int32)]) (Ps := []) (L0 := [(0, .ref 1)]) h_m293 (z_at.mk 3 rfl rfl) (Or.inl ⟨rfl, rfl⟩) rfl rfl (by decide) (by decide) rfl rfl rfl rfl rfl rfl (by decide) rfl rfl rfl ?_
  refine w_p h_m298 3 (pc' := 7) (L' := [(0, .ref 1)]) (st' := [.ref 1]) rfl ?_
  refine w_gs H (pc' := 10) (L' := [(0, .ref 1)]) h_m298 (z_at.mk 3 rfl rfl) rfl (by decide) rfl rfl rfl rfl ?_
  refine w_p h_m298 1 (pc' := 14) (L' := []) (st' := [.int (0 : Int32)]) rfl ?_
  refine w_ri h_m298 (z_at.mk 1 rfl rfl) rfl rfl ?_
  show z_W 996 293 9 [(0, .ref 1)] [.int (0 : Int32), .int (39 : Int32)] m _
  refine w_p h_m293 1 (pc' := 10) (L' := [(0, .ref 1)]) (st' := [.int (39 : Int32)]) rfl ?_
  refine w_ri h_m293 (z_at.mk 1 rfl rfl) rfl rfl ?_
  show z_W 997 102 62 [(0, .ref 120), (1, .ref 1), (2, .int (0 : Int32)), (3, .int (1 : Int32)), (4, .int (6 : Int32)), (5, .int (8 : Int32))] [.int (39 : Int32), .int (8 : Int32)] m _
  refine w_p h_m102 3 (pc' := 68) (L' := [(0, .ref 120), (1, .ref 1), (2, .int (0 : Int32)), (3, .int (1 : Int32)), (4, .int (6 : Int32)), (5, .int (8 : Int32))]) (st' := [.ref 1, .int (8 : Int32)]) rfl ?_
  refine w_cv (H.te (by decide) rfl).1 (pc' := 71) (L' := [(0, .ref 120), (1, .ref 1), (2, .int (0 : Int32)), (3, .int (1 : Int32)), (4, .int (6 : Int32)), (5, .int (8 : Int32))]) (rest := [.int (8 : Int32)]) (Ps := []) (L0 := [(0, .ref 1)]) h_m102 (z_at.mk 3 rfl rfl) (Or.inl ⟨rfl, rfl⟩) rfl rfl (by decide) (by decide) rfl rfl rfl rfl rfl rfl (by decide) rfl rfl rfl ?_
  refine w_p h_m293 1 (pc' := 1) (L' := [(0, .ref 1)]) (st' := [.ref 1]) rfl ?_
  refine w_gs H (pc' := 4) (L' := [(0, .ref 1)]) h_m293 (z_at.mk 3 rfl rfl) rfl (by decide) rfl rfl rfl rfl ?_
  refine w_lene H (x := (39 : Int32)) (pc' := 5) (L' := [(0, .ref 1)]) h_m293 (z_at.mk 1 rfl rfl) (by decide) rfl (by decide) rfl rfl rfl ?_
  refine w_p h_m293 1 (pc' := 6) (L' := [(0, .ref 1)]) (st' := [.ref 1, .int (39 : Int32)]) rfl ?_
  refine w_cv (H.te (by decide) rfl).1 (pc' := 9) (L' := [(0, .ref 1)]) (rest := [.int (39 : Int32)]) (Ps := []) (L0 := [(0, .ref 1)]) h_m293 (z_at.mk 3 rfl rfl) (Or.inl ⟨rfl, rfl⟩) rfl rfl (by decide) (by decide) rfl rfl rfl rfl rfl rfl (by decide) rfl rfl rfl ?_
  refine w_p h_m298 3 (pc' := 7) (L' := [(0, .ref 1)]) (st' := [.ref 1]) rfl ?_
  refine w_gs H (pc' := 10) (L' := [(0, .ref 1)]) h_m298 (z_at.mk 3 rfl rfl) rfl (by decide) rfl rfl rfl rfl ?_
  refine w_p h_m298 1 (pc' := 14) (L' := []) (st' := [.int (0 : Int32)]) rfl ?_
  refine w_ri h_m298 (z_at.mk 1 rfl rfl) rfl rfl ?_
  show z_W 996 293 9 [(0, .ref 1)] [.int (0 : Int32), .int (39 : Int32)] m _
  refine w_p h_m293 1 (pc' := 10) (L' := [(0, .ref 1)]) (st' := [.int (39 : Int32)]) rfl ?_
  refine w_ri h_m293 (z_at.mk 1 rfl rfl) rfl rfl ?_
  show z_W 997 102 71 [(0, .ref 120), (1, .ref 1), (2, .int (0 : Int32)), (3, .int (1 : Int32)), (4, .int (6 : Int32)), (5, .int (8 : Int32))] [.int (39 : Int32), .int (8 : Int32)] m _
  refine w_p h_m102 3 (pc' := 77) (L' := [(0, .ref 120), (1, .ref 1), (2, .int (0 : Int32)), (3, .int (1 : Int32)), (4, .int (6 : Int32)), (5, .int (8 : Int32))]) (st' := [.int (8 : Int32), .ref 1]) rfl ?_
  refine w_cv (H.te (by decide) rfl).1 (pc' := 80) (L' := [(0, .ref 120), (1, .ref 1), (2, .int (0 : Int32)), (3, .int (1 : Int32)), (4, .int (6 : Int32)), (5, .int (8 : Int32))]) (rest := []) (Ps := [.int (8 : Int32)]) (L0 := [(0, .ref 1), (1, .int (8 : Int32))]) h_m102 (z_at.mk 3 rfl rfl) (Or.inl ⟨rfl, rfl⟩) rfl rfl (by decide) (by decide) rfl rfl rfl rfl rfl rfl (by decide) rfl rfl rfl ?_
  refine w_p h_m294 1 (pc' := 1) (L' := [(0, .ref 1), (1, .int (8 : Int32))]) (st' := [.ref 1]) rfl ?_
  refine w_cv (H.te (by decide) rfl).1 (pc' := 4) (L' := [(0, .ref 1), (1, .int (8 : Int32))]) (rest := []) (Ps := []) (L0 := [(0, .ref 1)]) h_m294 (z_at.mk 3 rfl rfl) (Or.inl ⟨rfl, rfl⟩) rfl rfl (by decide) (by decide) rfl rfl rfl rfl rfl rfl (by decide) rfl rfl rfl ?_
  refine w_p h_m299 3 (pc' := 7) (L' := [(0, .ref 1)]) (st' := [.ref 1]) rfl ?_
  refine w_gs H (pc' := 10) (L' := [(0, .ref 1)]) h_m299 (z_at.mk 3 rfl rfl) rfl (by decide) rfl rfl rfl rfl ?_
  refine w_p h_m299 3 (pc' := 18) (L' := []) (st' := [.int (1 : Int32)]) rfl ?_
  refine w_ri h_m299 (z_at.mk 1 rfl rfl) rfl rfl ?_
  show z_W 996 294 4 [(0, .ref 1), (1, .int (8 : Int32))] [.int (1 : Int32)] m _
  refine w_p h_m294 2 (pc' := 8) (L' := [(0, .ref 1), (1, .int (8 : Int32))]) (st' := [.ref 1]) rfl ?_
  refine w_gs H (pc' := 11) (L' := [(0, .ref 1), (1, .int (8 : Int32))]) h_m294 (z_at.mk 3 rfl rfl) rfl (by decide) rfl rfl rfl rfl ?_
  refine w_p h_m294 1 (pc' := 12) (L' := [(0, .ref 1), (1, .int (8 : Int32))]) (st' := [.int (8 : Int32), .ref 19]) rfl ?_
  refine w_cs (As := [.ref 19, .int (8 : Int32)]) (rest := []) (j := 308) (L0 := [(0, .ref 19), (1, .int (8 : Int32))]) (pc' := 15) (L' := [(0, .ref 1), (1, .int (8 : Int32))]) h_m294 (z_at.mk 3 rfl rfl) (Or.inl ⟨rfl, rfl⟩) rfl rfl rfl rfl rfl ?_
  refine w_p h_m308 2 (pc' := 2) (L' := [(0, .ref 19), (1, .int (8 : Int32))]) (st' := [.ref 19, .int (8 : Int32)]) rfl ?_
  refine w_lene H (x := (39 : Int32)) (pc' := 3) (L' := [(0, .ref 19), (1, .int (8 : Int32))]) h_m308 (z_at.mk 1 rfl rfl) (by decide) rfl (by decide) rfl rfl rfl ?_
  refine w_ci (pc' := 6) (L' := [(0, .ref 19), (1, .int (8 : Int32))]) h_m308 (z_at.mk 3 rfl rfl) rfl (z_cat_le 0 rfl (by decide)) ⟨by decide, by decide⟩ rfl rfl ?_
  refine w_p h_m308 2 (pc' := 8) (L' := [(0, .ref 19), (1, .int (8 : Int32))]) (st' := [.int (8 : Int32), .ref 19]) rfl ?_
  refine w_ae H (j := 8) (pc' := 9) (L' := [(0, .ref 19), (1, .int (8 : Int32))]) h_m308 (z_at.mk 1 rfl rfl) rfl rfl rfl (by decide) rfl (by decide) rfl rfl rfl ?_
  refine w_p h_m308 3 (pc' := 14) (L' := [(0, .ref 19), (1, .int (8 : Int32))]) (st' := [.int (111 : Int32)]) rfl ?_
  refine w_ri h_m308 (z_at.mk 1 rfl rfl) rfl rfl ?_
  show z_W 996 294 15 [(0, .ref 1), (1, .int (8 : Int32))] [.int (111 : Int32)] m _
  refine w_ri h_m294 (z_at.mk 1 rfl rfl) rfl rfl ?_
  show z_W 997 102 80 [(0, .ref 120), (1, .ref 1), (2, .int (0 : Int32)), (3, .int (1 : Int32)), (4, .int (6 : Int32)), (5, .int (8 : Int32))] [.int (111 : Int32)] m _
  refine w_p h_m102 6 (pc' := 59) (L' := [(0, .ref 120), (1, .ref 1), (2, .int (0 : Int32)), (3, .int (1 : Int32)), (4, .int (6 : Int32)), (5, .int (9 : Int32))]) (st' := [.ref 1, .int (9 : Int32)]) rfl ?_
  refine w_cv (H.te (by decide) rfl).1 (pc' := 62) (L' := [(0, .ref 120), (1, .ref 1), (2, .int (0 : Int32)), (3, .int (1 : Int32)), (4, .int (6 : Int32)), (5, .int (9 : Int32))]) (rest := [.int (9 : Int32)]) (Ps := []) (L0 := [(0, .ref 1)]) h_m102 (z_at.mk 3 rfl rfl) (Or.inl ⟨rfl, rfl⟩) rfl rfl (by decide) (by decide) rfl rfl rfl rfl rfl rfl (by decide) rfl rfl rfl ?_
  refine w_p h_m293 1 (pc' := 1) (L' := [(0, .ref 1)]) (st' := [.ref 1]) rfl ?_
  refine w_gs H (pc' := 4) (L' := [(0, .ref 1)]) h_m293 (z_at.mk 3 rfl rfl) rfl (by decide) rfl rfl rfl rfl ?_
  refine w_lene H (x := (39 : Int32)) (pc' := 5) (L' := [(0, .ref 1)]) h_m293 (z_at.mk 1 rfl rfl) (by decide) rfl (by decide) rfl rfl rfl ?_
  refine w_p h_m293 1 (pc' := 6) (L' := [(0, .ref 1)]) (st' := [.ref 1, .int (39 : Int32)]) rfl ?_
  refine w_cv (H.te (by decide) rfl).1 (pc' := 9) (L' := [(0, .ref 1)]) (rest := [.int (39 : Int32)]) (Ps := []) (L0 := [(0, .ref 1)]) h_m293 (z_at.mk 3 rfl rfl) (Or.inl ⟨rfl, rfl⟩) rfl rfl (by decide) (by decide) rfl rfl rfl rfl rfl rfl (by decide) rfl rfl rfl ?_
  refine w_p h_m298 3 (pc' := 7) (L' := [(0, .ref 1)]) (st' := [.ref 1]) rfl ?_
  refine w_gs H (pc' := 10) (L' := [(0, .ref 1)]) h_m298 (z_at.mk 3 rfl rfl) rfl (by decide) rfl rfl rfl rfl ?_
  refine w_p h_m298 1 (pc' := 14) (L' := []) (st' := [.int (0 : Int32)]) rfl ?_
  refine w_ri h_m298 (z_at.mk 1 rfl rfl) rfl rfl ?_
  show z_W 996 293 9 [(0, .ref 1)] [.int (0 : Int32), .int (39 : Int32)] m _
  refine w_p h_m293 1 (pc' := 10) (L' := [(0, .ref 1)]) (st' := [.int (39 : Int32)]) rfl ?_
  refine w_ri h_m293 (z_at.mk 1 rfl rfl) rfl rfl ?_
  show z_W 997 102 62 [(0, .ref 120), (1, .ref 1), (2, .int (0 : Int32)), (3, .int (1 : Int32)), (4, .int (6 : Int32)), (5, .int (9 : Int32))] [.int (39 : Int32), .int (9 : Int32)] m _
  refine w_p h_m102 3 (pc' := 68) (L' := [(0, .ref 120), (1, .ref 1), (2, .int (0 : Int32)), (3, .int (1 : Int32)), (4, .int (6 : Int32)), (5, .int (9 : Int32))]) (st' := [.ref 1, .int (9 : Int32)]) rfl ?_
  refine w_cv (H.te (by decide) rfl).1 (pc' := 71) (L' := [(0, .ref 120), (1, .ref 1), (2, .int (0 : Int32)), (3, .int (1 : Int32)), (4, .int (6 : Int32)), (5, .int (9 : Int32))]) (rest := [.int (9 : Int32)]) (Ps := []) (L0 := [(0, .ref 1)]) h_m102 (z_at.mk 3 rfl rfl) (Or.inl ⟨rfl, rfl⟩) rfl rfl (by decide) (by decide) rfl rfl rfl rfl rfl rfl (by decide) rfl rfl rfl ?_
  refine w_p h_m293 1 (pc' := 1) (L' := [(0, .ref 1)]) (st' := [.ref 1]) rfl ?_
  refine w_gs H (pc' := 4) (L' := [(0, .ref 1)]) h_m293 (z_at.mk 3 rfl rfl) rfl (by decide) rfl rfl rfl rfl ?_
  refine w_lene H (x := (39 : Int32)) (pc' := 5) (L' := [(0, .ref 1)]) h_m293 (z_at.mk 1 rfl rfl) (by decide) rfl (by decide) rfl rfl rfl ?_
  refine w_p h_m293 1 (pc' := 6) (L' := [(0, .ref 1)]) (st' := [.ref 1, .int (39 : Int32)]) rfl ?_
  refine w_cv (H.te (by decide) rfl).1 (pc' := 9) (L' := [(0, .ref 1)]) (rest := [.int (39 : Int32)]) (Ps := []) (L0 := [(0, .ref 1)]) h_m293 (z_at.mk 3 rfl rfl) (Or.inl ⟨rfl, rfl⟩) rfl rfl (by decide) (by decide) rfl rfl rfl rfl rfl rfl (by decide) rfl rfl rfl ?_
  refine w_p h_m298 3 (pc' := 7) (L' := [(0, .ref 1)]) (st' := [.ref 1]) rfl ?_
  refine w_gs H (pc' := 10) (L' := [(0, .ref 1)]) h_m298 (z_at.mk 3 rfl rfl) rfl (by decide) rfl rfl rfl rfl ?_
  refine w_p h_m298 1 (pc' := 14) (L' := []) (st' := [.int (0 : Int32)]) rfl ?_
  refine w_ri h_m298 (z_at.mk 1 rfl rfl) rfl rfl ?_
  show z_W 996 293 9 [(0, .ref 1)] [.int (0 : Int32), .int (39 : Int32)] m _
  refine w_p h_m293 1 (pc' := 10) (L' := [(0, .ref 1)]) (st' := [.int (39 : Int32)]) rfl ?_
  refine w_ri h_m293 (z_at.mk 1 rfl rfl) rfl rfl ?_
  show z_W 997 102 71 [(0, .ref 120), (1, .ref 1), (2, .int (0 : Int32)), (3, .int (1 : Int32)), (4, .int (6 : Int32)), (5, .int (9 : Int32))] [.int (39 : Int32), .int (9 : Int32)] m _
  refine w_p h_m102 3 (pc' := 77) (L' := [(0, .ref 120), (1, .ref 1), (2, .int (0 : Int32)), (3, .int (1 : Int32)), (4, .int (6 : Int32)), (5, .int (9 : Int32))]) (st' := [.int (9 : Int32), .ref 1]) rfl ?_
  refine w_cv (H.te (by decide) rfl).1 (pc' := 80) (L' := [(0, .ref 120), (1, .ref 1), (2, .int (0 : Int32)), (3, .int (1 : Int32)), (4, .int (6 : Int32)), (5, .int (9 : Int32))]) (rest := []) (Ps := [.int (9 : Int32)]) (L0 := [(0, .ref 1), (1, .int (9 : Int32))]) h_m102 (z_at.mk 3 rfl rfl) (Or.inl ⟨rfl, rfl⟩) rfl rfl (by decide) (by decide) rfl rfl rfl rfl rfl rfl (by decide) rfl rfl rfl ?_
  refine w_p h_m294 1 (pc' := 1) (L' := [(0, .ref 1), (1, .int (9 : Int32))]) (st' := [.ref 1]) rfl ?_
  refine w_cv (H.te (by decide) rfl).1 (pc' := 4) (L' := [(0, .ref 1), (1, .int (9 : Int32))]) (rest := []) (Ps := []) (L0 := [(0, .ref 1)]) h_m294 (z_at.mk 3 rfl rfl) (Or.inl ⟨rfl, rfl⟩) rfl rfl (by decide) (by decide) rfl rfl rfl rfl rfl rfl (by decide) rfl rfl rfl ?_
  refine w_p h_m299 3 (pc' := 7) (L' := [(0, .ref 1)]) (st' := [.ref 1]) rfl ?_
  refine w_gs H (pc' := 10) (L' := [(0, .ref 1)]) h_m299 (z_at.mk 3 rfl rfl) rfl (by decide) rfl rfl rfl rfl ?_
  refine w_p h_m299 3 (pc' := 18) (L' := []) (st' := [.int (1 : Int32)]) rfl ?_
  refine w_ri h_m299 (z_at.mk 1 rfl rfl) rfl rfl ?_
  show z_W 996 294 4 [(0, .ref 1), (1, .int (9 : Int32))] [.int (1 : Int32)] m _
  refine w_p h_m294 2 (pc' := 8) (L' := [(0, .ref 1), (1, .int (9 : Int32))]) (st' := [.ref 1]) rfl ?_
  refine w_gs H (pc' := 11) (L' := [(0, .ref 1), (1, .int (9 : Int32))]) h_m294 (z_at.mk 3 rfl rfl) rfl (by decide) rfl rfl rfl rfl ?_
  refine w_p h_m294 1 (pc' := 12) (L' := [(0, .ref 1), (1, .int (9 : Int32))]) (st' := [.int (9 : Int32), .ref 19]) rfl ?_
  refine w_cs (As := [.ref 19, .int (9 : Int32)]) (rest := []) (j := 308) (L0 := [(0, .ref 19), (1, .int (9 : Int32))]) (pc' := 15) (L' := [(0, .ref 1), (1, .int (9 : Int32))]) h_m294 (z_at.mk 3 rfl rfl) (Or.inl ⟨rfl, rfl⟩) rfl rfl rfl rfl rfl ?_
  refine w_p h_m308 2 (pc' := 2) (L' := [(0, .ref 19), (1, .int (9 : Int32))]) (st' := [.ref 19, .int (9 : Int32)]) rfl ?_
  refine w_lene H (x := (39 : Int32)) (pc' := 3) (L' := [(0, .ref 19), (1, .int (9 : Int32))]) h_m308 (z_at.mk 1 rfl rfl) (by decide) rfl (by decide) rfl rfl rfl ?_
  refine w_ci (pc' := 6) (L' := [(0, .ref 19), (1, .int (9 : Int32))]) h_m308 (z_at.mk 3 rfl rfl) rfl (z_cat_le 0 rfl (by decide)) ⟨by decide, by decide⟩ rfl rfl ?_
  refine w_p h_m308 2 (pc' := 8) (L' := [(0, .ref 19), (1, .int (9 : Int32))]) (st' := [.int (9 : Int32), .ref 19]) rfl ?_
  refine w_ae H (j := 9) (pc' := 9) (L' := [(0, .ref 19), (1, .int (9 : Int32))]) h_m308 (z_at.mk 1 rfl rfl) rfl rfl rfl (by decide) rfl (by decide) rfl rfl rfl ?_
  refine w_p h_m308 3 (pc' := 14) (L' := [(0, .ref 19), (1, .int (9 : Int32))]) (st' := [.int (109 : Int32)]) rfl ?_
  refine w_ri h_m308 (z_at.mk 1 rfl rfl) rfl rfl ?_
  show z_W 996 294 15 [(0, .ref 1), (1, .int (9 : Int32))] [.int (109 : Int32)] m _
  refine w_ri h_m294 (z_at.mk 1 rfl rfl) rfl rfl ?_
  show z_W 997 102 80 [(0, .ref 120), (1, .ref 1), (2, .int (0 : Int32)), (3, .int (1 : Int32)), (4, .int (6 : Int32)), (5, .int (9 : Int32))] [.int (109 : Int32)] m _
  refine w_p h_m102 6 (pc' := 59) (L' := [(0, .ref 120), (1, .ref 1), (2, .int (0 : Int32)), (3, .int (1 : Int32)), (4, .int (6 : Int32)), (5, .int (10 : Int32))]) (st' := [.ref 1, .int (10 : Int32)]) rfl ?_
  refine w_cv (H.te (by decide) rfl).1 (pc' := 62) (L' := [(0, .ref 120), (1, .ref 1), (2, .int (0 : Int32)), (3, .int (1 : Int32)), (4, .int (6 : Int32)), (5, .int (10 : Int32))]) (rest := [.int (10 : Int32)]) (Ps := []) (L0 := [(0, .ref 1)]) h_m102 (z_at.mk 3 rfl rfl) (Or.inl ⟨rfl, rfl⟩) rfl rfl (by decide) (by decide) rfl rfl rfl rfl rfl rfl (by decide) rfl rfl rfl ?_
  refine w_p h_m293 1 (pc' := 1) (L' := [(0, .ref 1)]) (st' := [.ref 1]) rfl ?_
  refine w_gs H (pc' := 4) (L' := [(0, .ref 1)]) h_m293 (z_at.mk 3 rfl rfl) rfl (by decide) rfl rfl rfl rfl ?_
  refine w_lene H (x := (39 : Int32)) (pc' := 5) (L' := [(0, .ref 1)]) h_m293 (z_at.mk 1 rfl rfl) (by decide) rfl (by decide) rfl rfl rfl ?_
  refine w_p h_m293 1 (pc' := 6) (L' := [(0, .ref 1)]) (st' := [.ref 1, .int (39 : Int32)]) rfl ?_
  refine w_cv (H.te (by decide) rfl).1 (pc' := 9) (L' := [(0, .ref 1)]) (rest := [.int (39 : Int32)]) (Ps := []) (L0 := [(0, .ref 1)]) h_m293 (z_at.mk 3 rfl rfl) (Or.inl ⟨rfl, rfl⟩) rfl rfl (by decide) (by decide) rfl rfl rfl rfl rfl rfl (by decide) rfl rfl rfl ?_
  refine w_p h_m298 3 (pc' := 7) (L' := [(0, .ref 1)]) (st' := [.ref 1]) rfl ?_
  refine w_gs H (pc' := 10) (L' := [(0, .ref 1)]) h_m298 (z_at.mk 3 rfl rfl) rfl (by decide) rfl rfl rfl rfl ?_
  refine w_p h_m298 1 (pc' := 14) (L' := []) (st' := [.int (0 : Int32)]) rfl ?_
  refine w_ri h_m298 (z_at.mk 1 rfl rfl) rfl rfl ?_
  show z_W 996 293 9 [(0, .ref 1)] [.int (0 : Int32), .int (39 : Int32)] m _
  refine w_p h_m293 1 (pc' := 10) (L' := [(0, .ref 1)]) (st' := [.int (39 : Int32)]) rfl ?_
  refine w_ri h_m293 (z_at.mk 1 rfl rfl) rfl rfl ?_
  show z_W 997 102 62 [(0, .ref 120), (1, .ref 1), (2, .int (0 : Int32)), (3, .int (1 : Int32)), (4, .int (6 : Int32)), (5, .int (10 : Int32))] [.int (39 : Int32), .int (10 : Int32)] m _
  refine w_p h_m102 3 (pc' := 68) (L' := [(0, .ref 120), (1, .ref 1), (2, .int (0 : Int32)), (3, .int (1 : Int32)), (4, .int (6 : Int32)), (5, .int (10 : Int32))]) (st' := [.ref 1, .int (10 : Int32)]) rfl ?_
  refine w_cv (H.te (by decide) rfl).1 (pc' := 71) (L' := [(0, .ref 120), (1, .ref 1), (2, .int (0 : Int32)), (3, .int (1 : Int32)), (4, .int (6 : Int32)), (5, .int (10 : Int32))]) (rest := [.int (10 : Int32)]) (Ps := []) (L0 := [(0, .ref 1)]) h_m102 (z_at.mk 3 rfl rfl) (Or.inl ⟨rfl, rfl⟩) rfl rfl (by decide) (by decide) rfl rfl rfl rfl rfl rfl (by decide) rfl rfl rfl ?_
  refine w_p h_m293 1 (pc' := 1) (L' := [(0, .ref 1)]) (st' := [.ref 1]) rfl ?_
  refine w_gs H (pc' := 4) (L' := [(0, .ref 1)]) h_m293 (z_at.mk 3 rfl rfl) rfl (by decide) rfl rfl rfl rfl ?_
  refine w_lene H (x := (39 : Int32)) (pc' := 5) (L' := [(0, .ref 1)]) h_m293 (z_at.mk 1 rfl rfl) (by decide) rfl (by decide) rfl rfl rfl ?_
  refine w_p h_m293 1 (pc' := 6) (L' := [(0, .ref 1)]) (st' := [.ref 1, .int (39 : Int32)]) rfl ?_
  refine w_cv (H.te (by decide) rfl).1 (pc' := 9) (L' := [(0, .ref 1)]) (rest := [.int (39 : Int32)]) (Ps := []) (L0 := [(0, .ref 1)]) h_m293 (z_at.mk 3 rfl rfl) (Or.inl ⟨rfl, rfl⟩) rfl rfl (by decide) (by decide) rfl rfl rfl rfl rfl rfl (by decide) rfl rfl rfl ?_
  refine w_p h_m298 3 (pc' := 7) (L' := [(0, .ref 1)]) (st' := [.ref 1]) rfl ?_
  refine w_gs H (pc' := 10) (L' := [(0, .ref 1)]) h_m298 (z_at.mk 3 rfl rfl) rfl (by decide) rfl rfl rfl rfl ?_
  refine w_p h_m298 1 (pc' := 14) (L' := []) (st' := [.int (0 : Int32)]) rfl ?_
  refine w_ri h_m298 (z_at.mk 1 rfl rfl) rfl rfl ?_
  show z_W 996 293 9 [(0, .ref 1)] [.int (0 : Int32), .int (39 : Int32)] m _
  refine w_p h_m293 1 (pc' := 10) (L' := [(0, .ref 1)]) (st' := [.int (39 : Int32)]) rfl ?_
  refine w_ri h_m293 (z_at.mk 1 rfl rfl) rfl rfl ?_
  show z_W 997 102 71 [(0, .ref 120), (1, .ref 1), (2, .int (0 : Int32)), (3, .int (1 : Int32)), (4, .int (6 : Int32)), (5, .int (10 : Int32))] [.int (39 : Int32), .int (10 : Int32)] m _
  refine w_p h_m102 3 (pc' := 77) (L' := [(0, .ref 120), (1, .ref 1), (2, .int (0 : Int32)), (3, .int (1 : Int32)), (4, .int (6 : Int32)), (5, .int (10 : Int32))]) (st' := [.int (10 : Int32), .ref 1]) rfl ?_
  refine w_cv (H.te (by decide) rfl).1 (pc' := 80) (L' := [(0, .ref 120), (1, .ref 1), (2, .int (0 : Int32)), (3, .int (1 : Int32)), (4, .int (6 : Int32)), (5, .int (10 : Int32))]) (rest := []) (Ps := [.int (10 : Int32)]) (L0 := [(0, .ref 1), (1, .int (10 : Int32))]) h_m102 (z_at.mk 3 rfl rfl) (Or.inl ⟨rfl, rfl⟩) rfl rfl (by decide) (by decide) rfl rfl rfl rfl rfl rfl (by decide) rfl rfl rfl ?_
  refine w_p h_m294 1 (pc' := 1) (L' := [(0, .ref 1), (1, .int (10 : Int32))]) (st' := [.ref 1]) rfl ?_
  refine w_cv (H.te (by decide) rfl).1 (pc' := 4) (L' := [(0, .ref 1), (1, .int (10 : Int32))]) (rest := []) (Ps := []) (L0 := [(0, .ref 1)]) h_m294 (z_at.mk 3 rfl rfl) (Or.inl ⟨rfl, rfl⟩) rfl rfl (by decide) (by decide) rfl rfl rfl rfl rfl rfl (by decide) rfl rfl rfl ?_
  refine w_p h_m299 3 (pc' := 7) (L' := [(0, .ref 1)]) (st' := [.ref 1]) rfl ?_
  refine w_gs H (pc' := 10) (L' := [(0, .ref 1)]) h_m299 (z_at.mk 3 rfl rfl) rfl (by decide) rfl rfl rfl rfl ?_
  refine w_p h_m299 3 (pc' := 18) (L' := []) (st' := [.int (1 : Int32)]) rfl ?_
  refine w_ri h_m299 (z_at.mk 1 rfl rfl) rfl rfl ?_
  show z_W 996 294 4 [(0, .ref 1), (1, .int (10 : Int32))] [.int (1 : Int32)] m _
  refine w_p h_m294 2 (pc' := 8) (L' := [(0, .ref 1), (1, .int (10 : Int32))]) (st' := [.ref 1]) rfl ?_
  refine w_gs H (pc' := 11) (L' := [(0, .ref 1), (1, .int (10 : Int32))]) h_m294 (z_at.mk 3 rfl rfl) rfl (by decide) rfl rfl rfl rfl ?_
  refine w_p h_m294 1 (pc' := 12) (L' := [(0, .ref 1), (1, .int (10 : Int32))]) (st' := [.int (10 : Int32), .ref 19]) rfl ?_
  refine w_cs (As := [.ref 19, .int (10 : Int32)]) (rest := []) (j := 308) (L0 := [(0, .ref 19), (1, .int (10 : Int32))]) (pc' := 15) (L' := [(0, .ref 1), (1, .int (10 : Int32))]) h_m294 (z_at.mk 3 rfl rfl) (Or.inl ⟨rfl, rfl⟩) rfl rfl rfl rfl rfl ?_
  refine w_p h_m308 2 (pc' := 2) (L' := [(0, .ref 19), (1, .int (10 : Int32))]) (st' := [.ref 19, .int (10 : Int32)]) rfl ?_
  refine w_lene H (x := (39 : Int32)) (pc' := 3) (L' := [(0, .ref 19), (1, .int (10 : Int32))]) h_m308 (z_at.mk 1 rfl rfl) (by decide) rfl (by decide) rfl rfl rfl ?_
  refine w_ci (pc' := 6) (L' := [(0, .ref 19), (1, .int (10 : Int32))]) h_m308 (z_at.mk 3 rfl rfl) rfl (z_cat_le 0 rfl (by decide)) ⟨by decide, by decide⟩ rfl rfl ?_
  refine w_p h_m308 2 (pc' := 8) (L' := [(0, .ref 19), (1, .int (10 : Int32))]) (st' := [.int (10 : Int32), .ref 19]) rfl ?_
  refine w_ae H (j := 10) (pc' := 9) (L' := [(0, .ref 19), (1, .int (10 : Int32))]) h_m308 (z_at.mk 1 rfl rfl) rfl rfl rfl (by decide) rfl (by decide) rfl rfl rfl ?_
  refine w_p h_m308 3 (pc' := 14) (L' := [(0, .ref 19), (1, .int (10 : Int32))]) (st' := [.int (32 : Int32)]) rfl ?_
  refine w_ri h_m308 (z_at.mk 1 rfl rfl) rfl rfl ?_
  show z_W 996 294 15 [(0, .ref 1), (1, .int (10 : Int32))] [.int (32 : Int32)] m _
  refine w_ri h_m294 (z_at.mk 1 rfl rfl) rfl rfl ?_
  show z_W 997 102 80 [(0, .ref 120), (1, .ref 1), (2, .int (0 : Int32)), (3, .int (1 : Int32)), (4, .int (6 : Int32)), (5, .int (10 : Int32))] [.int (32 : Int32)] m _
  refine w_p h_m102 7 (pc' := 92) (L' := [(0, .ref 120), (1, .ref 1), (2, .int (0 : Int32)), (3, .int (1 : Int32)), (4, .int (6 : Int32)), (5, .int (10 : Int32))]) (st' := [.int (0 : Int32), .int (10 : Int32), .int (6 : Int32), .ref 1, .ref 120]) rfl ?_
  refine w_cv (H.t rfl) (pc' := 95) (L' := [(0, .ref 120), (1, .ref 1), (2, .int (0 : Int32)), (3, .int (1 : Int32)), (4, .int (6 : Int32)), (5, .int (10 : Int32))]) (rest := []) (Ps := [.ref 1, .int (6 : Int32), .int (10 : Int32), .int (0 : Int32)]) (L0 := [(0, .ref 120), (1, .ref 1), (2, .int (6 : Int32)), (3, .int (10 : Int32)), (4, .int (0 : Int32))]) h_m102 (z_at.mk 3 rfl rfl) (Or.inl ⟨rfl, rfl⟩) rfl rfl (by decide) (by decide) rfl rfl rfl rfl rfl rfl (by decide) rfl rfl rfl ?_
  refine w_p h_m103 1 (pc' := 1) (L' := [(0, .ref 120), (1, .ref 1), (2, .int (6 : Int32)), (3, .int (10 : Int32)), (4, .int (0 : Int32))]) (st' := [.ref 120]) rfl ?_
  refine w_cv (H.t rfl) (pc' := 4) (L' := [(0, .ref 120), (1, .ref 1), (2, .int (6 : Int32)), (3, .int (10 : Int32)), (4, .int (0 : Int32))]) (rest := []) (Ps := []) (L0 := [(0, .ref 120)]) h_m103 (z_at.mk 3 rfl rfl) (Or.inl ⟨rfl, rfl⟩) rfl rfl (by decide) (by decide) rfl rfl rfl rfl rfl rfl (by decide) rfl rfl rfl ?_
  refine w_p h_m93 1 (pc' := 1) (L' := [(0, .ref 120)]) (st' := [.ref 120]) rfl ?_
  refine w_gf H (pc' := 4) (L' := [(0, .ref 120)]) h_m93 (z_at.mk 3 rfl rfl) rfl (u := .int (-1 : Int32)) rfl rfl rfl ?_
  refine w_p h_m93 4 (pc' := 13) (L' := []) (st' := [.int (1 : Int32)]) rfl ?_
  refine w_ri h_m93 (z_at.mk 1 rfl rfl) rfl rfl ?_
  show z_W 996 103 4 [(0, .ref 120), (1, .ref 1), (2, .int (6 : Int32)), (3, .int (10 : Int32)), (4, .int (0 : Int32))] [.int (1 : Int32)] m _
  refine w_p h_m103 4 (pc' := 13) (L' := [(0, .ref 120), (1, .ref 1), (2, .int (6 : Int32)), (3, .int (10 : Int32)), (4, .int (0 : Int32))]) (st' := [.ref 120]) rfl ?_
  refine w_gf H (pc' := 16) (L' := [(0, .ref 120), (1, .ref 1), (2, .int (6 : Int32)), (3, .int (10 : Int32)), (4, .int (0 : Int32))]) h_m103 (z_at.mk 3 rfl rfl) rfl (u := .int (0 : Int32)) rfl rfl rfl ?_
  refine w_p h_m103 3 (pc' := 23) (L' := [(0, .ref 120), (1, .ref 1), (2, .int (6 : Int32)), (3, .int (10 : Int32)), (4, .int (0 : Int32))]) (st' := [.ref 120]) rfl ?_
  refine w_gf H (pc' := 26) (L' := [(0, .ref 120), (1, .ref 1), (2, .int (6 : Int32)), (3, .int (10 : Int32)), (4, .int (0 : Int32))]) h_m103 (z_at.mk 3 rfl rfl) rfl (u := .int (0 : Int32)) rfl rfl rfl ?_
  refine w_p h_m103 7 (pc' := 36) (L' := []) (st' := [.int (0 : Int32)]) rfl ?_
  refine w_ri h_m103 (z_at.mk 1 rfl rfl) rfl rfl ?_
  show z_W 997 102 95 [(0, .ref 120), (1, .ref 1), (2, .int (0 : Int32)), (3, .int (1 : Int32)), (4, .int (6 : Int32)), (5, .int (10 : Int32))] [.int (0 : Int32)] m _
  refine w_p h_m102 10 (pc' := 59) (L' := [(0, .ref 120), (1, .ref 1), (2, .int (0 : Int32)), (3, .int (2 : Int32)), (4, .int (11 : Int32)), (5, .int (11 : Int32))]) (st' := [.ref 1, .int (11 : Int32)]) rfl ?_
  refine w_cv (H.te (by decide) rfl).1 (pc' := 62) (L' := [(0, .ref 120), (1, .ref 1), (2, .int (0 : Int32)), (3, .int (2 : Int32)), (4, .int (11 : Int32)), (5, .int (11 : Int32))]) (rest := [.int (11 : Int32)]) (Ps := []) (L0 := [(0, .ref 1)]) h_m102 (z_at.mk 3 rfl rfl) (Or.inl ⟨rfl, rfl⟩) rfl rfl (by decide) (by decide) rfl rfl rfl rfl rfl rfl (by decide) rfl rfl rfl ?_
  refine w_p h_m293 1 (pc' := 1) (L' := [(0, .ref 1)]) (st' := [.ref 1]) rfl ?_
  refine w_gs H (pc' := 4) (L' := [(0, .ref 1)]) h_m293 (z_at.mk 3 rfl rfl) rfl (by decide) rfl rfl rfl rfl ?_
  refine w_lene H (x := (39 : Int32)) (pc' := 5) (L' := [(0, .ref 1)]) h_m293 (z_at.mk 1 rfl rfl) (by decide) rfl (by decide) rfl rfl rfl ?_
  refine w_p h_m293 1 (pc' := 6) (L' := [(0, .ref 1)]) (st' := [.ref 1, .int (39 : Int32)]) rfl ?_
  refine w_cv (H.te (by decide) rfl).1 (pc' := 9) (L' := [(0, .ref 1)]) (rest := [.int (39 : Int32)]) (Ps := []) (L0 := [(0, .ref 1)]) h_m293 (z_at.mk 3 rfl rfl) (Or.inl ⟨rfl, rfl⟩) rfl rfl (by decide) (by decide) rfl rfl rfl rfl rfl rfl (by decide) rfl rfl rfl ?_
  refine w_p h_m298 3 (pc' := 7) (L' := [(0, .ref 1)]) (st' := [.ref 1]) rfl ?_
  refine w_gs H (pc' := 10) (L' := [(0, .ref 1)]) h_m298 (z_at.mk 3 rfl rfl) rfl (by decide) rfl rfl rfl rfl ?_
  refine w_p h_m298 1 (pc' := 14) (L' := []) (st' := [.int (0 : Int32)]) rfl ?_
  refine w_ri h_m298 (z_at.mk 1 rfl rfl) rfl rfl ?_
  show z_W 996 293 9 [(0, .ref 1)] [.int (0 : Int32), .int (39 : Int32)] m _
  refine w_p h_m293 1 (pc' := 10) (L' := [(0, .ref 1)]) (st' := [.int (39 : Int32)]) rfl ?_
  refine w_ri h_m293 (z_at.mk 1 rfl rfl) rfl rfl ?_
  show z_W 997 102 62 [(0, .ref 120), (1, .ref 1), (2, .int (0 : Int32)), (3, .int (2 : Int32)), (4, .int (11 : Int32)), (5, .int (11 : Int32))] [.int (39 : Int32), .int (11 : Int32)] m _
  refine w_p h_m102 3 (pc' := 68) (L' := [(0, .ref 120), (1, .ref 1), (2, .int (0 : Int32)), (3, .int (2 : Int32)), (4, .int (11 : Int32)), (5, .int (11 : Int32))]) (st' := [.ref 1, .int (11 : Int32)]) rfl ?_
  refine w_cv (H.te (by decide) rfl).1 (pc' := 71) (L' := [(0, .ref 120), (1, .ref 1), (2, .int (0 : Int32)), (3, .int (2 : Int32)), (4, .int (11 : Int32)), (5, .int (11 : Int32))]) (rest := [.int (11 : Int32)]) (Ps := []) (L0 := [(0, .ref 1)]) h_m102 (z_at.mk 3 rfl rfl) (Or.inl ⟨rfl, rfl⟩) rfl rfl (by decide) (by decide) rfl rfl rfl rfl rfl rfl (by decide) rfl rfl rfl ?_
  refine w_p h_m293 1 (pc' := 1) (L' := [(0, .ref 1)]) (st' := [.ref 1]) rfl ?_
  refine w_gs H (pc' := 4) (L' := [(0, .ref 1)]) h_m293 (z_at.mk 3 rfl rfl) rfl (by decide) rfl rfl rfl rfl ?_
  refine w_lene H (x := (39 : Int32)) (pc' := 5) (L' := [(0, .ref 1)]) h_m293 (z_at.mk 1 rfl rfl) (by decide) rfl (by decide) rfl rfl rfl ?_
  refine w_p h_m293 1 (pc' := 6) (L' := [(0, .ref 1)]) (st' := [.ref 1, .int (39 : Int32)]) rfl ?_
  refine w_cv (H.te (by decide) rfl).1 (pc' := 9) (L' := [(0, .ref 1)]) (rest := [.int (39 : Int32)]) (Ps := []) (L0 := [(0, .ref 1)]) h_m293 (z_at.mk 3 rfl rfl) (Or.inl ⟨rfl, rfl⟩) rfl rfl (by decide) (by decide) rfl rfl rfl rfl rfl rfl (by decide) rfl rfl rfl ?_
  refine w_p h_m298 3 (pc' := 7) (L' := [(0, .ref 1)]) (st' := [.ref 1]) rfl ?_
  refine w_gs H (pc' := 10) (L' := [(0, .ref 1)]) h_m298 (z_at.mk 3 rfl rfl) rfl (by decide) rfl rfl rfl rfl ?_
  refine w_p h_m298 1 (pc' := 14) (L' := []) (st' := [.int (0 : Int32)]) rfl ?_
  refine w_ri h_m298 (z_at.mk 1 rfl rfl) rfl rfl ?_
  show z_W 996 293 9 [(0, .ref 1)] [.int (0 : Int32), .int (39 : Int32)] m _
  refine w_p h_m293 1 (pc' := 10) (L' := [(0, .ref 1)]) (st' := [.int (39 : Int32)]) rfl ?_
  refine w_ri h_m293 (z_at.mk 1 rfl rfl) rfl rfl ?_
  show z_W 997 102 71 [(0, .ref 120), (1, .ref 1), (2, .int (0 : Int32)), (3, .int (2 : Int32)), (4, .int (11 : Int32)), (5, .int (11 : Int32))] [.int (39 : Int32), .int (11 : Int32)] m _
  refine w_p h_m102 3 (pc' := 77) (L' := [(0, .ref 120), (1, .ref 1), (2, .int (0 : Int32)), (3, .int (2 : Int32)), (4, .int (11 : Int32)), (5, .int (11 : Int32))]) (st' := [.int (11 : Int32), .ref 1]) rfl ?_
  refine w_cv (H.te (by decide) rfl).1 (pc' := 80) (L' := [(0, .ref 120), (1, .ref 1), (2, .int (0 : Int32)), (3, .int (2 : Int32)), (4, .int (11 : Int32)), (5, .int (11 : Int32))]) (rest := []) (Ps := [.int (11 : Int32)]) (L0 := [(0, .ref 1), (1, .int (11 : Int32))]) h_m102 (z_at.mk 3 rfl rfl) (Or.inl ⟨rfl, rfl⟩) rfl rfl (by decide) (by decide) rfl rfl rfl rfl rfl rfl (by decide) rfl rfl rfl ?_
  refine w_p h_m294 1 (pc' := 1) (L' := [(0, .ref 1), (1, .int (11 : Int32))]) (st' := [.ref 1]) rfl ?_
  refine w_cv (H.te (by decide) rfl).1 (pc' := 4) (L' := [(0, .ref 1), (1, .int (11 : Int32))]) (rest := []) (Ps := []) (L0 := [(0, .ref 1)]) h_m294 (z_at.mk 3 rfl rfl) (Or.inl ⟨rfl, rfl⟩) rfl rfl (by decide) (by decide) rfl rfl rfl rfl rfl rfl (by decide) rfl rfl rfl ?_
  refine w_p h_m299 3 (pc' := 7) (L' := [(0, .ref 1)]) (st' := [.ref 1]) rfl ?_
  refine w_gs H (pc' := 10) (L' := [(0, .ref 1)]) h_m299 (z_at.mk 3 rfl rfl) rfl (by decide) rfl rfl rfl rfl ?_
  refine w_p h_m299 3 (pc' := 18) (L' := []) (st' := [.int (1 : Int32)]) rfl ?_
  refine w_ri h_m299 (z_at.mk 1 rfl rfl) rfl rfl ?_
  show z_W 996 294 4 [(0, .ref 1), (1, .int (11 : Int32))] [.int (1 : Int32)] m _
  refine w_p h_m294 2 (pc' := 8) (L' := [(0, .ref 1), (1, .int (11 : Int32))]) (st' := [.ref 1]) rfl ?_
  refine w_gs H (pc' := 11) (L' := [(0, .ref 1), (1, .int (11 : Int32))]) h_m294 (z_at.mk 3 rfl rfl) rfl (by decide) rfl rfl rfl rfl ?_
  refine w_p h_m294 1 (pc' := 12) (L' := [(0, .ref 1), (1, .int (11 : Int32))]) (st' := [.int (11 : Int32), .ref 19]) rfl ?_
  refine w_cs (As := [.ref 19, .int (11 : Int32)]) (rest := []) (j := 308) (L0 := [(0, .ref 19), (1, .int (11 : Int32))]) (pc' := 15) (L' := [(0, .ref 1), (1, .int (11 : Int32))]) h_m294 (z_at.mk 3 rfl rfl) (Or.inl ⟨rfl, rfl⟩) rfl rfl rfl rfl rfl ?_
  refine w_p h_m308 2 (pc' := 2) (L' := [(0, .ref 19), (1, .int (11 : Int32))]) (st' := [.ref 19, .int (11 : Int32)]) rfl ?_
  refine w_lene H (x := (39 : Int32)) (pc' := 3) (L' := [(0, .ref 19), (1, .int (11 : Int32))]) h_m308 (z_at.mk 1 rfl rfl) (by decide) rfl (by decide) rfl rfl rfl ?_
  refine w_ci (pc' := 6) (L' := [(0, .ref 19), (1, .int (11 : Int32))]) h_m308 (z_at.mk 3 rfl rfl) rfl (z_cat_le 0 rfl (by decide)) ⟨by decide, by decide⟩ rfl rfl ?_
  refine w_p h_m308 2 (pc' := 8) (L' := [(0, .ref 19), (1, .int (11 : Int32))]) (st' := [.int (11 : Int32), .ref 19]) rfl ?_
  refine w_ae H (j := 11) (pc' := 9) (L' := [(0, .ref 19), (1, .int (11 : Int32))]) h_m308 (z_at.mk 1 rfl rfl) rfl rfl rfl (by decide) rfl (by decide) rfl rfl rfl ?_
  refine w_p h_m308 3 (pc' := 14) (L' := [(0, .ref 19), (1, .int (11 : Int32))]) (st' := [.int (109 : Int32)]) rfl ?_
  refine w_ri h_m308 (z_at.mk 1 rfl rfl) rfl rfl ?_
  show z_W 996 294 15 [(0, .ref 1), (1, .int (11 : Int32))] [.int (109 : Int32)] m _
  refine w_ri h_m294 (z_at.mk 1 rfl rfl) rfl rfl ?_
  show z_W 997 102 80 [(0, .ref 120), (1, .ref 1), (2, .int (0 : Int32)), (3, .int (2 : Int32)), (4, .int (11 : Int32)), (5, .int (11 : Int32))] [.int (109 : Int32)] m _
  refine w_p h_m102 6 (pc' := 59) (L' := [(0, .ref 120), (1, .ref 1), (2, .int (0 : Int32)), (3, .int (2 : Int32)), (4, .int (11 : Int32)), (5, .int (12 : Int32))]) (st' := [.ref 1, .int (12 : Int32)]) rfl ?_
  refine w_cv (H.te (by decide) rfl).1 (pc' := 62) (L' := [(0, .ref 120), (1, .ref 1), (2, .int (0 : Int32)), (3, .int (2 : Int32)), (4, .int (11 : Int32)), (5, .int (12 : Int32))]) (rest := [.int (12 : Int32)]) (Ps := []) (L0 := [(0, .ref 1)]) h_m102 (z_at.mk 3 rfl rfl) (Or.inl ⟨rfl, rfl⟩) rfl rfl (by decide) (by decide) rfl rfl rfl rfl rfl rfl (by decide) rfl rfl rfl ?_
  refine w_p h_m293 1 (pc' := 1) (L' := [(0, .ref 1)]) (st' := [.ref 1]) rfl ?_
  refine w_gs H (pc' := 4) (L' := [(0, .ref 1)]) h_m293 (z_at.mk 3 rfl rfl) rfl (by decide) rfl rfl rfl rfl ?_
  refine w_lene H (x := (39 : Int32)) (pc' := 5) (L' := [(0, .ref 1)]) h_m293 (z_at.mk 1 rfl rfl) (by decide) rfl (by decide) rfl rfl rfl ?_
  refine w_p h_m293 1 (pc' := 6) (L' := [(0, .ref 1)]) (st' := [.ref 1, .int (39 : Int32)]) rfl ?_
  refine w_cv (H.te (by decide) rfl).1 (pc' := 9) (L' := [(0, .ref 1)]) (rest := [.int (39 : Int32)]) (Ps := []) (L0 := [(0, .ref 1)]) h_m293 (z_at.mk 3 rfl rfl) (Or.inl ⟨rfl, rfl⟩) rfl rfl (by decide) (by decide) rfl rfl rfl rfl rfl rfl (by decide) rfl rfl rfl ?_
  refine w_p h_m298 3 (pc' := 7) (L' := [(0, .ref 1)]) (st' := [.ref 1]) rfl ?_
  refine w_gs H (pc' := 10) (L' := [(0, .ref 1)]) h_m298 (z_at.mk 3 rfl rfl) rfl (by decide) rfl rfl rfl rfl ?_
  refine w_p h_m298 1 (pc' := 14) (L' := []) (st' := [.int (0 : Int32)]) rfl ?_
  refine w_ri h_m298 (z_at.mk 1 rfl rfl) rfl rfl ?_
  show z_W 996 293 9 [(0, .ref 1)] [.int (0 : Int32), .int (39 : Int32)] m _
  refine w_p h_m293 1 (pc' := 10) (L' := [(0, .ref 1)]) (st' := [.int (39 : Int32)]) rfl ?_
  refine w_ri h_m293 (z_at.mk 1 rfl rfl) rfl rfl ?_
  show z_W 997 102 62 [(0, .ref 120), (1, .ref 1), (2, .int (0 : Int32)), (3, .int (2 : Int32)), (4, .int (11 : Int32)), (5, .int (12 : Int32))] [.int (39 : Int32), .int (12 : Int32)] m _
  refine w_p h_m102 3 (pc' := 68) (L' := [(0, .ref 120), (1, .ref 1), (2, .int (0 : Int32)), (3, .int (2 : Int32)), (4, .int (11 : Int32)), (5, .int (12 : Int32))]) (st' := [.ref 1, .int (12 : Int32)]) rfl ?_
  refine w_cv (H.te (by decide) rfl).1 (pc' := 71) (L' := [(0, .ref 120), (1, .ref 1), (2, .int (0 : Int32)), (3, .int (2 : Int32)), (4, .int (11 : Int32)), (5, .int (12 : Int32))]) (rest := [.int (12 : Int32)]) (Ps := []) (L0 := [(0, .ref 1)]) h_m102 (z_at.mk 3 rfl rfl) (Or.inl ⟨rfl, rfl⟩) rfl rfl (by decide) (by decide) rfl rfl rfl rfl rfl rfl (by decide) rfl rfl rfl ?_
  refine w_p h_m293 1 (pc' := 1) (L' := [(0, .ref 1)]) (st' := [.ref 1]) rfl ?_
  refine w_gs H (pc' := 4) (L' := [(0, .ref 1)]) h_m293 (z_at.mk 3 rfl rfl) rfl (by decide) rfl rfl rfl rfl ?_
  refine w_lene H (x := (39 : Int32)) (pc' := 5) (L' := [(0, .ref 1)]) h_m293 (z_at.mk 1 rfl rfl) (by decide) rfl (by decide) rfl rfl rfl ?_
  refine w_p h_m293 1 (pc' := 6) (L' := [(0, .ref 1)]) (st' := [.ref 1, .int (39 : Int32)]) rfl ?_
  refine w_cv (H.te (by decide) rfl).1 (pc' := 9) (L' := [(0, .ref 1)]) (rest := [.int (39 : Int32)]) (Ps := []) (L0 := [(0, .ref 1)]) h_m293 (z_at.mk 3 rfl rfl) (Or.inl ⟨rfl, rfl⟩) rfl rfl (by decide) (by decide) rfl rfl rfl rfl rfl rfl (by decide) rfl rfl rfl ?_
  refine w_p h_m298 3 (pc' := 7) (L' := [(0, .ref 1)]) (st' := [.ref 1]) rfl ?_
  refine w_gs H (pc' := 10) (L' := [(0, .ref 1)]) h_m298 (z_at.mk 3 rfl rfl) rfl (by decide) rfl rfl rfl rfl ?_
  refine w_p h_m298 1 (pc' := 14) (L' := []) (st' := [.int (0 : Int32)]) rfl ?_
  refine w_ri h_m298 (z_at.mk 1 rfl rfl) rfl rfl ?_
  show z_W 996 293 9 [(0, .ref 1)] [.int (0 : Int32), .int (39 : Int32)] m _
  refine w_p h_m293 1 (pc' := 10) (L' := [(0, .ref 1)]) (st' := [.int (39 : Int32)]) rfl ?_
  refine w_ri h_m293 (z_at.mk 1 rfl rfl) rfl rfl ?_
  show z_W 997 102 71 [(0, .ref 120), (1, .ref 1), (2, .int (0 : Int32)), (3, .int (2 : Int32)), (4, .int (11 : Int32)), (5, .int (12 : Int32))] [.int (39 : Int32), .int (12 : Int32)] m _
  refine w_p h_m102 3 (pc' := 77) (L' := [(0, .ref 120), (1, .ref 1), (2, .int (0 : Int32)), (3, .int (2 : Int32)), (4, .int (11 : Int32)), (5, .int (12 : Int32))]) (st' := [.int (12 : Int32), .ref 1]) rfl ?_
  refine w_cv (H.te (by decide) rfl).1 (pc' := 80) (L' := [(0, .ref 120), (1, .ref 1), (2, .int (0 : Int32)), (3, .int (2 : Int32)), (4, .int (11 : Int32)), (5, .int (12 : Int32))]) (rest := []) (Ps := [.int (12 : Int32)]) (L0 := [(0, .ref 1), (1, .int (12 : Int32))]) h_m102 (z_at.mk 3 rfl rfl) (Or.inl ⟨rfl, rfl⟩) rfl rfl (by decide) (by decide) rfl rfl rfl rfl rfl rfl (by decide) rfl rfl rfl ?_
  refine w_p h_m294 1 (pc' := 1) (L' := [(0, .ref 1), (1, .int (12 : Int32))]) (st' := [.ref 1]) rfl ?_
  refine w_cv (H.te (by decide) rfl).1 (pc' := 4) (L' := [(0, .ref 1), (1, .int (12 : Int32))]) (rest := []) (Ps := []) (L0 := [(0, .ref 1)]) h_m294 (z_at.mk 3 rfl rfl) (Or.inl ⟨rfl, rfl⟩) rfl rfl (by decide) (by decide) rfl rfl rfl rfl rfl rfl (by decide) rfl rfl rfl ?_
  refine w_p h_m299 3 (pc' := 7) (L' := [(0, .ref 1)]) (st' := [.ref 1]) rfl ?_
  refine w_gs H (pc' := 10) (L' := [(0, .ref 1)]) h_m299 (z_at.mk 3 rfl rfl) rfl (by decide) rfl rfl rfl rfl ?_
  refine w_p h_m299 3 (pc' := 18) (L' := []) (st' := [.int (1 : Int32)]) rfl ?_
  refine w_ri h_m299 (z_at.mk 1 rfl rfl) rfl rfl ?_
  show z_W 996 294 4 [(0, .ref 1), (1, .int (12 : Int32))] [.int (1 : Int32)] m _
  refine w_p h_m294 2 (pc' := 8) (L' := [(0, .ref 1), (1, .int (12 : Int32))]) (st' := [.ref 1]) rfl ?_
  refine w_gs H (pc' := 11) (L' := [(0, .ref 1), (1, .int (12 : Int32))]) h_m294 (z_at.mk 3 rfl rfl) rfl (by decide) rfl rfl rfl rfl ?_
  refine w_p h_m294 1 (pc' := 12) (L' := [(0, .ref 1), (1, .int (12 : Int32))]) (st' := [.int (12 : Int32), .ref 19]) rfl ?_
  refine w_cs (As := [.ref 19, .int (12 : Int32)]) (rest := []) (j := 308) (L0 := [(0, .ref 19), (1, .int (12 : Int32))]) (pc' := 15) (L' := [(0, .ref 1), (1, .int (12 : Int32))]) h_m294 (z_at.mk 3 rfl rfl) (Or.inl ⟨rfl, rfl⟩) rfl rfl rfl rfl rfl ?_
  refine w_p h_m308 2 (pc' := 2) (L' := [(0, .ref 19), (1, .int (12 : Int32))]) (st' := [.ref 19, .int (12 : Int32)]) rfl ?_
  refine w_lene H (x := (39 : Int32)) (pc' := 3) (L' := [(0, .ref 19), (1, .int (12 : Int32))]) h_m308 (z_at.mk 1 rfl rfl) (by decide) rfl (by decide) rfl rfl rfl ?_
  refine w_ci (pc' := 6) (L' := [(0, .ref 19), (1, .int (12 : Int32))]) h_m308 (z_at.mk 3 rfl rfl) rfl (z_cat_le 0 rfl (by decide)) ⟨by decide, by decide⟩ rfl rfl ?_
  refine w_p h_m308 2 (pc' := 8) (L' := [(0, .ref 19), (1, .int (12 : Int32))]) (st' := [.int (12 : Int32), .ref 19]) rfl ?_
  refine w_ae H (j := 12) (pc' := 9) (L' := [(0, .ref 19), (1, .int (12 : Int32))]) h_m308 (z_at.mk 1 rfl rfl) rfl rfl rfl (by decide) rfl (by decide) rfl rfl rfl ?_
  refine w_p h_m308 3 (pc' := 14) (L' := [(0, .ref 19), (1, .int (12 : Int32))]) (st' := [.int (111 : Int32)]) rfl ?_
  refine w_ri h_m308 (z_at.mk 1 rfl rfl) rfl rfl ?_
  show z_W 996 294 15 [(0, .ref 1), (1, .int (12 : Int32))] [.int (111 : Int32)] m _
  refine w_ri h_m294 (z_at.mk 1 rfl rfl) rfl rfl ?_
  show z_W 997 102 80 [(0, .ref 120), (1, .ref 1), (2, .int (0 : Int32)), (3, .int (2 : Int32)), (4, .int (11 : Int32)), (5, .int (12 : Int32))] [.int (111 : Int32)] m _
  refine w_p h_m102 6 (pc' := 59) (L' := [(0, .ref 120), (1, .ref 1), (2, .int (0 : Int32)), (3, .int (2 : Int32)), (4, .int (11 : Int32)), (5, .int (13 : Int32))]) (st' := [.ref 1, .int (13 : Int32)]) rfl ?_
  refine w_cv (H.te (by decide) rfl).1 (pc' := 62) (L' := [(0, .ref 120), (1, .ref 1), (2, .int (0 : Int32)), (3, .int (2 : Int32)), (4, .int (11 : Int32)), (5, .int (13 : Int32))]) (rest := [.int (13 : Int32)]) (Ps := []) (L0 := [(0, .ref 1)]) h_m102 (z_at.mk 3 rfl rfl) (Or.inl ⟨rfl, rfl⟩) rfl rfl (by decide) (by decide) rfl rfl rfl rfl rfl rfl (by decide) rfl rfl rfl ?_
  refine w_p h_m293 1 (pc' := 1) (L' := [(0, .ref 1)]) (st' := [.ref 1]) rfl ?_
  refine w_gs H (pc' := 4) (L' := [(0, .ref 1)]) h_m293 (z_at.mk 3 rfl rfl) rfl (by decide) rfl rfl rfl rfl ?_
  refine w_lene H (x := (39 : Int32)) (pc' := 5) (L' := [(0, .ref 1)]) h_m293 (z_at.mk 1 rfl rfl) (by decide) rfl (by decide) rfl rfl rfl ?_
  refine w_p h_m293 1 (pc' := 6) (L' := [(0, .ref 1)]) (st' := [.ref 1, .int (39 : Int32)]) rfl ?_
  refine w_cv (H.te (by decide) rfl).1 (pc' := 9) (L' := [(0, .ref 1)]) (rest := [.int (39 : Int32)]) (Ps := []) (L0 := [(0, .ref 1)]) h_m293 (z_at.mk 3 rfl rfl) (Or.inl ⟨rfl, rfl⟩) rfl rfl (by decide) (by decide) rfl rfl rfl rfl rfl rfl (by decide) rfl rfl rfl ?_
  refine w_p h_m298 3 (pc' := 7) (L' := [(0, .ref 1)]) (st' := [.ref 1]) rfl ?_
  refine w_gs H (pc' := 10) (L' := [(0, .ref 1)]) h_m298 (z_at.mk 3 rfl rfl) rfl (by decide) rfl rfl rfl rfl ?_
  refine w_p h_m298 1 (pc' := 14) (L' := []) (st' := [.int (0 : Int32)]) rfl ?_
  refine w_ri h_m298 (z_at.mk 1 rfl rfl) rfl rfl ?_
  show z_W 996 293 9 [(0, .ref 1)] [.int (0 : Int32), .int (39 : Int32)] m _
  refine w_p h_m293 1 (pc' := 10) (L' := [(0, .ref 1)]) (st' := [.int (39 : Int32)]) rfl ?_
  refine w_ri h_m293 (z_at.mk 1 rfl rfl) rfl rfl ?_
  show z_W 997 102 62 [(0, .ref 120), (1, .ref 1), (2, .int (0 : Int32)), (3, .int (2 : Int32)), (4, .int (11 : Int32)), (5, .int (13 : Int32))] [.int (39 : Int32), .int (13 : Int32)] m _
  refine w_p h_m102 3 (pc' := 68) (L' := [(0, .ref 120), (1, .ref 1), (2, .int (0 : Int32)), (3, .int (2 : Int32)), (4, .int (11 : Int32)), (5, .int (13 : Int32))]) (st' := [.ref 1, .int (13 : Int32)]) rfl ?_
  refine w_cv (H.te (by decide) rfl).1 (pc' := 71) (L' := [(0, .ref 120), (1, .ref 1), (2, .int (0 : Int32)), (3, .int (2 : Int32)), (4, .int (11 : Int32)), (5, .int (13 : Int32))]) (rest := [.int (13 : Int32)]) (Ps := []) (L0 := [(0, .ref 1)]) h_m102 (z_at.mk 3 rfl rfl) (Or.inl ⟨rfl, rfl⟩) rfl rfl (by decide) (by decide) rfl rfl rfl rfl rfl rfl (by decide) rfl rfl rfl ?_
  refine w_p h_m293 1 (pc' := 1) (L' := [(0, .ref 1)]) (st' := [.ref 1]) rfl ?_
  refine w_gs H (pc' := 4) (L' := [(0, .ref 1)]) h_m293 (z_at.mk 3 rfl rfl) rfl (by decide) rfl rfl rfl rfl ?_
  refine w_lene H (x := (39 : Int32)) (pc' := 5) (L' := [(0, .ref 1)]) h_m293 (z_at.mk 1 rfl rfl) (by decide) rfl (by decide) rfl rfl rfl ?_
  refine w_p h_m293 1 (pc' := 6) (L' := [(0, .ref 1)]) (st' := [.ref 1, .int (39 : Int32)]) rfl ?_
  refine w_cv (H.te (by decide) rfl).1 (pc' := 9) (L' := [(0, .ref 1)]) (rest := [.int (39 : Int32)]) (Ps := []) (L0 := [(0, .ref 1)]) h_m293 (z_at.mk 3 rfl rfl) (Or.inl ⟨rfl, rfl⟩) rfl rfl (by decide) (by decide) rfl rfl rfl rfl rfl rfl (by decide) rfl rfl rfl ?_
  refine w_p h_m298 3 (pc' := 7) (L' := [(0, .ref 1)]) (st' := [.ref 1]) rfl ?_
  refine w_gs H (pc' := 10) (L' := [(0, .ref 1)]) h_m298 (z_at.mk 3 rfl rfl) rfl (by decide) rfl rfl rfl rfl ?_
  refine w_p h_m298 1 (pc' := 14) (L' := []) (st' := [.int (0 : Int32)]) rfl ?_
  refine w_ri h_m298 (z_at.mk 1 rfl rfl) rfl rfl ?_
  show z_W 996 293 9 [(0, .ref 1)] [.int (0 : Int32), .int (39 : Int32)] m _
  refine w_p h_m293 1 (pc' := 10) (L' := [(0, .ref 1)]) (st' := [.int (39 : Int32)]) rfl ?_
  refine w_ri h_m293 (z_at.mk 1 rfl rfl) rfl rfl ?_
  show z_W 997 102 71 [(0, .ref 120), (1, .ref 1), (2, .int (0 : Int32)), (3, .int (2 : Int32)), (4, .int (11 : Int32)), (5, .int (13 : Int32))] [.int (39 : Int32), .int (13 : Int32)] m _
  refine w_p h_m102 3 (pc' := 77) (L' := [(0, .ref 120), (1, .ref 1), (2, .int (0 : Int32)), (3, .int (2 : Int32)), (4, .int (11 : Int32)), (5, .int (13 : Int32))]) (st' := [.int (13 : Int32), .ref 1]) rfl ?_
  refine w_cv (H.te (by decide) rfl).1 (pc' := 80) (L' := [(0, .ref 120), (1, .ref 1), (2, .int (0 : Int32)), (3, .int (2 : Int32)), (4, .int (11 : Int32)), (5, .int (13 : Int32))]) (rest := []) (Ps := [.int (13 : Int32)]) (L0 := [(0, .ref 1), (1, .int (13 : Int32))]) h_m102 (z_at.mk 3 rfl rfl) (Or.inl ⟨rfl, rfl⟩) rfl rfl (by decide) (by decide) rfl rfl rfl rfl rfl rfl (by decide) rfl rfl rfl ?_
  refine w_p h_m294 1 (pc' := 1) (L' := [(0, .ref 1), (1, .int (13 : Int32))]) (st' := [.ref 1]) rfl ?_
  refine w_cv (H.te (by decide) rfl).1 (pc' := 4) (L' := [(0, .ref 1), (1, .int (13 : Int32))]) (rest := []) (Ps := []) (L0 := [(0, .ref 1)]) h_m294 (z_at.mk 3 rfl rfl) (Or.inl ⟨rfl, rfl⟩) rfl rfl (by decide) (by decide) rfl rfl rfl rfl rfl rfl (by decide) rfl rfl rfl ?_
  refine w_p h_m299 3 (pc' := 7) (L' := [(0, .ref 1)]) (st' := [.ref 1]) rfl ?_
  refine w_gs H (pc' := 10) (L' := [(0, .ref 1)]) h_m299 (z_at.mk 3 rfl rfl) rfl (by decide) rfl rfl rfl rfl ?_
  refine w_p h_m299 3 (pc' := 18) (L' := []) (st' := [.int (1 : Int32)]) rfl ?_
  refine w_ri h_m299 (z_at.mk 1 rfl rfl) rfl rfl ?_
  show z_W 996 294 4 [(0, .ref 1), (1, .int (13 : Int32))] [.int (1 : Int32)] m _
  refine w_p h_m294 2 (pc' := 8) (L' := [(0, .ref 1), (1, .int (13 : Int32))]) (st' := [.ref 1]) rfl ?_
  refine w_gs H (pc' := 11) (L' := [(0, .ref 1), (1, .int (13 : Int32))]) h_m294 (z_at.mk 3 rfl rfl) rfl (by decide) rfl rfl rfl rfl ?_
  refine w_p h_m294 1 (pc' := 12) (L' := [(0, .ref 1), (1, .int (13 : Int32))]) (st' := [.int (13 : Int32), .ref 19]) rfl ?_
  refine w_cs (As := [.ref 19, .int (13 : Int32)]) (rest := []) (j := 308) (L0 := [(0, .ref 19), (1, .int (13 : Int32))]) (pc' := 15) (L' := [(0, .ref 1), (1, .int (13 : Int32))]) h_m294 (z_at.mk 3 rfl rfl) (Or.inl ⟨rfl, rfl⟩) rfl rfl rfl rfl rfl ?_
  refine w_p h_m308 2 (pc' := 2) (L' := [(0, .ref 19), (1, .int (13 : Int32))]) (st' := [.ref 19, .int (13 : Int32)]) rfl ?_
  refine w_lene H (x := (39 : Int32)) (pc' := 3) (L' := [(0, .ref 19), (1, .int (13 : Int32))]) h_m308 (z_at.mk 1 rfl rfl) (by decide) rfl (by decide) rfl rfl rfl ?_
  refine w_ci (pc' := 6) (L' := [(0, .ref 19), (1, .int (13 : Int32))]) h_m308 (z_at.mk 3 rfl rfl) rfl (z_cat_le 0 rfl (by decide)) ⟨by decide, by decide⟩ rfl rfl ?_
  refine w_p h_m308 2 (pc' := 8) (L' := [(0, .ref 19), (1, .int (13 : Int32))]) (st' := [.int (13 : Int32), .ref 19]) rfl ?_
  refine w_ae H (j := 13) (pc' := 9) (L' := [(0, .ref 19), (1, .int (13 : Int32))]) h_m308 (z_at.mk 1 rfl rfl) rfl rfl rfl (by decide) rfl (by decide) rfl rfl rfl ?_
  refine w_p h_m308 3 (pc' := 14) (L' := [(0, .ref 19), (1, .int (13 : Int32))]) (st' := [.int (115 : Int32)]) rfl ?_
  refine w_ri h_m308 (z_at.mk 1 rfl rfl) rfl rfl ?_
  show z_W 996 294 15 [(0, .ref 1), (1, .int (13 : Int32))] [.int (115 : Int32)] m _
  refine w_ri h_m294 (z_at.mk 1 rfl rfl) rfl rfl ?_
  show z_W 997 102 80 [(0, .ref 120), (1, .ref 1), (2, .int (0 : Int32)), (3, .int (2 : Int32)), (4, .int (11 : Int32)), (5, .int (13 : Int32))] [.int (115 : Int32)] m _
  refine w_p h_m102 6 (pc' := 59) (L' := [(0, .ref 120), (1, .ref 1), (2, .int (0 : Int32)), (3, .int (2 : Int32)), (4, .int (11 : Int32)), (5, .int (14 : Int32))]) (st' := [.ref 1, .int (14 : Int32)]) rfl ?_
  refine w_cv (H.te (by decide) rfl).1 (pc' := 62) (L' := [(0, .ref 120), (1, .ref 1), (2, .int (0 : Int32)), (3, .int (2 : Int32)), (4, .int (11 : Int32)), (5, .int (14 : Int32))]) (rest := [.int (14 : Int32)]) (Ps := []) (L0 := [(0, .ref 1)]) h_m102 (z_at.mk 3 rfl rfl) (Or.inl ⟨rfl, rfl⟩) rfl rfl (by decide) (by decide) rfl rfl rfl rfl rfl rfl (by decide) rfl rfl rfl ?_
  refine w_p h_m293 1 (pc' := 1) (L' := [(0, .ref 1)]) (st' := [.ref 1]) rfl ?_
  refine w_gs H (pc' := 4) (L' := [(0, .ref 1)]) h_m293 (z_at.mk 3 rfl rfl) rfl (by decide) rfl rfl rfl rfl ?_
  refine w_lene H (x := (39 : Int32)) (pc' := 5) (L' := [(0, .ref 1)]) h_m293 (z_at.mk 1 rfl rfl) (by decide) rfl (by decide) rfl rfl rfl ?_
  refine w_p h_m293 1 (pc' := 6) (L' := [(0, .ref 1)]) (st' := [.ref 1, .int (39 : Int32)]) rfl ?_
  refine w_cv (H.te (by decide) rfl).1 (pc' := 9) (L' := [(0, .ref 1)]) (rest := [.int (39 : Int32)]) (Ps := []) (L0 := [(0, .ref 1)]) h_m293 (z_at.mk 3 rfl rfl) (Or.inl ⟨rfl, rfl⟩) rfl rfl (by decide) (by decide) rfl rfl rfl rfl rfl rfl (by decide) rfl rfl rfl ?_
  refine w_p h_m298 3 (pc' := 7) (L' := [(0, .ref 1)]) (st' := [.ref 1]) rfl ?_
  refine w_gs H (pc' := 10) (L' := [(0, .ref 1)]) h_m298 (z_at.mk 3 rfl rfl) rfl (by decide) rfl rfl rfl rfl ?_
  refine w_p h_m298 1 (pc' := 14) (L' := []) (st' := [.int (0 : Int32)]) rfl ?_
  refine w_ri h_m298 (z_at.mk 1 rfl rfl) rfl rfl ?_
  show z_W 996 293 9 [(0, .ref 1)] [.int (0 : Int32), .int (39 : Int32)] m _
  refine w_p h_m293 1 (pc' := 10) (L' := [(0, .ref 1)]) (st' := [.int (39 : Int32)]) rfl ?_
  refine w_ri h_m293 (z_at.mk 1 rfl rfl) rfl rfl ?_
  show z_W 997 102 62 [(0, .ref 120), (1, .ref 1), (2, .int (0 : Int32)), (3, .int (2 : Int32)), (4, .int (11 : Int32)), (5, .int (14 : Int32))] [.int (39 : Int32), .int (14 : Int32)] m _
  refine w_p h_m102 3 (pc' := 68) (L' := [(0, .ref 120), (1, .ref 1), (2, .int (0 : Int32)), (3, .int (2 : Int32)), (4, .int (11 : Int32)), (5, .int (14 : Int32))]) (st' := [.ref 1, .int (14 : Int32)]) rfl ?_
  refine w_cv (H.te (by decide) rfl).1 (pc' := 71) (L' := [(0, .ref 120), (1, .ref 1), (2, .int (0 : Int32)), (3, .int (2 : Int32)), (4, .int (11 : Int32)), (5, .int (14 : Int32))]) (rest := [.int (14 : Int32)]) (Ps := []) (L0 := [(0, .ref 1)]) h_m102 (z_at.mk 3 rfl rfl) (Or.inl ⟨rfl, rfl⟩) rfl rfl (by decide) (by decide) rfl rfl rfl rfl rfl rfl (by decide) rfl rfl rfl ?_
  refine w_p h_m293 1 (pc' := 1) (L' := [(0, .ref 1)]) (st' := [.ref 1]) rfl ?_
  refine w_gs H (pc' := 4) (L' := [(0, .ref 1)]) h_m293 (z_at.mk 3 rfl rfl) rfl (by decide) rfl rfl rfl rfl ?_
  refine w_lene H (x := (39 : Int32)) (pc' := 5) (L' := [(0, .ref 1)]) h_m293 (z_at.mk 1 rfl rfl) (by decide) rfl (by decide) rfl rfl rfl ?_
  refine w_p h_m293 1 (pc' := 6) (L' := [(0, .ref 1)]) (st' := [.ref 1, .int (39 : Int32)]) rfl ?_
  refine w_cv (H.te (by decide) rfl).1 (pc' := 9) (L' := [(0, .ref 1)]) (rest := [.int (39 : Int32)]) (Ps := []) (L0 := [(0, .ref 1)]) h_m293 (z_at.mk 3 rfl rfl) (Or.inl ⟨rfl, rfl⟩) rfl rfl (by decide) (by decide) rfl rfl rfl rfl rfl rfl (by decide) rfl rfl rfl ?_
  refine w_p h_m298 3 (pc' := 7) (L' := [(0, .ref 1)]) (st' := [.ref 1]) rfl ?_
  refine w_gs H (pc' := 10) (L' := [(0, .ref 1)]) h_m298 (z_at.mk 3 rfl rfl) rfl (by decide) rfl rfl rfl rfl ?_
  refine w_p h_m298 1 (pc' := 14) (L' := []) (st' := [.int (0 : Int32)]) rfl ?_
  refine w_ri h_m298 (z_at.mk 1 rfl rfl) rfl rfl ?_
  show z_W 996 293 9 [(0, .ref 1)] [.int (0 : Int32), .int (39 : Int32)] m _
  refine w_p h_m293 1 (pc' := 10) (L' := [(0, .ref 1)]) (st' := [.int (39 : Int32)]) rfl ?_
  refine w_ri h_m293 (z_at.mk 1 rfl rfl) rfl rfl ?_
  show z_W 997 102 71 [(0, .ref 120), (1, .ref 1), (2, .int (0 : Int32)), (3, .int (2 : Int32)), (4, .int (11 : Int32)), (5, .int (14 : Int32))] [.int (39 : Int32), .int (14 : Int32)] m _
  refine w_p h_m102 3 (pc' := 77) (L' := [(0, .ref 120), (1, .ref 1), (2, .int (0 : Int32)), (3, .int (2 : Int32)), (4, .int (11 : Int32)), (5, .int (14 : Int32))]) (st' := [.int (14 : Int32), .ref 1]) rfl ?_
  refine w_cv (H.te (by decide) rfl).1 (pc' := 80) (L' := [(0, .ref 120), (1, .ref 1), (2, .int (0 : Int32)), (3, .int (2 : Int32)), (4, .int (11 : Int32)), (5, .int (14 : Int32))]) (rest := []) (Ps := [.int (14 : Int32)]) (L0 := [(0, .ref 1), (1, .int (14 : Int32))]) h_m102 (z_at.mk 3 rfl rfl) (Or.inl ⟨rfl, rfl⟩) rfl rfl (by decide) (by decide) rfl rfl rfl rfl rfl rfl (by decide) rfl rfl rfl ?_
  refine w_p h_m294 1 (pc' := 1) (L' := [(0, .ref 1), (1, .int (14 : Int32))]) (st' := [.ref 1]) rfl ?_
  refine w_cv (H.te (by decide) rfl).1 (pc' := 4) (L' := [(0, .ref 1), (1, .int (14 : Int32))]) (rest := []) (Ps := []) (L0 := [(0, .ref 1)]) h_m294 (z_at.mk 3 rfl rfl) (Or.inl ⟨rfl, rfl⟩) rfl rfl (by decide) (by decide) rfl rfl rfl rfl rfl rfl (by decide) rfl rfl rfl ?_
  refine w_p h_m299 3 (pc' := 7) (L' := [(0, .ref 1)]) (st' := [.ref 1]) rfl ?_
  refine w_gs H (pc' := 10) (L' := [(0, .ref 1)]) h_m299 (z_at.mk 3 rfl rfl) rfl (by decide) rfl rfl rfl rfl ?_
  refine w_p h_m299 3 (pc' := 18) (L' := []) (st' := [.int (1 : Int32)]) rfl ?_
  refine w_ri h_m299 (z_at.mk 1 rfl rfl) rfl rfl ?_
  show z_W 996 294 4 [(0, .ref 1), (1, .int (14 : Int32))] [.int (1 : Int32)] m _
  refine w_p h_m294 2 (pc' := 8) (L' := [(0, .ref 1), (1, .int (14 : Int32))]) (st' := [.ref 1]) rfl ?_
  refine w_gs H (pc' := 11) (L' := [(0, .ref 1), (1, .int (14 : Int32))]) h_m294 (z_at.mk 3 rfl rfl) rfl (by decide) rfl rfl rfl rfl ?_
  refine w_p h_m294 1 (pc' := 12) (L' := [(0, .ref 1), (1, .int (14 : Int32))]) (st' := [.int (14 : Int32), .ref 19]) rfl ?_
  refine w_cs (As := [.ref 19, .int (14 : Int32)]) (rest := []) (j := 308) (L0 := [(0, .ref 19), (1, .int (14 : Int32))]) (pc' := 15) (L' := [(0, .ref 1), (1, .int (14 : Int32))]) h_m294 (z_at.mk 3 rfl rfl) (Or.inl ⟨rfl, rfl⟩) rfl rfl rfl rfl rfl ?_
  refine w_p h_m308 2 (pc' := 2) (L' := [(0, .ref 19), (1, .int (14 : Int32))]) (st' := [.ref 19, .int (14 : Int32)]) rfl ?_
  refine w_lene H (x := (39 : Int32)) (pc' := 3) (L' := [(0, .ref 19), (1, .int (14 : Int32))]) h_m308 (z_at.mk 1 rfl rfl) (by decide) rfl (by decide) rfl rfl rfl ?_
  refine w_ci (pc' := 6) (L' := [(0, .ref 19), (1, .int (14 : Int32))]) h_m308 (z_at.mk 3 rfl rfl) rfl (z_cat_le 0 rfl (by decide)) ⟨by decide, by decide⟩ rfl rfl ?_
  refine w_p h_m308 2 (pc' := 8) (L' := [(0, .ref 19), (1, .int (14 : Int32))]) (st' := [.int (14 : Int32), .ref 19]) rfl ?_
  refine w_ae H (j := 14) (pc' := 9) (L' := [(0, .ref 19), (1, .int (14 : Int32))]) h_m308 (z_at.mk 1 rfl rfl) rfl rfl rfl (by decide) rfl (by decide) rfl rfl rfl ?_
  refine w_p h_m308 3 (pc' := 14) (L' := [(0, .ref 19), (1, .int (14 : Int32))]) (st' := [.int (116 : Int32)]) rfl ?_
  refine w_ri h_m308 (z_at.mk 1 rfl rfl) rfl rfl ?_
  show z_W 996 294 15 [(0, .ref 1), (1, .int (14 : Int32))] [.int (116 : Int32)] m _
  refine w_ri h_m294 (z_at.mk 1 rfl rfl) rfl rfl ?_
  show z_W 997 102 80 [(0, .ref 120), (1, .ref 1), (2, .int (0 : Int32)), (3, .int (2 : Int32)), (4, .int (11 : Int32)), (5, .int (14 : Int32))] [.int (116 : Int32)] m _
  refine w_p h_m102 6 (pc' := 59) (L' := [(0, .ref 120), (1, .ref 1), (2, .int (0 : Int32)), (3, .int (2 : Int32)), (4, .int (11 : Int32)), (5, .int (15 : Int32))]) (st' := [.ref 1, .int (15 : Int32)]) rfl ?_
  refine w_cv (H.te (by decide) rfl).1 (pc' := 62) (L' := [(0, .ref 120), (1, .ref 1), (2, .int (0 : Int32)), (3, .int (2 : Int32)), (4, .int (11 : Int32)), (5, .int (15 : Int32))]) (rest := [.int (15 : Int32)]) (Ps := []) (L0 := [(0, .ref 1)]) h_m102 (z_at.mk 3 rfl rfl) (Or.inl ⟨rfl, rfl⟩) rfl rfl (by decide) (by decide) rfl rfl rfl rfl rfl rfl (by decide) rfl rfl rfl ?_
  refine w_p h_m293 1 (pc' := 1) (L' := [(0, .ref 1)]) (st' := [.ref 1]) rfl ?_
  refine w_gs H (pc' := 4) (L' := [(0, .ref 1)]) h_m293 (z_at.mk 3 rfl rfl) rfl (by decide) rfl rfl rfl rfl ?_
  refine w_lene H (x := (39 : Int32)) (pc' := 5) (L' := [(0, .ref 1)]) h_m293 (z_at.mk 1 rfl rfl) (by decide) rfl (by decide) rfl rfl rfl ?_
  refine w_p h_m293 1 (pc' := 6) (L' := [(0, .ref 1)]) (st' := [.ref 1, .int (39 : Int32)]) rfl ?_
  refine w_cv (H.te (by decide) rfl).1 (pc' := 9) (L' := [(0, .ref 1)]) (rest := [.int (39 : Int32)]) (Ps := []) (L0 := [(0, .ref 1)]) h_m293 (z_at.mk 3 rfl rfl) (Or.inl ⟨rfl, rfl⟩) rfl rfl (by decide) (by decide) rfl rfl rfl rfl rfl rfl (by decide) rfl rfl rfl ?_
  refine w_p h_m298 3 (pc' := 7) (L' := [(0, .ref 1)]) (st' := [.ref 1]) rfl ?_
  refine w_gs H (pc' := 10) (L' := [(0, .ref 1)]) h_m298 (z_at.mk 3 rfl rfl) rfl (by decide) rfl rfl rfl rfl ?_
  refine w_p h_m298 1 (pc' := 14) (L' := []) (st' := [.int (0 : Int32)]) rfl ?_
  refine w_ri h_m298 (z_at.mk 1 rfl rfl) rfl rfl ?_
  show z_W 996 293 9 [(0, .ref 1)] [.int (0 : Int32), .int (39 : Int32)] m _
  refine w_p h_m293 1 (pc' := 10) (L' := [(0, .ref 1)]) (st' := [.int (39 : Int32)]) rfl ?_
  refine w_ri h_m293 (z_at.mk 1 rfl rfl) rfl rfl ?_
  show z_W 997 102 62 [(0, .ref 120), (1, .ref 1), (2, .int (0 : Int32)), (3, .int (2 : Int32)), (4, .int (11 : Int32)), (5, .int (15 : Int32))] [.int (39 : Int32), .int (15 : Int32)] m _
  refine w_p h_m102 3 (pc' := 68) (L' := [(0, .ref 120), (1, .ref 1), (2, .int (0 : Int32)), (3, .int (2 : Int32)), (4, .int (11 : Int32)), (5, .int (15 : Int32))]) (st' := [.ref 1, .int (15 : Int32)]) rfl ?_
  refine w_cv (H.te (by decide) rfl).1 (pc' := 71) (L' := [(0, .ref 120), (1, .ref 1), (2, .int (0 : Int32)), (3, .int (2 : Int32)), (4, .int (11 : Int32)), (5, .int (15 : Int32))]) (rest := [.int (15 : Int32)]) (Ps := []) (L0 := [(0, .ref 1)]) h_m102 (z_at.mk 3 rfl rfl) (Or.inl ⟨rfl, rfl⟩) rfl rfl (by decide) (by decide) rfl rfl rfl rfl rfl rfl (by decide) rfl rfl rfl ?_
  refine w_p h_m293 1 (pc' := 1) (L' := [(0, .ref 1)]) (st' := [.ref 1]) rfl ?_
  refine w_gs H (pc' := 4) (L' := [(0, .ref 1)]) h_m293 (z_at.mk 3 rfl rfl) rfl (by decide) rfl rfl rfl rfl ?_
  refine w_lene H (x := (39 : Int32)) (pc' := 5) (L' := [(0, .ref 1)]) h_m293 (z_at.mk 1 rfl rfl) (by decide) rfl (by decide) rfl rfl rfl ?_
  refine w_p h_m293 1 (pc' := 6) (L' := [(0, .ref 1)]) (st' := [.ref 1, .int (39 : Int32)]) rfl ?_
  refine w_cv (H.te (by decide) rfl).1 (pc' := 9) (L' := [(0, .ref 1)]) (rest := [.int (39 : Int32)]) (Ps := []) (L0 := [(0, .ref 1)]) h_m293 (z_at.mk 3 rfl rfl) (Or.inl ⟨rfl, rfl⟩) rfl rfl (by decide) (by decide) rfl rfl rfl rfl rfl rfl (by decide) rfl rfl rfl ?_
  refine w_p h_m298 3 (pc' := 7) (L' := [(0, .ref 1)]) (st' := [.ref 1]) rfl ?_
  refine w_gs H (pc' := 10) (L' := [(0, .ref 1)]) h_m298 (z_at.mk 3 rfl rfl) rfl (by decide) rfl rfl rfl rfl ?_
  refine w_p h_m298 1 (pc' := 14) (L' := []) (st' := [.int (0 : Int32)]) rfl ?_
  refine w_ri h_m298 (z_at.mk 1 rfl rfl) rfl rfl ?_
  show z_W 996 293 9 [(0, .ref 1)] [.int (0 : Int32), .int (39 : Int32)] m _
  refine w_p h_m293 1 (pc' := 10) (L' := [(0, .ref 1)]) (st' := [.int (39 : Int32)]) rfl ?_
  refine w_ri h_m293 (z_at.mk 1 rfl rfl) rfl rfl ?_
  show z_W 997 102 71 [(0, .ref 120), (1, .ref 1), (2, .int (0 : Int32)), (3, .int (2 : Int32)), (4, .int (11 : Int32)), (5, .int (15 : Int32))] [.int (39 : Int32), .int (15 : Int32)] m _
  refine w_p h_m102 3 (pc' := 77) (L' := [(0, .ref 120), (1, .ref 1), (2, .int (0 : Int32)), (3, .int (2 : Int32)), (4, .int (11 : Int32)), (5, .int (15 : Int32))]) (st' := [.int (15 : Int32), .ref 1]) rfl ?_
  refine w_cv (H.te (by decide) rfl).1 (pc' := 80) (L' := [(0, .ref 120), (1, .ref 1), (2, .int (0 : Int32)), (3, .int (2 : Int32)), (4, .int (11 : Int32)), (5, .int (15 : Int32))]) (rest := []) (Ps := [.int (15 : Int32)]) (L0 := [(0, .ref 1), (1, .int (15 : Int32))]) h_m102 (z_at.mk 3 rfl rfl) (Or.inl ⟨rfl, rfl⟩) rfl rfl (by decide) (by decide) rfl rfl rfl rfl rfl rfl (by decide) rfl rfl rfl ?_
  refine w_p h_m294 1 (pc' := 1) (L' := [(0, .ref 1), (1, .int (15 : Int32))]) (st' := [.ref 1]) rfl ?_
  refine w_cv (H.te (by decide) rfl).1 (pc' := 4) (L' := [(0, .ref 1), (1, .int (15 : Int32))]) (rest := []) (Ps := []) (L0 := [(0, .ref 1)]) h_m294 (z_at.mk 3 rfl rfl) (Or.inl ⟨rfl, rfl⟩) rfl rfl (by decide) (by decide) rfl rfl rfl rfl rfl rfl (by decide) rfl rfl rfl ?_
  refine w_p h_m299 3 (pc' := 7) (L' := [(0, .ref 1)]) (st' := [.ref 1]) rfl ?_
  refine w_gs H (pc' := 10) (L' := [(0, .ref 1)]) h_m299 (z_at.mk 3 rfl rfl) rfl (by decide) rfl rfl rfl rfl ?_
  refine w_p h_m299 3 (pc' := 18) (L' := []) (st' := [.int (1 : Int32)]) rfl ?_
  refine w_ri h_m299 (z_at.mk 1 rfl rfl) rfl rfl ?_
  show z_W 996 294 4 [(0, .ref 1), (1, .int (15 : Int32))] [.int (1 : Int32)] m _
  refine w_p h_m294 2 (pc' := 8) (L' := [(0, .ref 1), (1, .int (15 : Int32))]) (st' := [.ref 1]) rfl ?_
  refine w_gs H (pc' := 11) (L' := [(0, .ref 1), (1, .int (15 : Int32))]) h_m294 (z_at.mk 3 rfl rfl) rfl (by decide) rfl rfl rfl rfl ?_
  refine w_p h_m294 1 (pc' := 12) (L' := [(0, .ref 1), (1, .int (15 : Int32))]) (st' := [.int (15 : Int32), .ref 19]) rfl ?_
  refine w_cs (As := [.ref 19, .int (15 : Int32)]) (rest := []) (j := 308) (L0 := [(0, .ref 19), (1, .int (15 : Int32))]) (pc' := 15) (L' := [(0, .ref 1), (1, .int (15 : Int32))]) h_m294 (z_at.mk 3 rfl rfl) (Or.inl ⟨rfl, rfl⟩) rfl rfl rfl rfl rfl ?_
  refine w_p h_m308 2 (pc' := 2) (L' := [(0, .ref 19), (1, .int (15 : Int32))]) (st' := [.ref 19, .int (15 : Int32)]) rfl ?_
  refine w_lene H (x := (39 : Int32)) (pc' := 3) (L' := [(0, .ref 19), (1, .int (15 : Int32))]) h_m308 (z_at.mk 1 rfl rfl) (by decide) rfl (by decide) rfl rfl rfl ?_
  refine w_ci (pc' := 6) (L' := [(0, .ref 19), (1, .int (15 : Int32))]) h_m308 (z_at.mk 3 rfl rfl) rfl (z_cat_le 0 rfl (by decide)) ⟨by decide, by decide⟩ rfl rfl ?_
  refine w_p h_m308 2 (pc' := 8) (L' := [(0, .ref 19), (1, .int (15 : Int32))]) (st' := [.int (15 : Int32), .ref 19]) rfl ?_
  refine w_ae H (j := 15) (pc' := 9) (L' := [(0, .ref 19), (1, .int (15 : Int32))]) h_m308 (z_at.mk 1 rfl rfl) rfl rfl rfl (by decide) rfl (by decide) rfl rfl rfl ?_
  refine w_p h_m308 3 (pc' := 14) (L' := [(0, .ref 19), (1, .int (15 : Int32))]) (st' := [.int (32 : Int32)]) rfl ?_
  refine w_ri h_m308 (z_at.mk 1 rfl rfl) rfl rfl ?_
  show z_W 996 294 15 [(0, .ref 1), (1, .int (15 : Int32))] [.int (32 : Int32)] m _
  refine w_ri h_m294 (z_at.mk 1 rfl rfl) rfl rfl ?_
  show z_W 997 102 80 [(0, .ref 120), (1, .ref 1), (2, .int (0 : Int32)), (3, .int (2 : Int32)), (4, .int (11 : Int32)), (5, .int (15 : Int32))] [.int (32 : Int32)] m _
  refine w_p h_m102 7 (pc' := 92) (L' := [(0, .ref 120), (1, .ref 1), (2, .int (0 : Int32)), (3, .int (2 : Int32)), (4, .int (11 : Int32)), (5, .int (15 : Int32))]) (st' := [.int (0 : Int32), .int (15 : Int32), .int (11 : Int32), .ref 1, .ref 120]) rfl ?_
  refine w_cv (H.t rfl) (pc' := 95) (L' := [(0, .ref 120), (1, .ref 1), (2, .int (0 : Int32)), (3, .int (2 : Int32)), (4, .int (11 : Int32)), (5, .int (15 : Int32))]) (rest := []) (Ps := [.ref 1, .int (11 : Int32), .int (15 : Int32), .int (0 : Int32)]) (L0 := [(0, .ref 120), (1, .ref 1), (2, .int (11 : Int32)), (3, .int (15 : Int32)), (4, .int (0 : Int32))]) h_m102 (z_at.mk 3 rfl rfl) (Or.inl ⟨rfl, rfl⟩) rfl rfl (by decide) (by decide) rfl rfl rfl rfl rfl rfl (by decide) rfl rfl rfl ?_
  refine w_p h_m103 1 (pc' := 1) (L' := [(0, .ref 120), (1, .ref 1), (2, .int (11 : Int32)), (3, .int (15 : Int32)), (4, .int (0 : Int32))]) (st' := [.ref 120]) rfl ?_
  refine w_cv (H.t rfl) (pc' := 4) (L' := [(0, .ref 120), (1, .ref 1), (2, .int (11 : Int32)), (3, .int (15 : Int32)), (4, .int (0 : Int32))]) (rest := []) (Ps := []) (L0 := [(0, .ref 120)]) h_m103 (z_at.mk 3 rfl rfl) (Or.inl ⟨rfl, rfl⟩) rfl rfl (by decide) (by decide) rfl rfl rfl rfl rfl rfl (by decide) rfl rfl rfl ?_
  refine w_p h_m93 1 (pc' := 1) (L' := [(0, .ref 120)]) (st' := [.ref 120]) rfl ?_
  refine w_gf H (pc' := 4) (L' := [(0, .ref 120)]) h_m93 (z_at.mk 3 rfl rfl) rfl (u := .int (-1 : Int32)) rfl rfl rfl ?_
  refine w_p h_m93 4 (pc' := 13) (L' := []) (st' := [.int (1 : Int32)]) rfl ?_
  refine w_ri h_m93 (z_at.mk 1 rfl rfl) rfl rfl ?_
  show z_W 996 103 4 [(0, .ref 120), (1, .ref 1), (2, .int (11 : Int32)), (3, .int (15 : Int32)), (4, .int (0 : Int32))] [.int (1 : Int32)] m _
  refine w_p h_m103 4 (pc' := 13) (L' := [(0, .ref 120), (1, .ref 1), (2, .int (11 : Int32)), (3, .int (15 : Int32)), (4, .int (0 : Int32))]) (st' := [.ref 120]) rfl ?_
  refine w_gf H (pc' := 16) (L' := [(0, .ref 120), (1, .ref 1), (2, .int (11 : Int32)), (3, .int (15 : Int32)), (4, .int (0 : Int32))]) h_m103 (z_at.mk 3 rfl rfl) rfl (u := .int (0 : Int32)) rfl rfl rfl ?_
  refine w_p h_m103 3 (pc' := 23) (L' := [(0, .ref 120), (1, .ref 1), (2, .int (11 : Int32)), (3, .int (15 : Int32)), (4, .int (0 : Int32))]) (st' := [.ref 120]) rfl ?_
  refine w_gf H (pc' := 26) (L' := [(0, .ref 120), (1, .ref 1), (2, .int (11 : Int32)), (3, .int (15 : Int32)), (4, .int (0 : Int32))]) h_m103 (z_at.mk 3 rfl rfl) rfl (u := .int (0 : Int32)) rfl rfl rfl ?_
  refine w_p h_m103 7 (pc' := 36) (L' := []) (st' := [.int (0 : Int32)]) rfl ?_
  refine w_ri h_m103 (z_at.mk 1 rfl rfl) rfl rfl ?_
  show z_W 997 102 95 [(0, .ref 120), (1, .ref 1), (2, .int (0 : Int32)), (3, .int (2 : Int32)), (4, .int (11 : Int32)), (5, .int (15 : Int32))] [.int (0 : Int32)] m _
  refine w_p h_m102 10 (pc' := 59) (L' := [(0, .ref 120), (1, .ref 1), (2, .int (0 : Int32)), (3, .int (3 : Int32)), (4, .int (16 : Int32)), (5, .int (16 : Int32))]) (st' := [.ref 1, .int (16 : Int32)]) rfl ?_
  refine w_cv (H.te (by decide) rfl).1 (pc' := 62) (L' := [(0, .ref 120), (1, .ref 1), (2, .int (0 : Int32)), (3, .int (3 : Int32)), (4, .int (16 : Int32)), (5, .int (16 : Int32))]) (rest := [.int (16 : Int32)]) (Ps := []) (L0 := [(0, .ref 1)]) h_m102 (z_at.mk 3 rfl rfl) (Or.inl ⟨rfl, rfl⟩) rfl rfl (by decide) (by decide) rfl rfl rfl rfl rfl rfl (by decide) rfl rfl rfl ?_
  refine w_p h_m293 1 (pc' := 1) (L' := [(0, .ref 1)]) (st' := [.ref 1]) rfl ?_
  refine w_gs H (pc' := 4) (L' := [(0, .ref 1)]) h_m293 (z_at.mk 3 rfl rfl) rfl (by decide) rfl rfl rfl rfl ?_
  refine w_lene H (x := (39 : Int32)) (pc' := 5) (L' := [(0, .ref 1)]) h_m293 (z_at.mk 1 rfl rfl) (by decide) rfl (by decide) rfl rfl rfl ?_
  refine w_p h_m293 1 (pc' := 6) (L' := [(0, .ref 1)]) (st' := [.ref 1, .int (39 : Int32)]) rfl ?_
  refine w_cv (H.te (by decide) rfl).1 (pc' := 9) (L' := [(0, .ref 1)]) (rest := [.int (39 : Int32)]) (Ps := []) (L0 := [(0, .ref 1)]) h_m293 (z_at.mk 3 rfl rfl) (Or.inl ⟨rfl, rfl⟩) rfl rfl (by decide) (by decide) rfl rfl rfl rfl rfl rfl (by decide) rfl rfl rfl ?_
  refine w_p h_m298 3 (pc' := 7) (L' := [(0, .ref 1)]) (st' := [.ref 1]) rfl ?_
  refine w_gs H (pc' := 10) (L' := [(0, .ref 1)]) h_m298 (z_at.mk 3 rfl rfl) rfl (by decide) rfl rfl rfl rfl ?_
  refine w_p h_m298 1 (pc' := 14) (L' := []) (st' := [.int (0 : Int32)]) rfl ?_
  refine w_ri h_m298 (z_at.mk 1 rfl rfl) rfl rfl ?_
  show z_W 996 293 9 [(0, .ref 1)] [.int (0 : Int32), .int (39 : Int32)] m _
  refine w_p h_m293 1 (pc' := 10) (L' := [(0, .ref 1)]) (st' := [.int (39 : Int32)]) rfl ?_
  refine w_ri h_m293 (z_at.mk 1 rfl rfl) rfl rfl ?_
  show z_W 997 102 62 [(0, .ref 120), (1, .ref 1), (2, .int (0 : Int32)), (3, .int (3 : Int32)), (4, .int (16 : Int32)), (5, .int (16 : Int32))] [.int (39 : Int32), .int (16 : Int32)] m _
  refine w_p h_m102 3 (pc' := 68) (L' := [(0, .ref 120), (1, .ref 1), (2, .int (0 : Int32)), (3, .int (3 : Int32)), (4, .int (16 : Int32)), (5, .int (16 : Int32))]) (st' := [.ref 1, .int (16 : Int32)]) rfl ?_
  refine w_cv (H.te (by decide) rfl).1 (pc' := 71) (L' := [(0, .ref 120), (1, .ref 1), (2, .int (0 : Int32)), (3, .int (3 : Int32)), (4, .int (16 : Int32)), (5, .int (16 : Int32))]) (rest := [.int (16 : Int32)]) (Ps := []) (L0 := [(0, .ref 1)]) h_m102 (z_at.mk 3 rfl rfl) (Or.inl ⟨rfl, rfl⟩) rfl rfl (by decide) (by decide) rfl rfl rfl rfl rfl rfl (by decide) rfl rfl rfl ?_
  refine w_p h_m293 1 (pc' := 1) (L' := [(0, .ref 1)]) (st' := [.ref 1]) rfl ?_
  refine w_gs H (pc' := 4) (L' := [(0, .ref 1)]) h_m293 (z_at.mk 3 rfl rfl) rfl (by decide) rfl rfl rfl rfl ?_
  refine w_lene H (x := (39 : Int32)) (pc' := 5) (L' := [(0, .ref 1)]) h_m293 (z_at.mk 1 rfl rfl) (by decide) rfl (by decide) rfl rfl rfl ?_
  refine w_p h_m293 1 (pc' := 6) (L' := [(0, .ref 1)]) (st' := [.ref 1, .int (39 : Int32)]) rfl ?_
  refine w_cv (H.te (by decide) rfl).1 (pc' := 9) (L' := [(0, .ref 1)]) (rest := [.int (39 : Int32)]) (Ps := []) (L0 := [(0, .ref 1)]) h_m293 (z_at.mk 3 rfl rfl) (Or.inl ⟨rfl, rfl⟩) rfl rfl (by decide) (by decide) rfl rfl rfl rfl rfl rfl (by decide) rfl rfl rfl ?_
  refine w_p h_m298 3 (pc' := 7) (L' := [(0, .ref 1)]) (st' := [.ref 1]) rfl ?_
  refine w_gs H (pc' := 10) (L' := [(0, .ref 1)]) h_m298 (z_at.mk 3 rfl rfl) rfl (by decide) rfl rfl rfl rfl ?_
  refine w_p h_m298 1 (pc' := 14) (L' := []) (st' := [.int (0 : Int32)]) rfl ?_
  refine w_ri h_m298 (z_at.mk 1 rfl rfl) rfl rfl ?_
  show z_W 996 293 9 [(0, .ref 1)] [.int (0 : Int32), .int (39 : Int32)] m _
  refine w_p h_m293 1 (pc' := 10) (L' := [(0, .ref 1)]) (st' := [.int (39 : Int32)]) rfl ?_
  refine w_ri h_m293 (z_at.mk 1 rfl rfl) rfl rfl ?_
  show z_W 997 102 71 [(0, .ref 120), (1, .ref 1), (2, .int (0 : Int32)), (3, .int (3 : Int32)), (4, .int (16 : Int32)), (5, .int (16 : Int32))] [.int (39 : Int32), .int (16 : Int32)] m _
  refine w_p h_m102 3 (pc' := 77) (L' := [(0, .ref 120), (1, .ref 1), (2, .int (0 : Int32)), (3, .int (3 : Int32)), (4, .int (16 : Int32)), (5, .int (16 : Int32))]) (st' := [.int (16 : Int32), .ref 1]) rfl ?_
  refine w_cv (H.te (by decide) rfl).1 (pc' := 80) (L' := [(0, .ref 120), (1, .ref 1), (2, .int (0 : Int32)), (3, .int (3 : Int32)), (4, .int (16 : Int32)), (5, .int (16 : Int32))]) (rest := []) (Ps := [.int (16 : Int32)]) (L0 := [(0, .ref 1), (1, .int (16 : Int32))]) h_m102 (z_at.mk 3 rfl rfl) (Or.inl ⟨rfl, rfl⟩) rfl rfl (by decide) (by decide) rfl rfl rfl rfl rfl rfl (by decide) rfl rfl rfl ?_
  refine w_p h_m294 1 (pc' := 1) (L' := [(0, .ref 1), (1, .int (16 : Int32))]) (st' := [.ref 1]) rfl ?_
  refine w_cv (H.te (by decide) rfl).1 (pc' := 4) (L' := [(0, .ref 1), (1, .int (16 : Int32))]) (rest := []) (Ps := []) (L0 := [(0, .ref 1)]) h_m294 (z_at.mk 3 rfl rfl) (Or.inl ⟨rfl, rfl⟩) rfl rfl (by decide) (by decide) rfl rfl rfl rfl rfl rfl (by decide) rfl rfl rfl ?_
  refine w_p h_m299 3 (pc' := 7) (L' := [(0, .ref 1)]) (st' := [.ref 1]) rfl ?_
  refine w_gs H (pc' := 10) (L' := [(0, .ref 1)]) h_m299 (z_at.mk 3 rfl rfl) rfl (by decide) rfl rfl rfl rfl ?_
  refine w_p h_m299 3 (pc' := 18) (L' := []) (st' := [.int (1 : Int32)]) rfl ?_
  refine w_ri h_m299 (z_at.mk 1 rfl rfl) rfl rfl ?_
  show z_W 996 294 4 [(0, .ref 1), (1, .int (16 : Int32))] [.int (1 : Int32)] m _
  refine w_p h_m294 2 (pc' := 8) (L' := [(0, .ref 1), (1, .int (16 : Int32))]) (st' := [.ref 1]) rfl ?_
  refine w_gs H (pc' := 11) (L' := [(0, .ref 1), (1, .int (16 : Int32))]) h_m294 (z_at.mk 3 rfl rfl) rfl (by decide) rfl rfl rfl rfl ?_
  refine w_p h_m294 1 (pc' := 12) (L' := [(0, .ref 1), (1, .int (16 : Int32))]) (st' := [.int (16 : Int32), .ref 19]) rfl ?_
  refine w_cs (As := [.ref 19, .int (16 : Int32)]) (rest := []) (j := 308) (L0 := [(0, .ref 19), (1, .int (16 : Int32))]) (pc' := 15) (L' := [(0, .ref 1), (1, .int (16 : Int32))]) h_m294 (z_at.mk 3 rfl rfl) (Or.inl ⟨rfl, rfl⟩) rfl rfl rfl rfl rfl ?_
  refine w_p h_m308 2 (pc' := 2) (L' := [(0, .ref 19), (1, .int (16 : Int32))]) (st' := [.ref 19, .int (16 : Int32)]) rfl ?_
  refine w_lene H (x := (39 : Int32)) (pc' := 3) (L' := [(0, .ref 19), (1, .int (16 : Int32))]) h_m308 (z_at.mk 1 rfl rfl) (by decide) rfl (by decide) rfl rfl rfl ?_
  refine w_ci (pc' := 6) (L' := [(0, .ref 19), (1, .int (16 : Int32))]) h_m308 (z_at.mk 3 rfl rfl) rfl (z_cat_le 0 rfl (by decide)) ⟨by decide, by decide⟩ rfl rfl ?_
  refine w_p h_m308 2 (pc' := 8) (L' := [(0, .ref 19), (1, .int (16 : Int32))]) (st' := [.int (16 : Int32), .ref 19]) rfl ?_
  refine w_ae H (j := 16) (pc' := 9) (L' := [(0, .ref 19), (1, .int (16 : Int32))]) h_m308 (z_at.mk 1 rfl rfl) rfl rfl rfl (by decide) rfl (by decide) rfl rfl rfl ?_
  refine w_p h_m308 3 (pc' := 14) (L' := [(0, .ref 19), (1, .int (16 : Int32))]) (st' := [.int (119 : Int32)]) rfl ?_
  refine w_ri h_m308 (z_at.mk 1 rfl rfl) rfl rfl ?_
  show z_W 996 294 15 [(0, .ref 1), (1, .int (16 : Int32))] [.int (119 : Int32)] m _
  refine w_ri h_m294 (z_at.mk 1 rfl rfl) rfl rfl ?_
  show z_W 997 102 80 [(0, .ref 120), (1, .ref 1), (2, .int (0 : Int32)), (3, .int (3 : Int32)), (4, .int (16 : Int32)), (5, .int (16 : Int32))] [.int (119 : Int32)] m _
  refine w_p h_m102 6 (pc' := 59) (L' := [(0, .ref 120), (1, .ref 1), (2, .int (0 : Int32)), (3, .int (3 : Int32)), (4, .int (16 : Int32)), (5, .int (17 : Int32))]) (st' := [.ref 1, .int (17 : Int32)]) rfl ?_
  refine w_cv (H.te (by decide) rfl).1 (pc' := 62) (L' := [(0, .ref 120), (1, .ref 1), (2, .int (0 : Int32)), (3, .int (3 : Int32)), (4, .int (16 : Int32)), (5, .int (17 : Int32))]) (rest := [.int (17 : Int32)]) (Ps := []) (L0 := [(0, .ref 1)]) h_m102 (z_at.mk 3 rfl rfl) (Or.inl ⟨rfl, rfl⟩) rfl rfl (by decide) (by decide) rfl rfl rfl rfl rfl rfl (by decide) rfl rfl rfl ?_
  refine w_p h_m293 1 (pc' := 1) (L' := [(0, .ref 1)]) (st' := [.ref 1]) rfl ?_
  refine w_gs H (pc' := 4) (L' := [(0, .ref 1)]) h_m293 (z_at.mk 3 rfl rfl) rfl (by decide) rfl rfl rfl rfl ?_
  refine w_lene H (x := (39 : Int32)) (pc' := 5) (L' := [(0, .ref 1)]) h_m293 (z_at.mk 1 rfl rfl) (by decide) rfl (by decide) rfl rfl rfl ?_
  refine w_p h_m293 1 (pc' := 6) (L' := [(0, .ref 1)]) (st' := [.ref 1, .int (39 : Int32)]) rfl ?_
  refine w_cv (H.te (by decide) rfl).1 (pc' := 9) (L' := [(0, .ref 1)]) (rest := [.int (39 : Int32)]) (Ps := []) (L0 := [(0, .ref 1)]) h_m293 (z_at.mk 3 rfl rfl) (Or.inl ⟨rfl, rfl⟩) rfl rfl (by decide) (by decide) rfl rfl rfl rfl rfl rfl (by decide) rfl rfl rfl ?_
  refine w_p h_m298 3 (pc' := 7) (L' := [(0, .ref 1)]) (st' := [.ref 1]) rfl ?_
  refine w_gs H (pc' := 10) (L' := [(0, .ref 1)]) h_m298 (z_at.mk 3 rfl rfl) rfl (by decide) rfl rfl rfl rfl ?_
  refine w_p h_m298 1 (pc' := 14) (L' := []) (st' := [.int (0 : Int32)]) rfl ?_
  refine w_ri h_m298 (z_at.mk 1 rfl rfl) rfl rfl ?_
  show z_W 996 293 9 [(0, .ref 1)] [.int (0 : Int32), .int (39 : Int32)] m _
  refine w_p h_m293 1 (pc' := 10) (L' := [(0, .ref 1)]) (st' := [.int (39 : Int32)]) rfl ?_
  refine w_ri h_m293 (z_at.mk 1 rfl rfl) rfl rfl ?_
  show z_W 997 102 62 [(0, .ref 120), (1, .ref 1), (2, .int (0 : Int32)), (3, .int (3 : Int32)), (4, .int (16 : Int32)), (5, .int (17 : Int32))] [.int (39 : Int32), .int (17 : Int32)] m _
  refine w_p h_m102 3 (pc' := 68) (L' := [(0, .ref 120), (1, .ref 1), (2, .int (0 : Int32)), (3, .int (3 : Int32)), (4, .int (16 : Int32)), (5, .int (17 : Int32))]) (st' := [.ref 1, .int (17 : Int32)]) rfl ?_
  refine w_cv (H.te (by decide) rfl).1 (pc' := 71) (L' := [(0, .ref 120), (1, .ref 1), (2, .int (0 : Int32)), (3, .int (3 : Int32)), (4, .int (16 : Int32)), (5, .int (17 : Int32))]) (rest := [.int (17 : Int32)]) (Ps := []) (L0 := [(0, .ref 1)]) h_m102 (z_at.mk 3 rfl rfl) (Or.inl ⟨rfl, rfl⟩) rfl rfl (by decide) (by decide) rfl rfl rfl rfl rfl rfl (by decide) rfl rfl rfl ?_
  refine w_p h_m293 1 (pc' := 1) (L' := [(0, .ref 1)]) (st' := [.ref 1]) rfl ?_
  refine w_gs H (pc' := 4) (L' := [(0, .ref 1)]) h_m293 (z_at.mk 3 rfl rfl) rfl (by decide) rfl rfl rfl rfl ?_
  refine w_lene H (x := (39 : Int32)) (pc' := 5) (L' := [(0, .ref 1)]) h_m293 (z_at.mk 1 rfl rfl) (by decide) rfl (by decide) rfl rfl rfl ?_
  refine w_p h_m293 1 (pc' := 6) (L' := [(0, .ref 1)]) (st' := [.ref 1, .int (39 : Int32)]) rfl ?_
  refine w_cv (H.te (by decide) rfl).1 (pc' := 9) (L' := [(0, .ref 1)]) (rest := [.int (39 : Int32)]) (Ps := []) (L0 := [(0, .ref 1)]) h_m293 (z_at.mk 3 rfl rfl) (Or.inl ⟨rfl, rfl⟩) rfl rfl (by decide) (by decide) rfl rfl rfl rfl rfl rfl (by decide) rfl rfl rfl ?_
  refine w_p h_m298 3 (pc' := 7) (L' := [(0, .ref 1)]) (st' := [.ref 1]) rfl ?_
  refine w_gs H (pc' := 10) (L' := [(0, .ref 1)]) h_m298 (z_at.mk 3 rfl rfl) rfl (by decide) rfl rfl rfl rfl ?_
  refine w_p h_m298 1 (pc' := 14) (L' := []) (st' := [.int (0 : Int32)]) rfl ?_
  refine w_ri h_m298 (z_at.mk 1 rfl rfl) rfl rfl ?_
  show z_W 996 293 9 [(0, .ref 1)] [.int (0 : Int32), .int (39 : Int32)] m _
  refine w_p h_m293 1 (pc' := 10) (L' := [(0, .ref 1)]) (st' := [.int (39 : Int32)]) rfl ?_
  refine w_ri h_m293 (z_at.mk 1 rfl rfl) rfl rfl ?_
  show z_W 997 102 71 [(0, .ref 120), (1, .ref 1), (2, .int (0 : Int32)), (3, .int (3 : Int32)), (4, .int (16 : Int32)), (5, .int (17 : Int32))] [.int (39 : Int32), .int (17 : Int32)] m _
  refine w_p h_m102 3 (pc' := 77) (L' := [(0, .ref 120), (1, .ref 1), (2, .int (0 : Int32)), (3, .int (3 : Int32)), (4, .int (16 : Int32)), (5, .int (17 : Int32))]) (st' := [.int (17 : Int32), .ref 1]) rfl ?_
  refine w_cv (H.te (by decide) rfl).1 (pc' := 80) (L' := [(0, .ref 120), (1, .ref 1), (2, .int (0 : Int32)), (3, .int (3 : Int32)), (4, .int (16 : Int32)), (5, .int (17 : Int32))]) (rest := []) (Ps := [.int (17 : Int32)]) (L0 := [(0, .ref 1), (1, .int (17 : Int32))]) h_m102 (z_at.mk 3 rfl rfl) (Or.inl ⟨rfl, rfl⟩) rfl rfl (by decide) (by decide) rfl rfl rfl rfl rfl rfl (by decide) rfl rfl rfl ?_
  refine w_p h_m294 1 (pc' := 1) (L' := [(0, .ref 1), (1, .int (17 : Int32))]) (st' := [.ref 1]) rfl ?_
  refine w_cv (H.te (by decide) rfl).1 (pc' := 4) (L' := [(0, .ref 1), (1, .int (17 : Int32))]) (rest := []) (Ps := []) (L0 := [(0, .ref 1)]) h_m294 (z_at.mk 3 rfl rfl) (Or.inl ⟨rfl, rfl⟩) rfl rfl (by decide) (by decide) rfl rfl rfl rfl rfl rfl (by decide) rfl rfl rfl ?_
  refine w_p h_m299 3 (pc' := 7) (L' := [(0, .ref 1)]) (st' := [.ref 1]) rfl ?_
  refine w_gs H (pc' := 10) (L' := [(0, .ref 1)]) h_m299 (z_at.mk 3 rfl rfl) rfl (by decide) rfl rfl rfl rfl ?_
  refine w_p h_m299 3 (pc' := 18) (L' := []) (st' := [.int (1 : Int32)]) rfl ?_
  refine w_ri h_m299 (z_at.mk 1 rfl rfl) rfl rfl ?_
  show z_W 996 294 4 [(0, .ref 1), (1, .int (17 : Int32))] [.int (1 : Int32)] m _
  refine w_p h_m294 2 (pc' := 8) (L' := [(0, .ref 1), (1, .int (17 : Int32))]) (st' := [.ref 1]) rfl ?_
  refine w_gs H (pc' := 11) (L' := [(0, .ref 1), (1, .int (17 : Int32))]) h_m294 (z_at.mk 3 rfl rfl) rfl (by decide) rfl rfl rfl rfl ?_
  refine w_p h_m294 1 (pc' := 12) (L' := [(0, .ref 1), (1, .int (17 : Int32))]) (st' := [.int (17 : Int32), .ref 19]) rfl ?_
  refine w_cs (As := [.ref 19, .int (17 : Int32)]) (rest := []) (j := 308) (L0 := [(0, .ref 19), (1, .int (17 : Int32))]) (pc' := 15) (L' := [(0, .ref 1), (1, .int (17 : Int32))]) h_m294 (z_at.mk 3 rfl rfl) (Or.inl ⟨rfl, rfl⟩) rfl rfl rfl rfl rfl ?_
  refine w_p h_m308 2 (pc' := 2) (L' := [(0, .ref 19), (1, .int (17 : Int32))]) (st' := [.ref 19, .int (17 : Int32)]) rfl ?_
  refine w_lene H (x := (39 : Int32)) (pc' := 3) (L' := [(0, .ref 19), (1, .int (17 : Int32))]) h_m308 (z_at.mk 1 rfl rfl) (by decide) rfl (by decide) rfl rfl rfl ?_
  refine w_ci (pc' := 6) (L' := [(0, .ref 19), (1, .int (17 : Int32))]) h_m308 (z_at.mk 3 rfl rfl) rfl (z_cat_le 0 rfl (by decide)) ⟨by decide, by decide⟩ rfl rfl ?_
  refine w_p h_m308 2 (pc' := 8) (L' := [(0, .ref 19), (1, .int (17 : Int32))]) (st' := [.int (17 : Int32), .ref 19]) rfl ?_
  refine w_ae H (j := 17) (pc' := 9) (L' := [(0, .ref 19), (1, .int (17 : Int32))]) h_m308 (z_at.mk 1 rfl rfl) rfl rfl rfl (by decide) rfl (by decide) rfl rfl rfl ?_
  refine w_p h_m308 3 (pc' := 14) (L' := [(0, .ref 19), (1, .int (17 : Int32))]) (st' := [.int (114 : Int32)]) rfl ?_
  refine w_ri h_m308 (z_at.mk 1 rfl rfl) rfl rfl ?_
  show z_W 996 294 15 [(0, .ref 1), (1, .int (17 : Int32))] [.int (114 : Int32)] m _
  refine w_ri h_m294 (z_at.mk 1 rfl rfl) rfl rfl ?_
  show z_W 997 102 80 [(0, .ref 120), (1, .ref 1), (2, .int (0 : Int32)), (3, .int (3 : Int32)), (4, .int (16 : Int32)), (5, .int (17 : Int32))] [.int (114 : Int32)] m _
  refine w_p h_m102 6 (pc' := 59) (L' := [(0, .ref 120), (1, .ref 1), (2, .int (0 : Int32)), (3, .int (3 : Int32)), (4, .int (16 : Int32)), (5, .int (18 : Int32))]) (st' := [.ref 1, .int (18 : Int32)]) rfl ?_
  refine w_cv (H.te (by decide) rfl).1 (pc' := 62) (L' := [(0, .ref 120), (1, .ref 1), (2, .int (0 : Int32)), (3, .int (3 : Int32)), (4, .int (16 : Int32)), (5, .int (18 : Int32))]) (rest := [.int (18 : Int32)]) (Ps := []) (L0 := [(0, .ref 1)]) h_m102 (z_at.mk 3 rfl rfl) (Or.inl ⟨rfl, rfl⟩) rfl rfl (by decide) (by decide) rfl rfl rfl rfl rfl rfl (by decide) rfl rfl rfl ?_
  refine w_p h_m293 1 (pc' := 1) (L' := [(0, .ref 1)]) (st' := [.ref 1]) rfl ?_
  refine w_gs H (pc' := 4) (L' := [(0, .ref 1)]) h_m293 (z_at.mk 3 rfl rfl) rfl (by decide) rfl rfl rfl rfl ?_
  refine w_lene H (x := (39 : Int32)) (pc' := 5) (L' := [(0, .ref 1)]) h_m293 (z_at.mk 1 rfl rfl) (by decide) rfl (by decide) rfl rfl rfl ?_
  refine w_p h_m293 1 (pc' := 6) (L' := [(0, .ref 1)]) (st' := [.ref 1, .int (39 : Int32)]) rfl ?_
  refine w_cv (H.te (by decide) rfl).1 (pc' := 9) (L' := [(0, .ref 1)]) (rest := [.int (39 : Int32)]) (Ps := []) (L0 := [(0, .ref 1)]) h_m293 (z_at.mk 3 rfl rfl) (Or.inl ⟨rfl, rfl⟩) rfl rfl (by decide) (by decide) rfl rfl rfl rfl rfl rfl (by decide) rfl rfl rfl ?_
  refine w_p h_m298 3 (pc' := 7) (L' := [(0, .ref 1)]) (st' := [.ref 1]) rfl ?_
  refine w_gs H (pc' := 10) (L' := [(0, .ref 1)]) h_m298 (z_at.mk 3 rfl rfl) rfl (by decide) rfl rfl rfl rfl ?_
  refine w_p h_m298 1 (pc' := 14) (L' := []) (st' := [.int (0 : Int32)]) rfl ?_
  refine w_ri h_m298 (z_at.mk 1 rfl rfl) rfl rfl ?_
  show z_W 996 293 9 [(0, .ref 1)] [.int (0 : Int32), .int (39 : Int32)] m _
  refine w_p h_m293 1 (pc' := 10) (L' := [(0, .ref 1)]) (st' := [.int (39 : Int32)]) rfl ?_
  refine w_ri h_m293 (z_at.mk 1 rfl rfl) rfl rfl ?_
  show z_W 997 102 62 [(0, .ref 120), (1, .ref 1), (2, .int (0 : Int32)), (3, .int (3 : Int32)), (4, .int (16 : Int32)), (5, .int (18 : Int32))] [.int (39 : Int32), .int (18 : Int32)] m _
  refine w_p h_m102 3 (pc' := 68) (L' := [(0, .ref 120), (1, .ref 1), (2, .int (0 : Int32)), (3, .int (3 : Int32)), (4, .int (16 : Int32)), (5, .int (18 : Int32))]) (st' := [.ref 1, .int (18 : Int32)]) rfl ?_
  refine w_cv (H.te (by decide) rfl).1 (pc' := 71) (L' := [(0, .ref 120), (1, .ref 1), (2, .int (0 : Int32)), (3, .int (3 : Int32)), (4, .int (16 : Int32)), (5, .int (18 : Int32))]) (rest := [.int (18 : Int32)]) (Ps := []) (L0 := [(0, .ref 1)]) h_m102 (z_at.mk 3 rfl rfl) (Or.inl ⟨rfl, rfl⟩) rfl rfl (by decide) (by decide) rfl rfl rfl rfl rfl rfl (by decide) rfl rfl rfl ?_
  refine w_p h_m293 1 (pc' := 1) (L' := [(0, .ref 1)]) (st' := [.ref 1]) rfl ?_
  refine w_gs H (pc' := 4) (L' := [(0, .ref 1)]) h_m293 (z_at.mk 3 rfl rfl) rfl (by decide) rfl rfl rfl rfl ?_
  refine w_lene H (x := (39 : Int32)) (pc' := 5) (L' := [(0, .ref 1)]) h_m293 (z_at.mk 1 rfl rfl) (by decide) rfl (by decide) rfl rfl rfl ?_
  refine w_p h_m293 1 (pc' := 6) (L' := [(0, .ref 1)]) (st' := [.ref 1, .int (39 : Int32)]) rfl ?_
  refine w_cv (H.te (by decide) rfl).1 (pc' := 9) (L' := [(0, .ref 1)]) (rest := [.int (39 : Int32)]) (Ps := []) (L0 := [(0, .ref 1)]) h_m293 (z_at.mk 3 rfl rfl) (Or.inl ⟨rfl, rfl⟩) rfl rfl (by decide) (by decide) rfl rfl rfl rfl rfl rfl (by decide) rfl rfl rfl ?_
  refine w_p h_m298 3 (pc' := 7) (L' := [(0, .ref 1)]) (st' := [.ref 1]) rfl ?_
  refine w_gs H (pc' := 10) (L' := [(0, .ref 1)]) h_m298 (z_at.mk 3 rfl rfl) rfl (by decide) rfl rfl rfl rfl ?_
  refine w_p h_m298 1 (pc' := 14) (L' := []) (st' := [.int (0 : Int32)]) rfl ?_
  refine w_ri h_m298 (z_at.mk 1 rfl rfl) rfl rfl ?_
  show z_W 996 293 9 [(0, .ref 1)] [.int (0 : Int32), .int (39 : Int32)] m _
  refine w_p h_m293 1 (pc' := 10) (L' := [(0, .ref 1)]) (st' := [.int (39 : Int32)]) rfl ?_
  refine w_ri h_m293 (z_at.mk 1 rfl rfl) rfl rfl ?_
  show z_W 997 102 71 [(0, .ref 120), (1, .ref 1), (2, .int (0 : Int32)), (3, .int (3 : Int32)), (4, .int (16 : Int32)), (5, .int (18 : Int32))] [.int (39 : Int32), .int (18 : Int32)] m _
  refine w_p h_m102 3 (pc' := 77) (L' := [(0, .ref 120), (1, .ref 1), (2, .int (0 : Int32)), (3, .int (3 : Int32)), (4, .int (16 : Int32)), (5, .int (18 : Int32))]) (st' := [.int (18 : Int32), .ref 1]) rfl ?_
  refine w_cv (H.te (by decide) rfl).1 (pc' := 80) (L' := [(0, .ref 120), (1, .ref 1), (2, .int (0 : Int32)), (3, .int (3 : Int32)), (4, .int (16 : Int32)), (5, .int (18 : Int32))]) (rest := []) (Ps := [.int (18 : Int32)]) (L0 := [(0, .ref 1), (1, .int (18 : Int32))]) h_m102 (z_at.mk 3 rfl rfl) (Or.inl ⟨rfl, rfl⟩) rfl rfl (by decide) (by decide) rfl rfl rfl rfl rfl rfl (by decide) rfl rfl rfl ?_
  refine w_p h_m294 1 (pc' := 1) (L' := [(0, .ref 1), (1, .int (18 : Int32))]) (st' := [.ref 1]) rfl ?_
  refine w_cv (H.te (by decide) rfl).1 (pc' := 4) (L' := [(0, .ref 1), (1, .int (18 : Int32))]) (rest := []) (Ps := []) (L0 := [(0, .ref 1)]) h_m294 (z_at.mk 3 rfl rfl) (Or.inl ⟨rfl, rfl⟩) rfl rfl (by decide) (by decide) rfl rfl rfl rfl rfl rfl (by decide) rfl rfl rfl ?_
  refine w_p h_m299 3 (pc' := 7) (L' := [(0, .ref 1)]) (st' := [.ref 1]) rfl ?_
  refine w_gs H (pc' := 10) (L' := [(0, .ref 1)]) h_m299 (z_at.mk 3 rfl rfl) rfl (by decide) rfl rfl rfl rfl ?_
  refine w_p h_m299 3 (pc' := 18) (L' := []) (st' := [.int (1 : Int32)]) rfl ?_
  refine w_ri h_m299 (z_at.mk 1 rfl rfl) rfl rfl ?_
  show z_W 996 294 4 [(0, .ref 1), (1, .int (18 : Int32))] [.int (1 : Int32)] m _
  refine w_p h_m294 2 (pc' := 8) (L' := [(0, .ref 1), (1, .int (18 : Int32))]) (st' := [.ref 1]) rfl ?_
  refine w_gs H (pc' := 11) (L' := [(0, .ref 1), (1, .int (18 : Int32))]) h_m294 (z_at.mk 3 rfl rfl) rfl (by decide) rfl rfl rfl rfl ?_
  refine w_p h_m294 1 (pc' := 12) (L' := [(0, .ref 1), (1, .int (18 : Int32))]) (st' := [.int (18 : Int32), .ref 19]) rfl ?_
  refine w_cs (As := [.ref 19, .int (18 : Int32)]) (rest := []) (j := 308) (L0 := [(0, .ref 19), (1, .int (18 : Int32))]) (pc' := 15) (L' := [(0, .ref 1), (1, .int (18 : Int32))]) h_m294 (z_at.mk 3 rfl rfl) (Or.inl ⟨rfl, rfl⟩) rfl rfl rfl rfl rfl ?_
  refine w_p h_m308 2 (pc' := 2) (L' := [(0, .ref 19), (1, .int (18 : Int32))]) (st' := [.ref 19, .int (18 : Int32)]) rfl ?_
  refine w_lene H (x := (39 : Int32)) (pc' := 3) (L' := [(0, .ref 19), (1, .int (18 : Int32))]) h_m308 (z_at.mk 1 rfl rfl) (by decide) rfl (by decide) rfl rfl rfl ?_
  refine w_ci (pc' := 6) (L' := [(0, .ref 19), (1, .int (18 : Int32))]) h_m308 (z_at.mk 3 rfl rfl) rfl (z_cat_le 0 rfl (by decide)) ⟨by decide, by decide⟩ rfl rfl ?_
  refine w_p h_m308 2 (pc' := 8) (L' := [(0, .ref 19), (1, .int (18 : Int32))]) (st' := [.int (18 : Int32), .ref 19]) rfl ?_
  refine w_ae H (j := 18) (pc' := 9) (L' := [(0, .ref 19), (1, .int (18 : Int32))]) h_m308 (z_at.mk 1 rfl rfl) rfl rfl rfl (by decide) rfl (by decide) rfl rfl rfl ?_
  refine w_p h_m308 3 (pc' := 14) (L' := [(0, .ref 19), (1, .int (18 : Int32))]) (st' := [.int (105 : Int32)]) rfl ?_
  refine w_ri h_m308 (z_at.mk 1 rfl rfl) rfl rfl ?_
  show z_W 996 294 15 [(0, .ref 1), (1, .int (18 : Int32))] [.int (105 : Int32)] m _
  refine w_ri h_m294 (z_at.mk 1 rfl rfl) rfl rfl ?_
  show z_W 997 102 80 [(0, .ref 120), (1, .ref 1), (2, .int (0 : Int32)), (3, .int (3 : Int32)), (4, .int (16 : Int32)), (5, .int (18 : Int32))] [.int (105 : Int32)] m _
  refine w_p h_m102 6 (pc' := 59) (L' := [(0, .ref 120), (1, .ref 1), (2, .int (0 : Int32)), (3, .int (3 : Int32)), (4, .int (16 : Int32)), (5, .int (19 : Int32))]) (st' := [.ref 1, .int (19 : Int32)]) rfl ?_
  refine w_cv (H.te (by decide) rfl).1 (pc' := 62) (L' := [(0, .ref 120), (1, .ref 1), (2, .int (0 : Int32)), (3, .int (3 : Int32)), (4, .int (16 : Int32)), (5, .int (19 : Int32))]) (rest := [.int (19 : Int32)]) (Ps := []) (L0 := [(0, .ref 1)]) h_m102 (z_at.mk 3 rfl rfl) (Or.inl ⟨rfl, rfl⟩) rfl rfl (by decide) (by decide) rfl rfl rfl rfl rfl rfl (by decide) rfl rfl rfl ?_
  refine w_p h_m293 1 (pc' := 1) (L' := [(0, .ref 1)]) (st' := [.ref 1]) rfl ?_
  refine w_gs H (pc' := 4) (L' := [(0, .ref 1)]) h_m293 (z_at.mk 3 rfl rfl) rfl (by decide) rfl rfl rfl rfl ?_
  refine w_lene H (x := (39 : Int32)) (pc' := 5) (L' := [(0, .ref 1)]) h_m293 (z_at.mk 1 rfl rfl) (by decide) rfl (by decide) rfl rfl rfl ?_
  refine w_p h_m293 1 (pc' := 6) (L' := [(0, .ref 1)]) (st' := [.ref 1, .int (39 : Int32)]) rfl ?_
  refine w_cv (H.te (by decide) rfl).1 (pc' := 9) (L' := [(0, .ref 1)]) (rest := [.int (39 : Int32)]) (Ps := []) (L0 := [(0, .ref 1)]) h_m293 (z_at.mk 3 rfl rfl) (Or.inl ⟨rfl, rfl⟩) rfl rfl (by decide) (by decide) rfl rfl rfl rfl rfl rfl (by decide) rfl rfl rfl ?_
  refine w_p h_m298 3 (pc' := 7) (L' := [(0, .ref 1)]) (st' := [.ref 1]) rfl ?_
  refine w_gs H (pc' := 10) (L' := [(0, .ref 1)]) h_m298 (z_at.mk 3 rfl rfl) rfl (by decide) rfl rfl rfl rfl ?_
  refine w_p h_m298 1 (pc' := 14) (L' := []) (st' := [.int (0 : Int32)]) rfl ?_
  refine w_ri h_m298 (z_at.mk 1 rfl rfl) rfl rfl ?_
  show z_W 996 293 9 [(0, .ref 1)] [.int (0 : Int32), .int (39 : Int32)] m _
  refine w_p h_m293 1 (pc' := 10) (L' := [(0, .ref 1)]) (st' := [.int (39 : Int32)]) rfl ?_
  refine w_ri h_m293 (z_at.mk 1 rfl rfl) rfl rfl ?_
  show z_W 997 102 62 [(0, .ref 120), (1, .ref 1), (2, .int (0 : Int32)), (3, .int (3 : Int32)), (4, .int (16 : Int32)), (5, .int (19 : Int32))] [.int (39 : Int32), .int (19 : Int32)] m _
  refine w_p h_m102 3 (pc' := 68) (L' := [(0, .ref 120), (1, .ref 1), (2, .int (0 : Int32)), (3, .int (3 : Int32)), (4, .int (16 : Int32)), (5, .int (19 : Int32))]) (st' := [.ref 1, .int (19 : Int32)]) rfl ?_
  refine w_cv (H.te (by decide) rfl).1 (pc' := 71) (L' := [(0, .ref 120), (1, .ref 1), (2, .int (0 : Int32)), (3, .int (3 : Int32)), (4, .int (16 : Int32)), (5, .int (19 : Int32))]) (rest := [.int (19 : Int32)]) (Ps := []) (L0 := [(0, .ref 1)]) h_m102 (z_at.mk 3 rfl rfl) (Or.inl ⟨rfl, rfl⟩) rfl rfl (by decide) (by decide) rfl rfl rfl rfl rfl rfl (by decide) rfl rfl rfl ?_
  refine w_p h_m293 1 (pc' := 1) (L' := [(0, .ref 1)]) (st' := [.ref 1]) rfl ?_
  refine w_gs H (pc' := 4) (L' := [(0, .ref 1)]) h_m293 (z_at.mk 3 rfl rfl) rfl (by decide) rfl rfl rfl rfl ?_
  refine w_lene H (x := (39 : Int32)) (pc' := 5) (L' := [(0, .ref 1)]) h_m293 (z_at.mk 1 rfl rfl) (by decide) rfl (by decide) rfl rfl rfl ?_
  refine w_p h_m293 1 (pc' := 6) (L' := [(0, .ref 1)]) (st' := [.ref 1, .int (39 : Int32)]) rfl ?_
  refine w_cv (H.te (by decide) rfl).1 (pc' := 9) (L' := [(0, .ref 1)]) (rest := [.int (39 : Int32)]) (Ps := []) (L0 := [(0, .ref 1)]) h_m293 (z_at.mk 3 rfl rfl) (Or.inl ⟨rfl, rfl⟩) rfl rfl (by decide) (by decide) rfl rfl rfl rfl rfl rfl (by decide) rfl rfl rfl ?_
  refine w_p h_m298 3 (pc' := 7) (L' := [(0, .ref 1)]) (st' := [.ref 1]) rfl ?_
  refine w_gs H (pc' := 10) (L' := [(0, .ref 1)]) h_m298 (z_at.mk 3 rfl rfl) rfl (by decide) rfl rfl rfl rfl ?_
  refine w_p h_m298 1 (pc' := 14) (L' := []) (st' := [.int (0 : Int32)]) rfl ?_
  refine w_ri h_m298 (z_at.mk 1 rfl rfl) rfl rfl ?_
  show z_W 996 293 9 [(0, .ref 1)] [.int (0 : Int32), .int (39 : Int32)] m _
  refine w_p h_m293 1 (pc' := 10) (L' := [(0, .ref 1)]) (st' := [.int (39 : Int32)]) rfl ?_
  refine w_ri h_m293 (z_at.mk 1 rfl rfl) rfl rfl ?_
  show z_W 997 102 71 [(0, .ref 120), (1, .ref 1), (2, .int (0 : Int32)), (3, .int (3 : Int32)), (4, .int (16 : Int32)), (5, .int (19 : Int32))] [.int (39 : Int32), .int (19 : Int32)] m _
  refine w_p h_m102 3 (pc' := 77) (L' := [(0, .ref 120), (1, .ref 1), (2, .int (0 : Int32)), (3, .int (3 : Int32)), (4, .int (16 : Int32)), (5, .int (19 : Int32))]) (st' := [.int (19 : Int32), .ref 1]) rfl ?_
  refine w_cv (H.te (by decide) rfl).1 (pc' := 80) (L' := [(0, .ref 120), (1, .ref 1), (2, .int (0 : Int32)), (3, .int (3 : Int32)), (4, .int (16 : Int32)), (5, .int (19 : Int32))]) (rest := []) (Ps := [.int (19 : Int32)]) (L0 := [(0, .ref 1), (1, .int (19 : Int32))]) h_m102 (z_at.mk 3 rfl rfl) (Or.inl ⟨rfl, rfl⟩) rfl rfl (by decide) (by decide) rfl rfl rfl rfl rfl rfl (by decide) rfl rfl rfl ?_
  refine w_p h_m294 1 (pc' := 1) (L' := [(0, .ref 1), (1, .int (19 : Int32))]) (st' := [.ref 1]) rfl ?_
  refine w_cv (H.te (by decide) rfl).1 (pc' := 4) (L' := [(0, .ref 1), (1, .int (19 : Int32))]) (rest := []) (Ps := []) (L0 := [(0, .ref 1)]) h_m294 (z_at.mk 3 rfl rfl) (Or.inl ⟨rfl, rfl⟩) rfl rfl (by decide) (by decide) rfl rfl rfl rfl rfl rfl (by decide) rfl rfl rfl ?_
  refine w_p h_m299 3 (pc' := 7) (L' := [(0, .ref 1)]) (st' := [.ref 1]) rfl ?_
  refine w_gs H (pc' := 10) (L' := [(0, .ref 1)]) h_m299 (z_at.mk 3 rfl rfl) rfl (by decide) rfl rfl rfl rfl ?_
  refine w_p h_m299 3 (pc' := 18) (L' := []) (st' := [.int (1 : Int32)]) rfl ?_
  refine w_ri h_m299 (z_at.mk 1 rfl rfl) rfl rfl ?_
  show z_W 996 294 4 [(0, .ref 1), (1, .int (19 : Int32))] [.int (1 : Int32)] m _
  refine w_p h_m294 2 (pc' := 8) (L' := [(0, .ref 1), (1, .int (19 : Int32))]) (st' := [.ref 1]) rfl ?_
  refine w_gs H (pc' := 11) (L' := [(0, .ref 1), (1, .int (19 : Int32))]) h_m294 (z_at.mk 3 rfl rfl) rfl (by decide) rfl rfl rfl rfl ?_
  refine w_p h_m294 1 (pc' := 12) (L' := [(0, .ref 1), (1, .int (19 : Int32))]) (st' := [.int (19 : Int32), .ref 19]) rfl ?_
  refine w_cs (As := [.ref 19, .int (19 : Int32)]) (rest := []) (j := 308) (L0 := [(0, .ref 19), (1, .int (19 : Int32))]) (pc' := 15) (L' := [(0, .ref 1), (1, .int (19 : Int32))]) h_m294 (z_at.mk 3 rfl rfl) (Or.inl ⟨rfl, rfl⟩) rfl rfl rfl rfl rfl ?_
  refine w_p h_m308 2 (pc' := 2) (L' := [(0, .ref 19), (1, .int (19 : Int32))]) (st' := [.ref 19, .int (19 : Int32)]) rfl ?_
  refine w_lene H (x := (39 : Int32)) (pc' := 3) (L' := [(0, .ref 19), (1, .int (19 : Int32))]) h_m308 (z_at.mk 1 rfl rfl) (by decide) rfl (by decide) rfl rfl rfl ?_
  refine w_ci (pc' := 6) (L' := [(0, .ref 19), (1, .int (19 : Int32))]) h_m308 (z_at.mk 3 rfl rfl) rfl (z_cat_le 0 rfl (by decide)) ⟨by decide, by decide⟩ rfl rfl ?_
  refine w_p h_m308 2 (pc' := 8) (L' := [(0, .ref 19), (1, .int (19 : Int32))]) (st' := [.int (19 : Int32), .ref 19]) rfl ?_
  refine w_ae H (j := 19) (pc' := 9) (L' := [(0, .ref 19), (1, .int (19 : Int32))]) h_m308 (z_at.mk 1 rfl rfl) rfl rfl rfl (by decide) rfl (by decide) rfl rfl rfl ?_
  refine w_p h_m308 3 (pc' := 14) (L' := [(0, .ref 19), (1, .int (19 : Int32))]) (st' := [.int (116 : Int32)]) rfl ?_
  refine w_ri h_m308 (z_at.mk 1 rfl rfl) rfl rfl ?_
  show z_W 996 294 15 [(0, .ref 1), (1, .int (19 : Int32))] [.int (116 : Int32)] m _
  refine w_ri h_m294 (z_at.mk 1 rfl rfl) rfl rfl ?_
  show z_W 997 102 80 [(0, .ref 120), (1, .ref 1), (2, .int (0 : Int32)), (3, .int (3 : Int32)), (4, .int (16 : Int32)), (5, .int (19 : Int32))] [.int (116 : Int32)] m _
  refine w_p h_m102 6 (pc' := 59) (L' := [(0, .ref 120), (1, .ref 1), (2, .int (0 : Int32)), (3, .int (3 : Int32)), (4, .int (16 : Int32)), (5, .int (20 : Int32))]) (st' := [.ref 1, .int (20 : Int32)]) rfl ?_
  refine w_cv (H.te (by decide) rfl).1 (pc' := 62) (L' := [(0, .ref 120), (1, .ref 1), (2, .int (0 : Int32)), (3, .int (3 : Int32)), (4, .int (16 : Int32)), (5, .int (20 : Int32))]) (rest := [.int (20 : Int32)]) (Ps := []) (L0 := [(0, .ref 1)]) h_m102 (z_at.mk 3 rfl rfl) (Or.inl ⟨rfl, rfl⟩) rfl rfl (by decide) (by decide) rfl rfl rfl rfl rfl rfl (by decide) rfl rfl rfl ?_
  refine w_p h_m293 1 (pc' := 1) (L' := [(0, .ref 1)]) (st' := [.ref 1]) rfl ?_
  refine w_gs H (pc' := 4) (L' := [(0, .ref 1)]) h_m293 (z_at.mk 3 rfl rfl) rfl (by decide) rfl rfl rfl rfl ?_
  refine w_lene H (x := (39 : Int32)) (pc' := 5) (L' := [(0, .ref 1)]) h_m293 (z_at.mk 1 rfl rfl) (by decide) rfl (by decide) rfl rfl rfl ?_
  refine w_p h_m293 1 (pc' := 6) (L' := [(0, .ref 1)]) (st' := [.ref 1, .int (39 : Int32)]) rfl ?_
  refine w_cv (H.te (by decide) rfl).1 (pc' := 9) (L' := [(0, .ref 1)]) (rest := [.int (39 : Int32)]) (Ps := []) (L0 := [(0, .ref 1)]) h_m293 (z_at.mk 3 rfl rfl) (Or.inl ⟨rfl, rfl⟩) rfl rfl (by decide) (by decide) rfl rfl rfl rfl rfl rfl (by decide) rfl rfl rfl ?_
  refine w_p h_m298 3 (pc' := 7) (L' := [(0, .ref 1)]) (st' := [.ref 1]) rfl ?_
  refine w_gs H (pc' := 10) (L' := [(0, .ref 1)]) h_m298 (z_at.mk 3 rfl rfl) rfl (by decide) rfl rfl rfl rfl ?_
  refine w_p h_m298 1 (pc' := 14) (L' := []) (st' := [.int (0 : Int32)]) rfl ?_
  refine w_ri h_m298 (z_at.mk 1 rfl rfl) rfl rfl ?_
  show z_W 996 293 9 [(0, .ref 1)] [.int (0 : Int32), .int (39 : Int32)] m _
  refine w_p h_m293 1 (pc' := 10) (L' := [(0, .ref 1)]) (st' := [.int (39 : Int32)]) rfl ?_
  refine w_ri h_m293 (z_at.mk 1 rfl rfl) rfl rfl ?_
  show z_W 997 102 62 [(0, .ref 120), (1, .ref 1), (2, .int (0 : Int32)), (3, .int (3 : Int32)), (4, .int (16 : Int32)), (5, .int (20 : Int32))] [.int (39 : Int32), .int (20 : Int32)] m _
  refine w_p h_m102 3 (pc' := 68) (L' := [(0, .ref 120), (1, .ref 1), (2, .int (0 : Int32)), (3, .int (3 : Int32)), (4, .int (16 : Int32)), (5, .int (20 : Int32))]) (st' := [.ref 1, .int (20 : Int32)]) rfl ?_
  refine w_cv (H.te (by decide) rfl).1 (pc' := 71) (L' := [(0, .ref 120), (1, .ref 1), (2, .int (0 : Int32)), (3, .int (3 : Int32)), (4, .int (16 : Int32)), (5, .int (20 : Int32))]) (rest := [.int (20 : Int32)]) (Ps := []) (L0 := [(0, .ref 1)]) h_m102 (z_at.mk 3 rfl rfl) (Or.inl ⟨rfl, rfl⟩) rfl rfl (by decide) (by decide) rfl rfl rfl rfl rfl rfl (by decide) rfl rfl rfl ?_
  refine w_p h_m293 1 (pc' := 1) (L' := [(0, .ref 1)]) (st' := [.ref 1]) rfl ?_
  refine w_gs H (pc' := 4) (L' := [(0, .ref 1)]) h_m293 (z_at.mk 3 rfl rfl) rfl (by decide) rfl rfl rfl rfl ?_
  refine w_lene H (x := (39 : Int32)) (pc' := 5) (L' := [(0, .ref 1)]) h_m293 (z_at.mk 1 rfl rfl) (by decide) rfl (by decide) rfl rfl rfl ?_
  refine w_p h_m293 1 (pc' := 6) (L' := [(0, .ref 1)]) (st' := [.ref 1, .int (39 : Int32)]) rfl ?_
  refine w_cv (H.te (by decide) rfl).1 (pc' := 9) (L' := [(0, .ref 1)]) (rest := [.int (39 : Int32)]) (Ps := []) (L0 := [(0, .ref 1)]) h_m293 (z_at.mk 3 rfl rfl) (Or.inl ⟨rfl, rfl⟩) rfl rfl (by decide) (by decide) rfl rfl rfl rfl rfl rfl (by decide) rfl rfl rfl ?_
  refine w_p h_m298 3 (pc' := 7) (L' := [(0, .ref 1)]) (st' := [.ref 1]) rfl ?_
  refine w_gs H (pc' := 10) (L' := [(0, .ref 1)]) h_m298 (z_at.mk 3 rfl rfl) rfl (by decide) rfl rfl rfl rfl ?_
  refine w_p h_m298 1 (pc' := 14) (L' := []) (st' := [.int (0 : Int32)]) rfl ?_
  refine w_ri h_m298 (z_at.mk 1 rfl rfl) rfl rfl ?_
  show z_W 996 293 9 [(0, .ref 1)] [.int (0 : Int32), .int (39 : Int32)] m _
  refine w_p h_m293 1 (pc' := 10) (L' := [(0, .ref 1)]) (st' := [.int (39 : Int32)]) rfl ?_
  refine w_ri h_m293 (z_at.mk 1 rfl rfl) rfl rfl ?_
  show z_W 997 102 71 [(0, .ref 120), (1, .ref 1), (2, .int (0 : Int32)), (3, .int (3 : Int32)), (4, .int (16 : Int32)), (5, .int (20 : Int32))] [.int (39 : Int32), .int (20 : Int32)] m _
  refine w_p h_m102 3 (pc' := 77) (L' := [(0, .ref 120), (1, .ref 1), (2, .int (0 : Int32)), (3, .int (3 : Int32)), (4, .int (16 : Int32)), (5, .int (20 : Int32))]) (st' := [.int (20 : Int32), .ref 1]) rfl ?_
  refine w_cv (H.te (by decide) rfl).1 (pc' := 80) (L' := [(0, .ref 120), (1, .ref 1), (2, .int (0 : Int32)), (3, .int (3 : Int32)), (4, .int (16 : Int32)), (5, .int (20 : Int32))]) (rest := []) (Ps := [.int (20 : Int32)]) (L0 := [(0, .ref 1), (1, .int (20 : Int32))]) h_m102 (z_at.mk 3 rfl rfl) (Or.inl ⟨rfl, rfl⟩) rfl rfl (by decide) (by decide) rfl rfl rfl rfl rfl rfl (by decide) rfl rfl rfl ?_
  refine w_p h_m294 1 (pc' := 1) (L' := [(0, .ref 1), (1, .int (20 : Int32))]) (st' := [.ref 1]) rfl ?_
  refine w_cv (H.te (by decide) rfl).1 (pc' := 4) (L' := [(0, .ref 1), (1, .int (20 : Int32))]) (rest := []) (Ps := []) (L0 := [(0, .ref 1)]) h_m294 (z_at.mk 3 rfl rfl) (Or.inl ⟨rfl, rfl⟩) rfl rfl (by decide) (by decide) rfl rfl rfl rfl rfl rfl (by decide) rfl rfl rfl ?_
  refine w_p h_m299 3 (pc' := 7) (L' := [(0, .ref 1)]) (st' := [.ref 1]) rfl ?_
  refine w_gs H (pc' := 10) (L' := [(0, .ref 1)]) h_m299 (z_at.mk 3 rfl rfl) rfl (by decide) rfl rfl rfl rfl ?_
  refine w_p h_m299 3 (pc' := 18) (L' := []) (st' := [.int (1 : Int32)]) rfl ?_
  refine w_ri h_m299 (z_at.mk 1 rfl rfl) rfl rfl ?_
  show z_W 996 294 4 [(0, .ref 1), (1, .int (20 : Int32))] [.int (1 : Int32)] m _
  refine w_p h_m294 2 (pc' := 8) (L' := [(0, .ref 1), (1, .int (20 : Int32))]) (st' := [.ref 1]) rfl ?_
  refine w_gs H (pc' := 11) (L' := [(0, .ref 1), (1, .int (20 : Int32))]) h_m294 (z_at.mk 3 rfl rfl) rfl (by decide) rfl rfl rfl rfl ?_
  refine w_p h_m294 1 (pc' := 12) (L' := [(0, .ref 1), (1, .int (20 : Int32))]) (st' := [.int (20 : Int32), .ref 19]) rfl ?_
  refine w_cs (As := [.ref 19, .int (20 : Int32)]) (rest := []) (j := 308) (L0 := [(0, .ref 19), (1, .int (20 : Int32))]) (pc' := 15) (L' := [(0, .ref 1), (1, .int (20 : Int32))]) h_m294 (z_at.mk 3 rfl rfl) (Or.inl ⟨rfl, rfl⟩) rfl rfl rfl rfl rfl ?_
  refine w_p h_m308 2 (pc' := 2) (L' := [(0, .ref 19), (1, .int (20 : Int32))]) (st' := [.ref 19, .int (20 : Int32)]) rfl ?_
  refine w_lene H (x := (39 : Int32)) (pc' := 3) (L' := [(0, .ref 19), (1, .int (20 : Int32))]) h_m308 (z_at.mk 1 rfl rfl) (by decide) rfl (by decide) rfl rfl rfl ?_
  refine w_ci (pc' := 6) (L' := [(0, .ref 19), (1, .int (20 : Int32))]) h_m308 (z_at.mk 3 rfl rfl) rfl (z_cat_le 0 rfl (by decide)) ⟨by decide, by decide⟩ rfl rfl ?_
  refine w_p h_m308 2 (pc' := 8) (L' := [(0, .ref 19), (1, .int (20 : Int32))]) (st' := [.int (20 : Int32), .ref 19]) rfl ?_
  refine w_ae H (j := 20) (pc' := 9) (L' := [(0, .ref 19), (1, .int (20 : Int32))]) h_m308 (z_at.mk 1 rfl rfl) rfl rfl rfl (by decide) rfl (by decide) rfl rfl rfl ?_
  refine w_p h_m308 3 (pc' := 14) (L' := [(0, .ref 19), (1, .int (20 : Int32))]) (st' := [.int (101 : Int32)]) rfl ?_
  refine w_ri h_m308 (z_at.mk 1 rfl rfl) rfl rfl ?_
  show z_W 996 294 15 [(0, .ref 1), (1, .int (20 : Int32))] [.int (101 : Int32)] m _
  refine w_ri h_m294 (z_at.mk 1 rfl rfl) rfl rfl ?_
  show z_W 997 102 80 [(0, .ref 120), (1, .ref 1), (2, .int (0 : Int32)), (3, .int (3 : Int32)), (4, .int (16 : Int32)), (5, .int (20 : Int32))] [.int (101 : Int32)] m _
  refine w_p h_m102 6 (pc' := 59) (L' := [(0, .ref 120), (1, .ref 1), (2, .int (0 : Int32)), (3, .int (3 : Int32)), (4, .int (16 : Int32)), (5, .int (21 : Int32))]) (st' := [.ref 1, .int (21 : Int32)]) rfl ?_
  refine w_cv (H.te (by decide) rfl).1 (pc' := 62) (L' := [(0, .ref 120), (1, .ref 1), (2, .int (0 : Int32)), (3, .int (3 : Int32)), (4, .int (16 : Int32)), (5, .int (21 : Int32))]) (rest := [.int (21 : Int32)]) (Ps := []) (L0 := [(0, .ref 1)]) h_m102 (z_at.mk 3 rfl rfl) (Or.inl ⟨rfl, rfl⟩) rfl rfl (by decide) (by decide) rfl rfl rfl rfl rfl rfl (by decide) rfl rfl rfl ?_
  refine w_p h_m293 1 (pc' := 1) (L' := [(0, .ref 1)]) (st' := [.ref 1]) rfl ?_
  refine w_gs H (pc' := 4) (L' := [(0, .ref 1)]) h_m293 (z_at.mk 3 rfl rfl) rfl (by decide) rfl rfl rfl rfl ?_
  refine w_lene H (x := (39 : Int32)) (pc' := 5) (L' := [(0, .ref 1)]) h_m293 (z_at.mk 1 rfl rfl) (by decide) rfl (by decide) rfl rfl rfl ?_
  refine w_p h_m293 1 (pc' := 6) (L' := [(0, .ref 1)]) (st' := [.ref 1, .int (39 : Int32)]) rfl ?_
  refine w_cv (H.te (by decide) rfl).1 (pc' := 9) (L' := [(0, .ref 1)]) (rest := [.int (39 : Int32)]) (Ps := []) (L0 := [(0, .ref 1)]) h_m293 (z_at.mk 3 rfl rfl) (Or.inl ⟨rfl, rfl⟩) rfl rfl (by decide) (by decide) rfl rfl rfl rfl rfl rfl (by decide) rfl rfl rfl ?_
  refine w_p h_m298 3 (pc' := 7) (L' := [(0, .ref 1)]) (st' := [.ref 1]) rfl ?_
  refine w_gs H (pc' := 10) (L' := [(0, .ref 1)]) h_m298 (z_at.mk 3 rfl rfl) rfl (by decide) rfl rfl rfl rfl ?_
  refine w_p h_m298 1 (pc' := 14) (L' := []) (st' := [.int (0 : Int32)]) rfl ?_
  refine w_ri h_m298 (z_at.mk 1 rfl rfl) rfl rfl ?_
  show z_W 996 293 9 [(0, .ref 1)] [.int (0 : Int32), .int (39 : Int32)] m _
  refine w_p h_m293 1 (pc' := 10) (L' := [(0, .ref 1)]) (st' := [.int (39 : Int32)]) rfl ?_
  refine w_ri h_m293 (z_at.mk 1 rfl rfl) rfl rfl ?_
  show z_W 997 102 62 [(0, .ref 120), (1, .ref 1), (2, .int (0 : Int32)), (3, .int (3 : Int32)), (4, .int (16 : Int32)), (5, .int (21 : Int32))] [.int (39 : Int32), .int (21 : Int32)] m _
  refine w_p h_m102 3 (pc' := 68) (L' := [(0, .ref 120), (1, .ref 1), (2, .int (0 : Int32)), (3, .int (3 : Int32)), (4, .int (16 : Int32)), (5, .int (21 : Int32))]) (st' := [.ref 1, .int (21 : Int32)]) rfl ?_
  refine w_cv (H.te (by decide) rfl).1 (pc' := 71) (L' := [(0, .ref 120), (1, .ref 1), (2, .int (0 : Int32)), (3, .int (3 : Int32)), (4, .int (16 : Int32)), (5, .int (21 : Int32))]) (rest := [.int (21 : Int32)]) (Ps := []) (L0 := [(0, .ref 1)]) h_m102 (z_at.mk 3 rfl rfl) (Or.inl ⟨rfl, rfl⟩) rfl rfl (by decide) (by decide) rfl rfl rfl rfl rfl rfl (by decide) rfl rfl rfl ?_
  refine w_p h_m293 1 (pc' := 1) (L' := [(0, .ref 1)]) (st' := [.ref 1]) rfl ?_
  refine w_gs H (pc' := 4) (L' := [(0, .ref 1)]) h_m293 (z_at.mk 3 rfl rfl) rfl (by decide) rfl rfl rfl rfl ?_
  refine w_lene H (x := (39 : Int32)) (pc' := 5) (L' := [(0, .ref 1)]) h_m293 (z_at.mk 1 rfl rfl) (by decide) rfl (by decide) rfl rfl rfl ?_
  refine w_p h_m293 1 (pc' := 6) (L' := [(0, .ref 1)]) (st' := [.ref 1, .int (39 : Int32)]) rfl ?_
  refine w_cv (H.te (by decide) rfl).1 (pc' := 9) (L' := [(0, .ref 1)]) (rest := [.int (39 : Int32)]) (Ps := []) (L0 := [(0, .ref 1)]) h_m293 (z_at.mk 3 rfl rfl) (Or.inl ⟨rfl, rfl⟩) rfl rfl (by decide) (by decide) rfl rfl rfl rfl rfl rfl (by decide) rfl rfl rfl ?_
  refine w_p h_m298 3 (pc' := 7) (L' := [(0, .ref 1)]) (st' := [.ref 1]) rfl ?_
  refine w_gs H (pc' := 10) (L' := [(0, .ref 1)]) h_m298 (z_at.mk 3 rfl rfl) rfl (by decide) rfl rfl rfl rfl ?_
  refine w_p h_m298 1 (pc' := 14) (L' := []) (st' := [.int (0 : Int32)]) rfl ?_
  refine w_ri h_m298 (z_at.mk 1 rfl rfl) rfl rfl ?_
  show z_W 996 293 9 [(0, .ref 1)] [.int (0 : Int32), .int (39 : Int32)] m _
  refine w_p h_m293 1 (pc' := 10) (L' := [(0, .ref 1)]) (st' := [.int (39 : Int32)]) rfl ?_
  refine w_ri h_m293 (z_at.mk 1 rfl rfl) rfl rfl ?_
  show z_W 997 102 71 [(0, .ref 120), (1, .ref 1), (2, .int (0 : Int32)), (3, .int (3 : Int32)), (4, .int (16 : Int32)), (5, .int (21 : Int32))] [.int (39 : Int32), .int (21 : Int32)] m _
  refine w_p h_m102 3 (pc' := 77) (L' := [(0, .ref 120), (1, .ref 1), (2, .int (0 : Int32)), (3, .int (3 : Int32)), (4, .int (16 : Int32)), (5, .int (21 : Int32))]) (st' := [.int (21 : Int32), .ref 1]) rfl ?_
  refine w_cv (H.te (by decide) rfl).1 (pc' := 80) (L' := [(0, .ref 120), (1, .ref 1), (2, .int (0 : Int32)), (3, .int (3 : Int32)), (4, .int (16 : Int32)), (5, .int (21 : Int32))]) (rest := []) (Ps := [.int (21 : Int32)]) (L0 := [(0, .ref 1), (1, .int (21 : Int32))]) h_m102 (z_at.mk 3 rfl rfl) (Or.inl ⟨rfl, rfl⟩) rfl rfl (by decide) (by decide) rfl rfl rfl rfl rfl rfl (by decide) rfl rfl rfl ?_
  refine w_p h_m294 1 (pc' := 1) (L' := [(0, .ref 1), (1, .int (21 : Int32))]) (st' := [.ref 1]) rfl ?_
  refine w_cv (H.te (by decide) rfl).1 (pc' := 4) (L' := [(0, .ref 1), (1, .int (21 : Int32))]) (rest := []) (Ps := []) (L0 := [(0, .ref 1)]) h_m294 (z_at.mk 3 rfl rfl) (Or.inl ⟨rfl, rfl⟩) rfl rfl (by decide) (by decide) rfl rfl rfl rfl rfl rfl (by decide) rfl rfl rfl ?_
  refine w_p h_m299 3 (pc' := 7) (L' := [(0, .ref 1)]) (st' := [.ref 1]) rfl ?_
  refine w_gs H (pc' := 10) (L' := [(0, .ref 1)]) h_m299 (z_at.mk 3 rfl rfl) rfl (by decide) rfl rfl rfl rfl ?_
  refine w_p h_m299 3 (pc' := 18) (L' := []) (st' := [.int (1 : Int32)]) rfl ?_
  refine w_ri h_m299 (z_at.mk 1 rfl rfl) rfl rfl ?_
  show z_W 996 294 4 [(0, .ref 1), (1, .int (21 : Int32))] [.int (1 : Int32)] m _
  refine w_p h_m294 2 (pc' := 8) (L' := [(0, .ref 1), (1, .int (21 : Int32))]) (st' := [.ref 1]) rfl ?_
  refine w_gs H (pc' := 11) (L' := [(0, .ref 1), (1, .int (21 : Int32))]) h_m294 (z_at.mk 3 rfl rfl) rfl (by decide) rfl rfl rfl rfl ?_
  refine w_p h_m294 1 (pc' := 12) (L' := [(0, .ref 1), (1, .int (21 : Int32))]) (st' := [.int (21 : Int32), .ref 19]) rfl ?_
  refine w_cs (As := [.ref 19, .int (21 : Int32)]) (rest := []) (j := 308) (L0 := [(0, .ref 19), (1, .int (21 : Int32))]) (pc' := 15) (L' := [(0, .ref 1), (1, .int (21 : Int32))]) h_m294 (z_at.mk 3 rfl rfl) (Or.inl ⟨rfl, rfl⟩) rfl rfl rfl rfl rfl ?_
  refine w_p h_m308 2 (pc' := 2) (L' := [(0, .ref 19), (1, .int (21 : Int32))]) (st' := [.ref 19, .int (21 : Int32)]) rfl ?_
  refine w_lene H (x := (39 : Int32)) (pc' := 3) (L' := [(0, .ref 19), (1, .int (21 : Int32))]) h_m308 (z_at.mk 1 rfl rfl) (by decide) rfl (by decide) rfl rfl rfl ?_
  refine w_ci (pc' := 6) (L' := [(0, .ref 19), (1, .int (21 : Int32))]) h_m308 (z_at.mk 3 rfl rfl) rfl (z_cat_le 0 rfl (by decide)) ⟨by decide, by decide⟩ rfl rfl ?_
  refine w_p h_m308 2 (pc' := 8) (L' := [(0, .ref 19), (1, .int (21 : Int32))]) (st' := [.int (21 : Int32), .ref 19]) rfl ?_
  refine w_ae H (j := 21) (pc' := 9) (L' := [(0, .ref 19), (1, .int (21 : Int32))]) h_m308 (z_at.mk 1 rfl rfl) rfl rfl rfl (by decide) rfl (by decide) rfl rfl rfl ?_
  refine w_p h_m308 3 (pc' := 14) (L' := [(0, .ref 19), (1, .int (21 : Int32))]) (st' := [.int (115 : Int32)]) rfl ?_
  refine w_ri h_m308 (z_at.mk 1 rfl rfl) rfl rfl ?_
  show z_W 996 294 15 [(0, .ref 1), (1, .int (21 : Int32))] [.int (115 : Int32)] m _
  refine w_ri h_m294 (z_at.mk 1 rfl rfl) rfl rfl ?_
  show z_W 997 102 80 [(0, .ref 120), (1, .ref 1), (2, .int (0 : Int32)), (3, .int (3 : Int32)), (4, .int (16 : Int32)), (5, .int (21 : Int32))] [.int (115 : Int32)] m _
  refine w_p h_m102 6 (pc' := 59) (L' := [(0, .ref 120), (1, .ref 1), (2, .int (0 : Int32)), (3, .int (3 : Int32)), (4, .int (16 : Int32)), (5, .int (22 : Int32))]) (st' := [.ref 1, .int (22 : Int32)]) rfl ?_
  refine w_cv (H.te (by decide) rfl).1 (pc' := 62) (L' := [(0, .ref 120), (1, .ref 1), (2, .int (0 : Int32)), (3, .int (3 : Int32)), (4, .int (16 : Int32)), (5, .int (22 : Int32))]) (rest := [.int (22 : Int32)]) (Ps := []) (L0 := [(0, .ref 1)]) h_m102 (z_at.mk 3 rfl rfl) (Or.inl ⟨rfl, rfl⟩) rfl rfl (by decide) (by decide) rfl rfl rfl rfl rfl rfl (by decide) rfl rfl rfl ?_
  refine w_p h_m293 1 (pc' := 1) (L' := [(0, .ref 1)]) (st' := [.ref 1]) rfl ?_
  refine w_gs H (pc' := 4) (L' := [(0, .ref 1)]) h_m293 (z_at.mk 3 rfl rfl) rfl (by decide) rfl rfl rfl rfl ?_
  refine w_lene H (x := (39 : Int32)) (pc' := 5) (L' := [(0, .ref 1)]) h_m293 (z_at.mk 1 rfl rfl) (by decide) rfl (by decide) rfl rfl rfl ?_
  refine w_p h_m293 1 (pc' := 6) (L' := [(0, .ref 1)]) (st' := [.ref 1, .int (39 : Int32)]) rfl ?_
  refine w_cv (H.te (by decide) rfl).1 (pc' := 9) (L' := [(0, .ref 1)]) (rest := [.int (39 : Int32)]) (Ps := []) (L0 := [(0, .ref 1)]) h_m293 (z_at.mk 3 rfl rfl) (Or.inl ⟨rfl, rfl⟩) rfl rfl (by decide) (by decide) rfl rfl rfl rfl rfl rfl (by decide) rfl rfl rfl ?_
  refine w_p h_m298 3 (pc' := 7) (L' := [(0, .ref 1)]) (st' := [.ref 1]) rfl ?_
  refine w_gs H (pc' := 10) (L' := [(0, .ref 1)]) h_m298 (z_at.mk 3 rfl rfl) rfl (by decide) rfl rfl rfl rfl ?_
  refine w_p h_m298 1 (pc' := 14) (L' := []) (st' := [.int (0 : Int32)]) rfl ?_
  refine w_ri h_m298 (z_at.mk 1 rfl rfl) rfl rfl ?_
  show z_W 996 293 9 [(0, .ref 1)] [.int (0 : Int32), .int (39 : Int32)] m _
  refine w_p h_m293 1 (pc' := 10) (L' := [(0, .ref 1)]) (st' := [.int (39 : Int32)]) rfl ?_
  refine w_ri h_m293 (z_at.mk 1 rfl rfl) rfl rfl ?_
  show z_W 997 102 62 [(0, .ref 120), (1, .ref 1), (2, .int (0 : Int32)), (3, .int (3 : Int32)), (4, .int (16 : Int32)), (5, .int (22 : Int32))] [.int (39 : Int32), .int (22 : Int32)] m _
  refine w_p h_m102 3 (pc' := 68) (L' := [(0, .ref 120), (1, .ref 1), (2, .int (0 : Int32)), (3, .int (3 : Int32)), (4, .int (16 : Int32)), (5, .int (22 : Int32))]) (st' := [.ref 1, .int (22 : Int32)]) rfl ?_
  refine w_cv (H.te (by decide) rfl).1 (pc' := 71) (L' := [(0, .ref 120), (1, .ref 1), (2, .int (0 : Int32)), (3, .int (3 : Int32)), (4, .int (16 : Int32)), (5, .int (22 : Int32))]) (rest := [.int (22 : Int32)]) (Ps := []) (L0 := [(0, .ref 1)]) h_m102 (z_at.mk 3 rfl rfl) (Or.inl ⟨rfl, rfl⟩) rfl rfl (by decide) (by decide) rfl rfl rfl rfl rfl rfl (by decide) rfl rfl rfl ?_
  refine w_p h_m293 1 (pc' := 1) (L' := [(0, .ref 1)]) (st' := [.ref 1]) rfl ?_
  refine w_gs H (pc' := 4) (L' := [(0, .ref 1)]) h_m293 (z_at.mk 3 rfl rfl) rfl (by decide) rfl rfl rfl rfl ?_
  refine w_lene H (x := (39 : Int32)) (pc' := 5) (L' := [(0, .ref 1)]) h_m293 (z_at.mk 1 rfl rfl) (by decide) rfl (by decide) rfl rfl rfl ?_
  refine w_p h_m293 1 (pc' := 6) (L' := [(0, .ref 1)]) (st' := [.ref 1, .int (39 : Int32)]) rfl ?_
  refine w_cv (H.te (by decide) rfl).1 (pc' := 9) (L' := [(0, .ref 1)]) (rest := [.int (39 : Int32)]) (Ps := []) (L0 := [(0, .ref 1)]) h_m293 (z_at.mk 3 rfl rfl) (Or.inl ⟨rfl, rfl⟩) rfl rfl (by decide) (by decide) rfl rfl rfl rfl rfl rfl (by decide) rfl rfl rfl ?_
  refine w_p h_m298 3 (pc' := 7) (L' := [(0, .ref 1)]) (st' := [.ref 1]) rfl ?_
  refine w_gs H (pc' := 10) (L' := [(0, .ref 1)]) h_m298 (z_at.mk 3 rfl rfl) rfl (by decide) rfl rfl rfl rfl ?_
  refine w_p h_m298 1 (pc' := 14) (L' := []) (st' := [.int (0 : Int32)]) rfl ?_
  refine w_ri h_m298 (z_at.mk 1 rfl rfl) rfl rfl ?_
  show z_W 996 293 9 [(0, .ref 1)] [.int (0 : Int32), .int (39 : Int32)] m _
  refine w_p h_m293 1 (pc' := 10) (L' := [(0, .ref 1)]) (st' := [.int (39 : Int32)]) rfl ?_
  refine w_ri h_m293 (z_at.mk 1 rfl rfl) rfl rfl ?_
  show z_W 997 102 71 [(0, .ref 120), (1, .ref 1), (2, .int (0 : Int32)), (3, .int (3 : Int32)), (4, .int (16 : Int32)), (5, .int (22 : Int32))] [.int (39 : Int32), .int (22 : Int32)] m _
  refine w_p h_m102 3 (pc' := 77) (L' := [(0, .ref 120), (1, .ref 1), (2, .int (0 : Int32)), (3, .int (3 : Int32)), (4, .int (16 : Int32)), (5, .int (22 : Int32))]) (st' := [.int (22 : Int32), .ref 1]) rfl ?_
  refine w_cv (H.te (by decide) rfl).1 (pc' := 80) (L' := [(0, .ref 120), (1, .ref 1), (2, .int (0 : Int32)), (3, .int (3 : Int32)), (4, .int (16 : Int32)), (5, .int (22 : Int32))]) (rest := []) (Ps := [.int (22 : Int32)]) (L0 := [(0, .ref 1), (1, .int (22 : Int32))]) h_m102 (z_at.mk 3 rfl rfl) (Or.inl ⟨rfl, rfl⟩) rfl rfl (by decide) (by decide) rfl rfl rfl rfl rfl rfl (by decide) rfl rfl rfl ?_
  refine w_p h_m294 1 (pc' := 1) (L' := [(0, .ref 1), (1, .int (22 : Int32))]) (st' := [.ref 1]) rfl ?_
  refine w_cv (H.te (by decide) rfl).1 (pc' := 4) (L' := [(0, .ref 1), (1, .int (22 : Int32))]) (rest := []) (Ps := []) (L0 := [(0, .ref 1)]) h_m294 (z_at.mk 3 rfl rfl) (Or.inl ⟨rfl, rfl⟩) rfl rfl (by decide) (by decide) rfl rfl rfl rfl rfl rfl (by decide) rfl rfl rfl ?_
  refine w_p h_m299 3 (pc' := 7) (L' := [(0, .ref 1)]) (st' := [.ref 1]) rfl ?_
  refine w_gs H (pc' := 10) (L' := [(0, .ref 1)]) h_m299 (z_at.mk 3 rfl rfl) rfl (by decide) rfl rfl rfl rfl ?_
  refine w_p h_m299 3 (pc' := 18) (L' := []) (st' := [.int (1 : Int32)]) rfl ?_
  refine w_ri h_m299 (z_at.mk 1 rfl rfl) rfl rfl ?_
  show z_W 996 294 4 [(0, .ref 1), (1, .int (22 : Int32))] [.int (1 : Int32)] m _
  refine w_p h_m294 2 (pc' := 8) (L' := [(0, .ref 1), (1, .int (22 : Int32))]) (st' := [.ref 1]) rfl ?_
  refine w_gs H (pc' := 11) (L' := [(0, .ref 1), (1, .int (22 : Int32))]) h_m294 (z_at.mk 3 rfl rfl) rfl (by decide) rfl rfl rfl rfl ?_
  refine w_p h_m294 1 (pc' := 12) (L' := [(0, .ref 1), (1, .int (22 : Int32))]) (st' := [.int (22 : Int32), .ref 19]) rfl ?_
  refine w_cs (As := [.ref 19, .int (22 : Int32)]) (rest := []) (j := 308) (L0 := [(0, .ref 19), (1, .int (22 : Int32))]) (pc' := 15) (L' := [(0, .ref 1), (1, .int (22 : Int32))]) h_m294 (z_at.mk 3 rfl rfl) (Or.inl ⟨rfl, rfl⟩) rfl rfl rfl rfl rfl ?_
  refine w_p h_m308 2 (pc' := 2) (L' := [(0, .ref 19), (1, .int (22 : Int32))]) (st' := [.ref 19, .int (22 : Int32)]) rfl ?_
  refine w_lene H (x := (39 : Int32)) (pc' := 3) (L' := [(0, .ref 19), (1, .int (22 : Int32))]) h_m308 (z_at.mk 1 rfl rfl) (by decide) rfl (by decide) rfl rfl rfl ?_
  refine w_ci (pc' := 6) (L' := [(0, .ref 19), (1, .int (22 : Int32))]) h_m308 (z_at.mk 3 rfl rfl) rfl (z_cat_le 0 rfl (by decide)) ⟨by decide, by decide⟩ rfl rfl ?_
  refine w_p h_m308 2 (pc' := 8) (L' := [(0, .ref 19), (1, .int (22 : Int32))]) (st' := [.int (22 : Int32), .ref 19]) rfl ?_
  refine w_ae H (j := 22) (pc' := 9) (L' := [(0, .ref 19), (1, .int (22 : Int32))]) h_m308 (z_at.mk 1 rfl rfl) rfl rfl rfl (by decide) rfl (by decide) rfl rfl rfl ?_
  refine w_p h_m308 3 (pc' := 14) (L' := [(0, .ref 19), (1, .int (22 : Int32))]) (st' := [.int (32 : Int32)]) rfl ?_
  refine w_ri h_m308 (z_at.mk 1 rfl rfl) rfl rfl ?_
  show z_W 996 294 15 [(0, .ref 1), (1, .int (22 : Int32))] [.int (32 : Int32)] m _
  refine w_ri h_m294 (z_at.mk 1 rfl rfl) rfl rfl ?_
  show z_W 997 102 80 [(0, .ref 120), (1, .ref 1), (2, .int (0 : Int32)), (3, .int (3 : Int32)), (4, .int (16 : Int32)), (5, .int (22 : Int32))] [.int (32 : Int32)] m _
  refine w_p h_m102 7 (pc' := 92) (L' := [(0, .ref 120), (1, .ref 1), (2, .int (0 : Int32)), (3, .int (3 : Int32)), (4, .int (16 : Int32)), (5, .int (22 : Int32))]) (st' := [.int (0 : Int32), .int (22 : Int32), .int (16 : Int32), .ref 1, .ref 120]) rfl ?_
  refine w_cv (H.t rfl) (pc' := 95) (L' := [(0, .ref 120), (1, .ref 1), (2, .int (0 : Int32)), (3, .int (3 : Int32)), (4, .int (16 : Int32)), (5, .int (22 : Int32))]) (rest := []) (Ps := [.ref 1, .int (16 : Int32), .int (22 : Int32), .int (0 : Int32)]) (L0 := [(0, .ref 120), (1, .ref 1), (2, .int (16 : Int32)), (3, .int (22 : Int32)), (4, .int (0 : Int32))]) h_m102 (z_at.mk 3 rfl rfl) (Or.inl ⟨rfl, rfl⟩) rfl rfl (by decide) (by decide) rfl rfl rfl rfl rfl rfl (by decide) rfl rfl rfl ?_
  refine w_p h_m103 1 (pc' := 1) (L' := [(0, .ref 120), (1, .ref 1), (2, .int (16 : Int32)), (3, .int (22 : Int32)), (4, .int (0 : Int32))]) (st' := [.ref 120]) rfl ?_
  refine w_cv (H.t rfl) (pc' := 4) (L' := [(0, .ref 120), (1, .ref 1), (2, .int (16 : Int32)), (3, .int (22 : Int32)), (4, .int (0 : Int32))]) (rest := []) (Ps := []) (L0 := [(0, .ref 120)]) h_m103 (z_at.mk 3 rfl rfl) (Or.inl ⟨rfl, rfl⟩) rfl rfl (by decide) (by decide) rfl rfl rfl rfl rfl rfl (by decide) rfl rfl rfl ?_
  refine w_p h_m93 1 (pc' := 1) (L' := [(0, .ref 120)]) (st' := [.ref 120]) rfl ?_
  refine w_gf H (pc' := 4) (L' := [(0, .ref 120)]) h_m93 (z_at.mk 3 rfl rfl) rfl (u := .int (-1 : Int32)) rfl rfl rfl ?_
  refine w_p h_m93 4 (pc' := 13) (L' := []) (st' := [.int (1 : Int32)]) rfl ?_
  refine w_ri h_m93 (z_at.mk 1 rfl rfl) rfl rfl ?_
  show z_W 996 103 4 [(0, .ref 120), (1, .ref 1), (2, .int (16 : Int32)), (3, .int (22 : Int32)), (4, .int (0 : Int32))] [.int (1 : Int32)] m _
  refine w_p h_m103 4 (pc' := 13) (L' := [(0, .ref 120), (1, .ref 1), (2, .int (16 : Int32)), (3, .int (22 : Int32)), (4, .int (0 : Int32))]) (st' := [.ref 120]) rfl ?_
  refine w_gf H (pc' := 16) (L' := [(0, .ref 120), (1, .ref 1), (2, .int (16 : Int32)), (3, .int (22 : Int32)), (4, .int (0 : Int32))]) h_m103 (z_at.mk 3 rfl rfl) rfl (u := .int (0 : Int32)) rfl rfl rfl ?_
  refine w_p h_m103 3 (pc' := 23) (L' := [(0, .ref 120), (1, .ref 1), (2, .int (16 : Int32)), (3, .int (22 : Int32)), (4, .int (0 : Int32))]) (st' := [.ref 120]) rfl ?_
  refine w_gf H (pc' := 26) (L' := [(0, .ref 120), (1, .ref 1), (2, .int (16 : Int32)), (3, .int (22 : Int32)), (4, .int (0 : Int32))]) h_m103 (z_at.mk 3 rfl rfl) rfl (u := .int (0 : Int32)) rfl rfl rfl ?_
  refine w_p h_m103 7 (pc' := 36) (L' := []) (st' := [.int (0 : Int32)]) rfl ?_
  refine w_ri h_m103 (z_at.mk 1 rfl rfl) rfl rfl ?_
  show z_W 997 102 95 [(0, .ref 120), (1, .ref 1), (2, .int (0 : Int32)), (3, .int (3 : Int32)), (4, .int (16 : Int32)), (5, .int (22 : Int32))] [.int (0 : Int32)] m _
  refine w_p h_m102 10 (pc' := 59) (L' := [(0, .ref 120), (1, .ref 1), (2, .int (0 : Int32)), (3, .int (4 : Int32)), (4, .int (23 : Int32)), (5, .int (23 : Int32))]) (st' := [.ref 1, .int (23 : Int32)]) rfl ?_
  refine w_cv (H.te (by decide) rfl).1 (pc' := 62) (L' := [(0, .ref 120), (1, .ref 1), (2, .int (0 : Int32)), (3, .int (4 : Int32)), (4, .int (23 : Int32)), (5, .int (23 : Int32))]) (rest := [.int (23 : Int32)]) (Ps := []) (L0 := [(0, .ref 1)]) h_m102 (z_at.mk 3 rfl rfl) (Or.inl ⟨rfl, rfl⟩) rfl rfl (by decide) (by decide) rfl rfl rfl rfl rfl rfl (by decide) rfl rfl rfl ?_
  refine w_p h_m293 1 (pc' := 1) (L' := [(0, .ref 1)]) (st' := [.ref 1]) rfl ?_
  refine w_gs H (pc' := 4) (L' := [(0, .ref 1)]) h_m293 (z_at.mk 3 rfl rfl) rfl (by decide) rfl rfl rfl rfl ?_
  refine w_lene H (x := (39 : Int32)) (pc' := 5) (L' := [(0, .ref 1)]) h_m293 (z_at.mk 1 rfl rfl) (by decide) rfl (by decide) rfl rfl rfl ?_
  refine w_p h_m293 1 (pc' := 6) (L' := [(0, .ref 1)]) (st' := [.ref 1, .int (39 : Int32)]) rfl ?_
  refine w_cv (H.te (by decide) rfl).1 (pc' := 9) (L' := [(0, .ref 1)]) (rest := [.int (39 : Int32)]) (Ps := []) (L0 := [(0, .ref 1)]) h_m293 (z_at.mk 3 rfl rfl) (Or.inl ⟨rfl, rfl⟩) rfl rfl (by decide) (by decide) rfl rfl rfl rfl rfl rfl (by decide) rfl rfl rfl ?_
  refine w_p h_m298 3 (pc' := 7) (L' := [(0, .ref 1)]) (st' := [.ref 1]) rfl ?_
  refine w_gs H (pc' := 10) (L' := [(0, .ref 1)]) h_m298 (z_at.mk 3 rfl rfl) rfl (by decide) rfl rfl rfl rfl ?_
  refine w_p h_m298 1 (pc' := 14) (L' := []) (st' := [.int (0 : Int32)]) rfl ?_
  refine w_ri h_m298 (z_at.mk 1 rfl rfl) rfl rfl ?_
  show z_W 996 293 9 [(0, .ref 1)] [.int (0 : Int32), .int (39 : Int32)] m _
  refine w_p h_m293 1 (pc' := 10) (L' := [(0, .ref 1)]) (st' := [.int (39 : Int32)]) rfl ?_
  refine w_ri h_m293 (z_at.mk 1 rfl rfl) rfl rfl ?_
  show z_W 997 102 62 [(0, .ref 120), (1, .ref 1), (2, .int (0 : Int32)), (3, .int (4 : Int32)), (4, .int (23 : Int32)), (5, .int (23 : Int32))] [.int (39 : Int32), .int (23 : Int32)] m _
  refine w_p h_m102 3 (pc' := 68) (L' := [(0, .ref 120), (1, .ref 1), (2, .int (0 : Int32)), (3, .int (4 : Int32)), (4, .int (23 : Int32)), (5, .int (23 : Int32))]) (st' := [.ref 1, .int (23 : Int32)]) rfl ?_
  refine w_cv (H.te (by decide) rfl).1 (pc' := 71) (L' := [(0, .ref 120), (1, .ref 1), (2, .int (0 : Int32)), (3, .int (4 : Int32)), (4, .int (23 : Int32)), (5, .int (23 : Int32))]) (rest := [.int (23 : Int32)]) (Ps := []) (L0 := [(0, .ref 1)]) h_m102 (z_at.mk 3 rfl rfl) (Or.inl ⟨rfl, rfl⟩) rfl rfl (by decide) (by decide) rfl rfl rfl rfl rfl rfl (by decide) rfl rfl rfl ?_
  refine w_p h_m293 1 (pc' := 1) (L' := [(0, .ref 1)]) (st' := [.ref 1]) rfl ?_
  refine w_gs H (pc' := 4) (L' := [(0, .ref 1)]) h_m293 (z_at.mk 3 rfl rfl) rfl (by decide) rfl rfl rfl rfl ?_
  refine w_lene H (x := (39 : Int32)) (pc' := 5) (L' := [(0, .ref 1)]) h_m293 (z_at.mk 1 rfl rfl) (by decide) rfl (by decide) rfl rfl rfl ?_
  refine w_p h_m293 1 (pc' := 6) (L' := [(0, .ref 1)]) (st' := [.ref 1, .int (39 : Int32)]) rfl ?_
  refine w_cv (H.te (by decide) rfl).1 (pc' := 9) (L' := [(0, .ref 1)]) (rest := [.int (39 : Int32)]) (Ps := []) (L0 := [(0, .ref 1)]) h_m293 (z_at.mk 3 rfl rfl) (Or.inl ⟨rfl, rfl⟩) rfl rfl (by decide) (by decide) rfl rfl rfl rfl rfl rfl (by decide) rfl rfl rfl ?_
  refine w_p h_m298 3 (pc' := 7) (L' := [(0, .ref 1)]) (st' := [.ref 1]) rfl ?_
  refine w_gs H (pc' := 10) (L' := [(0, .ref 1)]) h_m298 (z_at.mk 3 rfl rfl) rfl (by decide) rfl rfl rfl rfl ?_
  refine w_p h_m298 1 (pc' := 14) (L' := []) (st' := [.int (0 : Int32)]) rfl ?_
  refine w_ri h_m298 (z_at.mk 1 rfl rfl) rfl rfl ?_
  show z_W 996 293 9 [(0, .ref 1)] [.int (0 : Int32), .int (39 : Int32)] m _
  refine w_p h_m293 1 (pc' := 10) (L' := [(0, .ref 1)]) (st' := [.int (39 : Int32)]) rfl ?_
  refine w_ri h_m293 (z_at.mk 1 rfl rfl) rfl rfl ?_
  show z_W 997 102 71 [(0, .ref 120), (1, .ref 1), (2, .int (0 : Int32)), (3, .int (4 : Int32)), (4, .int (23 : Int32)), (5, .int (23 : Int32))] [.int (39 : Int32), .int (23 : Int32)] m _
  refine w_p h_m102 3 (pc' := 77) (L' := [(0, .ref 120), (1, .ref 1), (2, .int (0 : Int32)), (3, .int (4 : Int32)), (4, .int (23 : Int32)), (5, .int (23 : Int32))]) (st' := [.int (23 : Int32), .ref 1]) rfl ?_
  refine w_cv (H.te (by decide) rfl).1 (pc' := 80) (L' := [(0, .ref 120), (1, .ref 1), (2, .int (0 : Int32)), (3, .int (4 : Int32)), (4, .int (23 : Int32)), (5, .int (23 : Int32))]) (rest := []) (Ps := [.int (23 : Int32)]) (L0 := [(0, .ref 1), (1, .int (23 : Int32))]) h_m102 (z_at.mk 3 rfl rfl) (Or.inl ⟨rfl, rfl⟩) rfl rfl (by decide) (by decide) rfl rfl rfl rfl rfl rfl (by decide) rfl rfl rfl ?_
  refine w_p h_m294 1 (pc' := 1) (L' := [(0, .ref 1), (1, .int (23 : Int32))]) (st' := [.ref 1]) rfl ?_
  refine w_cv (H.te (by decide) rfl).1 (pc' := 4) (L' := [(0, .ref 1), (1, .int (23 : Int32))]) (rest := []) (Ps := []) (L0 := [(0, .ref 1)]) h_m294 (z_at.mk 3 rfl rfl) (Or.inl ⟨rfl, rfl⟩) rfl rfl (by decide) (by decide) rfl rfl rfl rfl rfl rfl (by decide) rfl rfl rfl ?_
  refine w_p h_m299 3 (pc' := 7) (L' := [(0, .ref 1)]) (st' := [.ref 1]) rfl ?_
  refine w_gs H (pc' := 10) (L' := [(0, .ref 1)]) h_m299 (z_at.mk 3 rfl rfl) rfl (by decide) rfl rfl rfl rfl ?_
  refine w_p h_m299 3 (pc' := 18) (L' := []) (st' := [.int (1 : Int32)]) rfl ?_
  refine w_ri h_m299 (z_at.mk 1 rfl rfl) rfl rfl ?_
  show z_W 996 294 4 [(0, .ref 1), (1, .int (23 : Int32))] [.int (1 : Int32)] m _
  refine w_p h_m294 2 (pc' := 8) (L' := [(0, .ref 1), (1, .int (23 : Int32))]) (st' := [.ref 1]) rfl ?_
  refine w_gs H (pc' := 11) (L' := [(0, .ref 1), (1, .int (23 : Int32))]) h_m294 (z_at.mk 3 rfl rfl) rfl (by decide) rfl rfl rfl rfl ?_
  refine w_p h_m294 1 (pc' := 12) (L' := [(0, .ref 1), (1, .int (23 : Int32))]) (st' := [.int (23 : Int32), .ref 19]) rfl ?_
  refine w_cs (As := [.ref 19, .int (23 : Int32)]) (rest := []) (j := 308) (L0 := [(0, .ref 19), (1, .int (23 : Int32))]) (pc' := 15) (L' := [(0, .ref 1), (1, .int (23 : Int32))]) h_m294 (z_at.mk 3 rfl rfl) (Or.inl ⟨rfl, rfl⟩) rfl rfl rfl rfl rfl ?_
  refine w_p h_m308 2 (pc' := 2) (L' := [(0, .ref 19), (1, .int (23 : Int32))]) (st' := [.ref 19, .int (23 : Int32)]) rfl ?_
  refine w_lene H (x := (39 : Int32)) (pc' := 3) (L' := [(0, .ref 19), (1, .int (23 : Int32))]) h_m308 (z_at.mk 1 rfl rfl) (by decide) rfl (by decide) rfl rfl rfl ?_
  refine w_ci (pc' := 6) (L' := [(0, .ref 19), (1, .int (23 : Int32))]) h_m308 (z_at.mk 3 rfl rfl) rfl (z_cat_le 0 rfl (by decide)) ⟨by decide, by decide⟩ rfl rfl ?_
  refine w_p h_m308 2 (pc' := 8) (L' := [(0, .ref 19), (1, .int (23 : Int32))]) (st' := [.int (23 : Int32), .ref 19]) rfl ?_
  refine w_ae H (j := 23) (pc' := 9) (L' := [(0, .ref 19), (1, .int (23 : Int32))]) h_m308 (z_at.mk 1 rfl rfl) rfl rfl rfl (by decide) rfl (by decide) rfl rfl rfl ?_
  refine w_p h_m308 3 (pc' := 14) (L' := [(0, .ref 19), (1, .int (23 : Int32))]) (st' := [.int (109 : Int32)]) rfl ?_
  refine w_ri h_m308 (z_at.mk 1 rfl rfl) rfl rfl ?_
  show z_W 996 294 15 [(0, .ref 1), (1, .int (23 : Int32))] [.int (109 : Int32)] m _
  refine w_ri h_m294 (z_at.mk 1 rfl rfl) rfl rfl ?_
  show z_W 997 102 80 [(0, .ref 120), (1, .ref 1), (2, .int (0 : Int32)), (3, .int (4 : Int32)), (4, .int (23 : Int32)), (5, .int (23 : Int32))] [.int (109 : Int32)] m _
  refine w_p h_m102 6 (pc' := 59) (L' := [(0, .ref 120), (1, .ref 1), (2, .int (0 : Int32)), (3, .int (4 : Int32)), (4, .int (23 : Int32)), (5, .int (24 : Int32))]) (st' := [.ref 1, .int (24 : Int32)]) rfl ?_
  refine w_cv (H.te (by decide) rfl).1 (pc' := 62) (L' := [(0, .ref 120), (1, .ref 1), (2, .int (0 : Int32)), (3, .int (4 : Int32)), (4, .int (23 : Int32)), (5, .int (24 : Int32))]) (rest := [.int (24 : Int32)]) (Ps := []) (L0 := [(0, .ref 1)]) h_m102 (z_at.mk 3 rfl rfl) (Or.inl ⟨rfl, rfl⟩) rfl rfl (by decide) (by decide) rfl rfl rfl rfl rfl rfl (by decide) rfl rfl rfl ?_
  refine w_p h_m293 1 (pc' := 1) (L' := [(0, .ref 1)]) (st' := [.ref 1]) rfl ?_
  refine w_gs H (pc' := 4) (L' := [(0, .ref 1)]) h_m293 (z_at.mk 3 rfl rfl) rfl (by decide) rfl rfl rfl rfl ?_
  refine w_lene H (x := (39 : Int32)) (pc' := 5) (L' := [(0, .ref 1)]) h_m293 (z_at.mk 1 rfl rfl) (by decide) rfl (by decide) rfl rfl rfl ?_
  refine w_p h_m293 1 (pc' := 6) (L' := [(0, .ref 1)]) (st' := [.ref 1, .int (39 : Int32)]) rfl ?_
  refine w_cv (H.te (by decide) rfl).1 (pc' := 9) (L' := [(0, .ref 1)]) (rest := [.int (39 : Int32)]) (Ps := []) (L0 := [(0, .ref 1)]) h_m293 (z_at.mk 3 rfl rfl) (Or.inl ⟨rfl, rfl⟩) rfl rfl (by decide) (by decide) rfl rfl rfl rfl rfl rfl (by decide) rfl rfl rfl ?_
  refine w_p h_m298 3 (pc' := 7) (L' := [(0, .ref 1)]) (st' := [.ref 1]) rfl ?_
  refine w_gs H (pc' := 10) (L' := [(0, .ref 1)]) h_m298 (z_at.mk 3 rfl rfl) rfl (by decide) rfl rfl rfl rfl ?_
  refine w_p h_m298 1 (pc' := 14) (L' := []) (st' := [.int (0 : Int32)]) rfl ?_
  refine w_ri h_m298 (z_at.mk 1 rfl rfl) rfl rfl ?_
  show z_W 996 293 9 [(0, .ref 1)] [.int (0 : Int32), .int (39 : Int32)] m _
  refine w_p h_m293 1 (pc' := 10) (L' := [(0, .ref 1)]) (st' := [.int (39 : Int32)]) rfl ?_
  refine w_ri h_m293 (z_at.mk 1 rfl rfl) rfl rfl ?_
  show z_W 997 102 62 [(0, .ref 120), (1, .ref 1), (2, .int (0 : Int32)), (3, .int (4 : Int32)), (4, .int (23 : Int32)), (5, .int (24 : Int32))] [.int (39 : Int32), .int (24 : Int32)] m _
  refine w_p h_m102 3 (pc' := 68) (L' := [(0, .ref 120), (1, .ref 1), (2, .int (0 : Int32)), (3, .int (4 : Int32)), (4, .int (23 : Int32)), (5, .int (24 : Int32))]) (st' := [.ref 1, .int (24 : Int32)]) rfl ?_
  refine w_cv (H.te (by decide) rfl).1 (pc' := 71) (L' := [(0, .ref 120), (1, .ref 1), (2, .int (0 : Int32)), (3, .int (4 : Int32)), (4, .int (23 : Int32)), (5, .int (24 : Int32))]) (rest := [.int (24 : Int32)]) (Ps := []) (L0 := [(0, .ref 1)]) h_m102 (z_at.mk 3 rfl rfl) (Or.inl ⟨rfl, rfl⟩) rfl rfl (by decide) (by decide) rfl rfl rfl rfl rfl rfl (by decide) rfl rfl rfl ?_
  refine w_p h_m293 1 (pc' := 1) (L' := [(0, .ref 1)]) (st' := [.ref 1]) rfl ?_
  refine w_gs H (pc' := 4) (L' := [(0, .ref 1)]) h_m293 (z_at.mk 3 rfl rfl) rfl (by decide) rfl rfl rfl rfl ?_
  refine w_lene H (x := (39 : Int32)) (pc' := 5) (L' := [(0, .ref 1)]) h_m293 (z_at.mk 1 rfl rfl) (by decide) rfl (by decide) rfl rfl rfl ?_
  refine w_p h_m293 1 (pc' := 6) (L' := [(0, .ref 1)]) (st' := [.ref 1, .int (39 : Int32)]) rfl ?_
  refine w_cv (H.te (by decide) rfl).1 (pc' := 9) (L' := [(0, .ref 1)]) (rest := [.int (39 : Int32)]) (Ps := []) (L0 := [(0, .ref 1)]) h_m293 (z_at.mk 3 rfl rfl) (Or.inl ⟨rfl, rfl⟩) rfl rfl (by decide) (by decide) rfl rfl rfl rfl rfl rfl (by decide) rfl rfl rfl ?_
  refine w_p h_m298 3 (pc' := 7) (L' := [(0, .ref 1)]) (st' := [.ref 1]) rfl ?_
  refine w_gs H (pc' := 10) (L' := [(0, .ref 1)]) h_m298 (z_at.mk 3 rfl rfl) rfl (by decide) rfl rfl rfl rfl ?_
  refine w_p h_m298 1 (pc' := 14) (L' := []) (st' := [.int (0 : Int32)]) rfl ?_
  refine w_ri h_m298 (z_at.mk 1 rfl rfl) rfl rfl ?_
  show z_W 996 293 9 [(0, .ref 1)] [.int (0 : Int32), .int (39 : Int32)] m _
  refine w_p h_m293 1 (pc' := 10) (L' := [(0, .ref 1)]) (st' := [.int (39 : Int32)]) rfl ?_
  refine w_ri h_m293 (z_at.mk 1 rfl rfl) rfl rfl ?_
  show z_W 997 102 71 [(0, .ref 120), (1, .ref 1), (2, .int (0 : Int32)), (3, .int (4 : Int32)), (4, .int (23 : Int32)), (5, .int (24 : Int32))] [.int (39 : Int32), .int (24 : Int32)] m _
  refine w_p h_m102 3 (pc' := 77) (L' := [(0, .ref 120), (1, .ref 1), (2, .int (0 : Int32)), (3, .int (4 : Int32)), (4, .int (23 : Int32)), (5, .int (24 : Int32))]) (st' := [.int (24 : Int32), .ref 1]) rfl ?_
  refine w_cv (H.te (by decide) rfl).1 (pc' := 80) (L' := [(0, .ref 120), (1, .ref 1), (2, .int (0 : Int32)), (3, .int (4 : Int32)), (4, .int (23 : Int32)), (5, .int (24 : Int32))]) (rest := []) (Ps := [.int (24 : Int32)]) (L0 := [(0, .ref 1), (1, .int (24 : Int32))]) h_m102 (z_at.mk 3 rfl rfl) (Or.inl ⟨rfl, rfl⟩) rfl rfl (by decide) (by decide) rfl rfl rfl rfl rfl rfl (by decide) rfl rfl rfl ?_
  refine w_p h_m294 1 (pc' := 1) (L' := [(0, .ref 1), (1, .int (24 : Int32))]) (st' := [.ref 1]) rfl ?_
  refine w_cv (H.te (by decide) rfl).1 (pc' := 4) (L' := [(0, .ref 1), (1, .int (24 : Int32))]) (rest := []) (Ps := []) (L0 := [(0, .ref 1)]) h_m294 (z_at.mk 3 rfl rfl) (Or.inl ⟨rfl, rfl⟩) rfl rfl (by decide) (by decide) rfl rfl rfl rfl rfl rfl (by decide) rfl rfl rfl ?_
  refine w_p h_m299 3 (pc' := 7) (L' := [(0, .ref 1)]) (st' := [.ref 1]) rfl ?_
  refine w_gs H (pc' := 10) (L' := [(0, .ref 1)]) h_m299 (z_at.mk 3 rfl rfl) rfl (by decide) rfl rfl rfl rfl ?_
  refine w_p h_m299 3 (pc' := 18) (L' := []) (st' := [.int (1 : Int32)]) rfl ?_
  refine w_ri h_m299 (z_at.mk 1 rfl rfl) rfl rfl ?_
  show z_W 996 294 4 [(0, .ref 1), (1, .int (24 : Int32))] [.int (1 : Int32)] m _
  refine w_p h_m294 2 (pc' := 8) (L' := [(0, .ref 1), (1, .int (24 : Int32))]) (st' := [.ref 1]) rfl ?_
  refine w_gs H (pc' := 11) (L' := [(0, .ref 1), (1, .int (24 : Int32))]) h_m294 (z_at.mk 3 rfl rfl) rfl (by decide) rfl rfl rfl rfl ?_
  refine w_p h_m294 1 (pc' := 12) (L' := [(0, .ref 1), (1, .int (24 : Int32))]) (st' := [.int (24 : Int32), .ref 19]) rfl ?_
  refine w_cs (As := [.ref 19, .int (24 : Int32)]) (rest := []) (j := 308) (L0 := [(0, .ref 19), (1, .int (24 : Int32))]) (pc' := 15) (L' := [(0, .ref 1), (1, .int (24 : Int32))]) h_m294 (z_at.mk 3 rfl rfl) (Or.inl ⟨rfl, rfl⟩) rfl rfl rfl rfl rfl ?_
  refine w_p h_m308 2 (pc' := 2) (L' := [(0, .ref 19), (1, .int (24 : Int32))]) (st' := [.ref 19, .int (24 : Int32)]) rfl ?_
  refine w_lene H (x := (39 : Int32)) (pc' := 3) (L' := [(0, .ref 19), (1, .int (24 : Int32))]) h_m308 (z_at.mk 1 rfl rfl) (by decide) rfl (by decide) rfl rfl rfl ?_
  refine w_ci (pc' := 6) (L' := [(0, .ref 19), (1, .int (24 : Int32))]) h_m308 (z_at.mk 3 rfl rfl) rfl (z_cat_le 0 rfl (by decide)) ⟨by decide, by decide⟩ rfl rfl ?_
  refine w_p h_m308 2 (pc' := 8) (L' := [(0, .ref 19), (1, .int (24 : Int32))]) (st' := [.int (24 : Int32), .ref 19]) rfl ?_
  refine w_ae H (j := 24) (pc' := 9) (L' := [(0, .ref 19), (1, .int (24 : Int32))]) h_m308 (z_at.mk 1 rfl rfl) rfl rfl rfl (by decide) rfl (by decide) rfl rfl rfl ?_
  refine w_p h_m308 3 (pc' := 14) (L' := [(0, .ref 19), (1, .int (24 : Int32))]) (st' := [.int (101 : Int32)]) rfl ?_
  refine w_ri h_m308 (z_at.mk 1 rfl rfl) rfl rfl ?_
  show z_W 996 294 15 [(0, .ref 1), (1, .int (24 : Int32))] [.int (101 : Int32)] m _
  refine w_ri h_m294 (z_at.mk 1 rfl rfl) rfl rfl ?_
  show z_W 997 102 80 [(0, .ref 120), (1, .ref 1), (2, .int (0 : Int32)), (3, .int (4 : Int32)), (4, .int (23 : Int32)), (5, .int (24 : Int32))] [.int (101 : Int32)] m _
  refine w_p h_m102 6 (pc' := 59) (L' := [(0, .ref 120), (1, .ref 1), (2, .int (0 : Int32)), (3, .int (4 : Int32)), (4, .int (23 : Int32)), (5, .int (25 : Int32))]) (st' := [.ref 1, .int (25 : Int32)]) rfl ?_
  refine w_cv (H.te (by decide) rfl).1 (pc' := 62) (L' := [(0, .ref 120), (1, .ref 1), (2, .int (0 : Int32)), (3, .int (4 : Int32)), (4, .int (23 : Int32)), (5, .int (25 : Int32))]) (rest := [.int (25 : Int32)]) (Ps := []) (L0 := [(0, .ref 1)]) h_m102 (z_at.mk 3 rfl rfl) (Or.inl ⟨rfl, rfl⟩) rfl rfl (by decide) (by decide) rfl rfl rfl rfl rfl rfl (by decide) rfl rfl rfl ?_
  refine w_p h_m293 1 (pc' := 1) (L' := [(0, .ref 1)]) (st' := [.ref 1]) rfl ?_
  refine w_gs H (pc' := 4) (L' := [(0, .ref 1)]) h_m293 (z_at.mk 3 rfl rfl) rfl (by decide) rfl rfl rfl rfl ?_
  refine w_lene H (x := (39 : Int32)) (pc' := 5) (L' := [(0, .ref 1)]) h_m293 (z_at.mk 1 rfl rfl) (by decide) rfl (by decide) rfl rfl rfl ?_
  refine w_p h_m293 1 (pc' := 6) (L' := [(0, .ref 1)]) (st' := [.ref 1, .int (39 : Int32)]) rfl ?_
  refine w_cv (H.te (by decide) rfl).1 (pc' := 9) (L' := [(0, .ref 1)]) (rest := [.int (39 : Int32)]) (Ps := []) (L0 := [(0, .ref 1)]) h_m293 (z_at.mk 3 rfl rfl) (Or.inl ⟨rfl, rfl⟩) rfl rfl (by decide) (by decide) rfl rfl rfl rfl rfl rfl (by decide) rfl rfl rfl ?_
  refine w_p h_m298 3 (pc' := 7) (L' := [(0, .ref 1)]) (st' := [.ref 1]) rfl ?_
  refine w_gs H (pc' := 10) (L' := [(0, .ref 1)]) h_m298 (z_at.mk 3 rfl rfl) rfl (by decide) rfl rfl rfl rfl ?_
  refine w_p h_m298 1 (pc' := 14) (L' := []) (st' := [.int (0 : Int32)]) rfl ?_
  refine w_ri h_m298 (z_at.mk 1 rfl rfl) rfl rfl ?_
  show z_W 996 293 9 [(0, .ref 1)] [.int (0 : Int32), .int (39 : Int32)] m _
  refine w_p h_m293 1 (pc' := 10) (L' := [(0, .ref 1)]) (st' := [.int (39 : Int32)]) rfl ?_
  refine w_ri h_m293 (z_at.mk 1 rfl rfl) rfl rfl ?_
  show z_W 997 102 62 [(0, .ref 120), (1, .ref 1), (2, .int (0 : Int32)), (3, .int (4 : Int32)), (4, .int (23 : Int32)), (5, .int (25 : Int32))] [.int (39 : Int32), .int (25 : Int32)] m _
  refine w_p h_m102 3 (pc' := 68) (L' := [(0, .ref 120), (1, .ref 1), (2, .int (0 : Int32)), (3, .int (4 : Int32)), (4, .int (23 : Int32)), (5, .int (25 : Int32))]) (st' := [.ref 1, .int (25 : Int32)]) rfl ?_
  refine w_cv (H.te (by decide) rfl).1 (pc' := 71) (L' := [(0, .ref 120), (1, .ref 1), (2, .int (0 : Int32)), (3, .int (4 : Int32)), (4, .int (23 : Int32)), (5, .int (25 : Int32))]) (rest := [.int (25 : Int32)]) (Ps := []) (L0 := [(0, .ref 1)]) h_m102 (z_at.mk 3 rfl rfl) (Or.inl ⟨rfl, rfl⟩) rfl rfl (by decide) (by decide) rfl rfl rfl rfl rfl rfl (by decide) rfl rfl rfl ?_
  refine w_p h_m293 1 (pc' := 1) (L' := [(0, .ref 1)]) (st' := [.ref 1]) rfl ?_
  refine w_gs H (pc' := 4) (L' := [(0, .ref 1)]) h_m293 (z_at.mk 3 rfl rfl) rfl (by decide) rfl rfl rfl rfl ?_
  refine w_lene H (x := (39 : Int32)) (pc' := 5) (L' := [(0, .ref 1)]) h_m293 (z_at.mk 1 rfl rfl) (by decide) rfl (by decide) rfl rfl rfl ?_
  refine w_p h_m293 1 (pc' := 6) (L' := [(0, .ref 1)]) (st' := [.ref 1, .int (39 : Int32)]) rfl ?_
  refine w_cv (H.te (by decide) rfl).1 (pc' := 9) (L' := [(0, .ref 1)]) (rest := [.int (39 : Int32)]) (Ps := []) (L0 := [(0, .ref 1)]) h_m293 (z_at.mk 3 rfl rfl) (Or.inl ⟨rfl, rfl⟩) rfl rfl (by decide) (by decide) rfl rfl rfl rfl rfl rfl (by decide) rfl rfl rfl ?_
  refine w_p h_m298 3 (pc' := 7) (L' := [(0, .ref 1)]) (st' := [.ref 1]) rfl ?_
  refine w_gs H (pc' := 10) (L' := [(0, .ref 1)]) h_m298 (z_at.mk 3 rfl rfl) rfl (by decide) rfl rfl rfl rfl ?_
  refine w_p h_m298 1 (pc' := 14) (L' := []) (st' := [.int (0 : Int32)]) rfl ?_
  refine w_ri h_m298 (z_at.mk 1 rfl rfl) rfl rfl ?_
  show z_W 996 293 9 [(0, .ref 1)] [.int (0 : Int32), .int (39 : Int32)] m _
  refine w_p h_m293 1 (pc' := 10) (L' := [(0, .ref 1)]) (st' := [.int (39 : Int32)]) rfl ?_
  refine w_ri h_m293 (z_at.mk 1 rfl rfl) rfl rfl ?_
  show z_W 997 102 71 [(0, .ref 120), (1, .ref 1), (2, .int (0 : Int32)), (3, .int (4 : Int32)), (4, .int (23 : Int32)), (5, .int (25 : Int32))] [.int (39 : Int32), .int (25 : Int32)] m _
  refine w_p h_m102 3 (pc' := 77) (L' := [(0, .ref 120), (1, .ref 1), (2, .int (0 : Int32)), (3, .int (4 : Int32)), (4, .int (23 : Int32)), (5, .int (25 : Int32))]) (st' := [.int (25 : Int32), .ref 1]) rfl ?_
  refine w_cv (H.te (by decide) rfl).1 (pc' := 80) (L' := [(0, .ref 120), (1, .ref 1), (2, .int (0 : Int32)), (3, .int (4 : Int32)), (4, .int (23 : Int32)), (5, .int (25 : Int32))]) (rest := []) (Ps := [.int (25 : Int32)]) (L0 := [(0, .ref 1), (1, .int (25 : Int32))]) h_m102 (z_at.mk 3 rfl rfl) (Or.inl ⟨rfl, rfl⟩) rfl rfl (by decide) (by decide) rfl rfl rfl rfl rfl rfl (by decide) rfl rfl rfl ?_
  refine w_p h_m294 1 (pc' := 1) (L' := [(0, .ref 1), (1, .int (25 : Int32))]) (st' := [.ref 1]) rfl ?_
  refine w_cv (H.te (by decide) rfl).1 (pc' := 4) (L' := [(0, .ref 1), (1, .int (25 : Int32))]) (rest := []) (Ps := []) (L0 := [(0, .ref 1)]) h_m294 (z_at.mk 3 rfl rfl) (Or.inl ⟨rfl, rfl⟩) rfl rfl (by decide) (by decide) rfl rfl rfl rfl rfl rfl (by decide) rfl rfl rfl ?_
  refine w_p h_m299 3 (pc' := 7) (L' := [(0, .ref 1)]) (st' := [.ref 1]) rfl ?_
  refine w_gs H (pc' := 10) (L' := [(0, .ref 1)]) h_m299 (z_at.mk 3 rfl rfl) rfl (by decide) rfl rfl rfl rfl ?_
  refine w_p h_m299 3 (pc' := 18) (L' := []) (st' := [.int (1 : Int32)]) rfl ?_
  refine w_ri h_m299 (z_at.mk 1 rfl rfl) rfl rfl ?_
  show z_W 996 294 4 [(0, .ref 1), (1, .int (25 : Int32))] [.int (1 : Int32)] m _
  refine w_p h_m294 2 (pc' := 8) (L' := [(0, .ref 1), (1, .int (25 : Int32))]) (st' := [.ref 1]) rfl ?_
  refine w_gs H (pc' := 11) (L' := [(0, .ref 1), (1, .int (25 : Int32))]) h_m294 (z_at.mk 3 rfl rfl) rfl (by decide) rfl rfl rfl rfl ?_
  refine w_p h_m294 1 (pc' := 12) (L' := [(0, .ref 1), (1, .int (25 : Int32))]) (st' := [.int (25 : Int32), .ref 19]) rfl ?_
  refine w_cs (As := [.ref 19, .int (25 : Int32)]) (rest := []) (j := 308) (L0 := [(0, .ref 19), (1, .int (25 : Int32))]) (pc' := 15) (L' := [(0, .ref 1), (1, .int (25 : Int32))]) h_m294 (z_at.mk 3 rfl rfl) (Or.inl ⟨rfl, rfl⟩) rfl rfl rfl rfl rfl ?_
  refine w_p h_m308 2 (pc' := 2) (L' := [(0, .ref 19), (1, .int (25 : Int32))]) (st' := [.ref 19, .int (25 : Int32)]) rfl ?_
  refine w_lene H (x := (39 : Int32)) (pc' := 3) (L' := [(0, .ref 19), (1, .int (25 : Int32))]) h_m308 (z_at.mk 1 rfl rfl) (by decide) rfl (by decide) rfl rfl rfl ?_
  refine w_ci (pc' := 6) (L' := [(0, .ref 19), (1, .int (25 : Int32))]) h_m308 (z_at.mk 3 rfl rfl) rfl (z_cat_le 0 rfl (by decide)) ⟨by decide, by decide⟩ rfl rfl ?_
  refine w_p h_m308 2 (pc' := 8) (L' := [(0, .ref 19), (1, .int (25 : Int32))]) (st' := [.int (25 : Int32), .ref 19]) rfl ?_
  refine w_ae H (j := 25) (pc' := 9) (L' := [(0, .ref 19), (1, .int (25 : Int32))]) h_m308 (z_at.mk 1 rfl rfl) rfl rfl rfl (by decide) rfl (by decide) rfl rfl rfl ?_
  refine w_p h_m308 3 (pc' := 14) (L' := [(0, .ref 19), (1, .int (25 : Int32))]) (st' := [.int (114 : Int32)]) rfl ?_
  refine w_ri h_m308 (z_at.mk 1 rfl rfl) rfl rfl ?_
  show z_W 996 294 15 [(0, .ref 1), (1, .int (25 : Int32))] [.int (114 : Int32)] m _
  refine w_ri h_m294 (z_at.mk 1 rfl rfl) rfl rfl ?_
  show z_W 997 102 80 [(0, .ref 120), (1, .ref 1), (2, .int (0 : Int32)), (3, .int (4 : Int32)), (4, .int (23 : Int32)), (5, .int (25 : Int32))] [.int (114 : Int32)] m _
  refine w_p h_m102 6 (pc' := 59) (L' := [(0, .ref 120), (1, .ref 1), (2, .int (0 : Int32)), (3, .int (4 : Int32)), (4, .int (23 : Int32)), (5, .int (26 : Int32))]) (st' := [.ref 1, .int (26 : Int32)]) rfl ?_
  refine w_cv (H.te (by decide) rfl).1 (pc' := 62) (L' := [(0, .ref 120), (1, .ref 1), (2, .int (0 : Int32)), (3, .int (4 : Int32)), (4, .int (23 : Int32)), (5, .int (26 : Int32))]) (rest := [.int (26 : Int32)]) (Ps := []) (L0 := [(0, .ref 1)]) h_m102 (z_at.mk 3 rfl rfl) (Or.inl ⟨rfl, rfl⟩) rfl rfl (by decide) (by decide) rfl rfl rfl rfl rfl rfl (by decide) rfl rfl rfl ?_
  refine w_p h_m293 1 (pc' := 1) (L' := [(0, .ref 1)]) (st' := [.ref 1]) rfl ?_
  refine w_gs H (pc' := 4) (L' := [(0, .ref 1)]) h_m293 (z_at.mk 3 rfl rfl) rfl (by decide) rfl rfl rfl rfl ?_
  refine w_lene H (x := (39 : Int32)) (pc' := 5) (L' := [(0, .ref 1)]) h_m293 (z_at.mk 1 rfl rfl) (by decide) rfl (by decide) rfl rfl rfl ?_
  refine w_p h_m293 1 (pc' := 6) (L' := [(0, .ref 1)]) (st' := [.ref 1, .int (39 : Int32)]) rfl ?_
  refine w_cv (H.te (by decide) rfl).1 (pc' := 9) (L' := [(0, .ref 1)]) (rest := [.int (39 : Int32)]) (Ps := []) (L0 := [(0, .ref 1)]) h_m293 (z_at.mk 3 rfl rfl) (Or.inl ⟨rfl, rfl⟩) rfl rfl (by decide) (by decide) rfl rfl rfl rfl rfl rfl (by decide) rfl rfl rfl ?_
  refine w_p h_m298 3 (pc' := 7) (L' := [(0, .ref 1)]) (st' := [.ref 1]) rfl ?_
  refine w_gs H (pc' := 10) (L' := [(0, .ref 1)]) h_m298 (z_at.mk 3 rfl rfl) rfl (by decide) rfl rfl rfl rfl ?_
  refine w_p h_m298 1 (pc' := 14) (L' := []) (st' := [.int (0 : Int32)]) rfl ?_
  refine w_ri h_m298 (z_at.mk 1 rfl rfl) rfl rfl ?_
  show z_W 996 293 9 [(0, .ref 1)] [.int (0 : Int32), .int (39 : Int32)] m _
  refine w_p h_m293 1 (pc' := 10) (L' := [(0, .ref 1)]) (st' := [.int (39 : Int32)]) rfl ?_
  refine w_ri h_m293 (z_at.mk 1 rfl rfl) rfl rfl ?_
  show z_W 997 102 62 [(0, .ref 120), (1, .ref 1), (2, .int (0 : Int32)), (3, .int (4 : Int32)), (4, .int (23 : Int32)), (5, .int (26 : Int32))] [.int (39 : Int32), .int (26 : Int32)] m _
  refine w_p h_m102 3 (pc' := 68) (L' := [(0, .ref 120), (1, .ref 1), (2, .int (0 : Int32)), (3, .int (4 : Int32)), (4, .int (23 : Int32)), (5, .int (26 : Int32))]) (st' := [.ref 1, .int (26 : Int32)]) rfl ?_
  refine w_cv (H.te (by decide) rfl).1 (pc' := 71) (L' := [(0, .ref 120), (1, .ref 1), (2, .int (0 : Int32)), (3, .int (4 : Int32)), (4, .int (23 : Int32)), (5, .int (26 : Int32))]) (rest := [.int (26 : Int32)]) (Ps := []) (L0 := [(0, .ref 1)]) h_m102 (z_at.mk 3 rfl rfl) (Or.inl ⟨rfl, rfl⟩) rfl rfl (by decide) (by decide) rfl rfl rfl rfl rfl rfl (by decide) rfl rfl rfl ?_
  refine w_p h_m293 1 (pc' := 1) (L' := [(0, .ref 1)]) (st' := [.ref 1]) rfl ?_
  refine w_gs H (pc' := 4) (L' := [(0, .ref 1)]) h_m293 (z_at.mk 3 rfl rfl) rfl (by decide) rfl rfl rfl rfl ?_
  refine w_lene H (x := (39 : Int32)) (pc' := 5) (L' := [(0, .ref 1)]) h_m293 (z_at.mk 1 rfl rfl) (by decide) rfl (by decide) rfl rfl rfl ?_
  refine w_p h_m293 1 (pc' := 6) (L' := [(0, .ref 1)]) (st' := [.ref 1, .int (39 : Int32)]) rfl ?_
  refine w_cv (H.te (by decide) rfl).1 (pc' := 9) (L' := [(0, .ref 1)]) (rest := [.int (39 : Int32)]) (Ps := []) (L0 := [(0, .ref 1)]) h_m293 (z_at.mk 3 rfl rfl) (Or.inl ⟨rfl, rfl⟩) rfl rfl (by decide) (by decide) rfl rfl rfl rfl rfl rfl (by decide) rfl rfl rfl ?_
  refine w_p h_m298 3 (pc' := 7) (L' := [(0, .ref 1)]) (st' := [.ref 1]) rfl ?_
  refine w_gs H (pc' := 10) (L' := [(0, .ref 1)]) h_m298 (z_at.mk 3 rfl rfl) rfl (by decide) rfl rfl rfl rfl ?_
  refine w_p h_m298 1 (pc' := 14) (L' := []) (st' := [.int (0 : Int32)]) rfl ?_
  refine w_ri h_m298 (z_at.mk 1 rfl rfl) rfl rfl ?_
  show z_W 996 293 9 [(0, .ref 1)] [.int (0 : Int32), .int (39 : Int32)] m _
  refine w_p h_m293 1 (pc' := 10) (L' := [(0, .ref 1)]) (st' := [.int (39 : Int32)]) rfl ?_
  refine w_ri h_m293 (z_at.mk 1 rfl rfl) rfl rfl ?_
  show z_W 997 102 71 [(0, .ref 120), (1, .ref 1), (2, .int (0 : Int32)), (3, .int (4 : Int32)), (4, .int (23 : Int32)), (5, .int (26 : Int32))] [.int (39 : Int32), .int (26 : Int32)] m _
  refine w_p h_m102 3 (pc' := 77) (L' := [(0, .ref 120), (1, .ref 1), (2, .int (0 : Int32)), (3, .int (4 : Int32)), (4, .int (23 : Int32)), (5, .int (26 : Int32))]) (st' := [.int (26 : Int32), .ref 1]) rfl ?_
  refine w_cv (H.te (by decide) rfl).1 (pc' := 80) (L' := [(0, .ref 120), (1, .ref 1), (2, .int (0 : Int32)), (3, .int (4 : Int32)), (4, .int (23 : Int32)), (5, .int (26 : Int32))]) (rest := []) (Ps := [.int (26 : Int32)]) (L0 := [(0, .ref 1), (1, .int (26 : Int32))]) h_m102 (z_at.mk 3 rfl rfl) (Or.inl ⟨rfl, rfl⟩) rfl rfl (by decide) (by decide) rfl rfl rfl rfl rfl rfl (by decide) rfl rfl rfl ?_
  refine w_p h_m294 1 (pc' := 1) (L' := [(0, .ref 1), (1, .int (26 : Int32))]) (st' := [.ref 1]) rfl ?_
  refine w_cv (H.te (by decide) rfl).1 (pc' := 4) (L' := [(0, .ref 1), (1, .int (26 : Int32))]) (rest := []) (Ps := []) (L0 := [(0, .ref 1)]) h_m294 (z_at.mk 3 rfl rfl) (Or.inl ⟨rfl, rfl⟩) rfl rfl (by decide) (by decide) rfl rfl rfl rfl rfl rfl (by decide) rfl rfl rfl ?_
  refine w_p h_m299 3 (pc' := 7) (L' := [(0, .ref 1)]) (st' := [.ref 1]) rfl ?_
  refine w_gs H (pc' := 10) (L' := [(0, .ref 1)]) h_m299 (z_at.mk 3 rfl rfl) rfl (by decide) rfl rfl rfl rfl ?_
  refine w_p h_m299 3 (pc' := 18) (L' := []) (st' := [.int (1 : Int32)]) rfl ?_
  refine w_ri h_m299 (z_at.mk 1 rfl rfl) rfl rfl ?_
  show z_W 996 294 4 [(0, .ref 1), (1, .int (26 : Int32))] [.int (1 : Int32)] m _
  refine w_p h_m294 2 (pc' := 8) (L' := [(0, .ref 1), (1, .int (26 : Int32))]) (st' := [.ref 1]) rfl ?_
  refine w_gs H (pc' := 11) (L' := [(0, .ref 1), (1, .int (26 : Int32))]) h_m294 (z_at.mk 3 rfl rfl) rfl (by decide) rfl rfl rfl rfl ?_
  refine w_p h_m294 1 (pc' := 12) (L' := [(0, .ref 1), (1, .int (26 : Int32))]) (st' := [.int (26 : Int32), .ref 19]) rfl ?_
  refine w_cs (As := [.ref 19, .int (26 : Int32)]) (rest := []) (j := 308) (L0 := [(0, .ref 19), (1, .int (26 : Int32))]) (pc' := 15) (L' := [(0, .ref 1), (1, .int (26 : Int32))]) h_m294 (z_at.mk 3 rfl rfl) (Or.inl ⟨rfl, rfl⟩) rfl rfl rfl rfl rfl ?_
  refine w_p h_m308 2 (pc' := 2) (L' := [(0, .ref 19), (1, .int (26 : Int32))]) (st' := [.ref 19, .int (26 : Int32)]) rfl ?_
  refine w_lene H (x := (39 : Int32)) (pc' := 3) (L' := [(0, .ref 19), (1, .int (26 : Int32))]) h_m308 (z_at.mk 1 rfl rfl) (by decide) rfl (by decide) rfl rfl rfl ?_
  refine w_ci (pc' := 6) (L' := [(0, .ref 19), (1, .int (26 : Int32))]) h_m308 (z_at.mk 3 rfl rfl) rfl (z_cat_le 0 rfl (by decide)) ⟨by decide, by decide⟩ rfl rfl ?_
  refine w_p h_m308 2 (pc' := 8) (L' := [(0, .ref 19), (1, .int (26 : Int32))]) (st' := [.int (26 : Int32), .ref 19]) rfl ?_
  refine w_ae H (j := 26) (pc' := 9) (L' := [(0, .ref 19), (1, .int (26 : Int32))]) h_m308 (z_at.mk 1 rfl rfl) rfl rfl rfl (by decide) rfl (by decide) rfl rfl rfl ?_
  refine w_p h_m308 3 (pc' := 14) (L' := [(0, .ref 19), (1, .int (26 : Int32))]) (st' := [.int (103 : Int32)]) rfl ?_
  refine w_ri h_m308 (z_at.mk 1 rfl rfl) rfl rfl ?_
  show z_W 996 294 15 [(0, .ref 1), (1, .int (26 : Int32))] [.int (103 : Int32)] m _
  refine w_ri h_m294 (z_at.mk 1 rfl rfl) rfl rfl ?_
  show z_W 997 102 80 [(0, .ref 120), (1, .ref 1), (2, .int (0 : Int32)), (3, .int (4 : Int32)), (4, .int (23 : Int32)), (5, .int (26 : Int32))] [.int (103 : Int32)] m _
  refine w_p h_m102 6 (pc' := 59) (L' := [(0, .ref 120), (1, .ref 1), (2, .int (0 : Int32)), (3, .int (4 : Int32)), (4, .int (23 : Int32)), (5, .int (27 : Int32))]) (st' := [.ref 1, .int (27 : Int32)]) rfl ?_
  refine w_cv (H.te (by decide) rfl).1 (pc' := 62) (L' := [(0, .ref 120), (1, .ref 1), (2, .int (0 : Int32)), (3, .int (4 : Int32)), (4, .int (23 : Int32)), (5, .int (27 : Int32))]) (rest := [.int (27 : Int32)]) (Ps := []) (L0 := [(0, .ref 1)]) h_m102 (z_at.mk 3 rfl rfl) (Or.inl ⟨rfl, rfl⟩) rfl rfl (by decide) (by decide) rfl rfl rfl rfl rfl rfl (by decide) rfl rfl rfl ?_
  refine w_p h_m293 1 (pc' := 1) (L' := [(0, .ref 1)]) (st' := [.ref 1]) rfl ?_
  refine w_gs H (pc' := 4) (L' := [(0, .ref 1)]) h_m293 (z_at.mk 3 rfl rfl) rfl (by decide) rfl rfl rfl rfl ?_
  refine w_lene H (x := (39 : Int32)) (pc' := 5) (L' := [(0, .ref 1)]) h_m293 (z_at.mk 1 rfl rfl) (by decide) rfl (by decide) rfl rfl rfl ?_
  refine w_p h_m293 1 (pc' := 6) (L' := [(0, .ref 1)]) (st' := [.ref 1, .int (39 : Int32)]) rfl ?_
  refine w_cv (H.te (by decide) rfl).1 (pc' := 9) (L' := [(0, .ref 1)]) (rest := [.int (39 : Int32)]) (Ps := []) (L0 := [(0, .ref 1)]) h_m293 (z_at.mk 3 rfl rfl) (Or.inl ⟨rfl, rfl⟩) rfl rfl (by decide) (by decide) rfl rfl rfl rfl rfl rfl (by decide) rfl rfl rfl ?_
  refine w_p h_m298 3 (pc' := 7) (L' := [(0, .ref 1)]) (st' := [.ref 1]) rfl ?_
  refine w_gs H (pc' := 10) (L' := [(0, .ref 1)]) h_m298 (z_at.mk 3 rfl rfl) rfl (by decide) rfl rfl rfl rfl ?_
  refine w_p h_m298 1 (pc' := 14) (L' := []) (st' := [.int (0 : Int32)]) rfl ?_
  refine w_ri h_m298 (z_at.mk 1 rfl rfl) rfl rfl ?_
  show z_W 996 293 9 [(0, .ref 1)] [.int (0 : Int32), .int (39 : Int32)] m _
  refine w_p h_m293 1 (pc' := 10) (L' := [(0, .ref 1)]) (st' := [.int (39 : Int32)]) rfl ?_
  refine w_ri h_m293 (z_at.mk 1 rfl rfl) rfl rfl ?_
  show z_W 997 102 62 [(0, .ref 120), (1, .ref 1), (2, .int (0 : Int32)), (3, .int (4 : Int32)), (4, .int (23 : Int32)), (5, .int (27 : Int32))] [.int (39 : Int32), .int (27 : Int32)] m _
  refine w_p h_m102 3 (pc' := 68) (L' := [(0, .ref 120), (1, .ref 1), (2, .int (0 : Int32)), (3, .int (4 : Int32)), (4, .int (23 : Int32)), (5, .int (27 : Int32))]) (st' := [.ref 1, .int (27 : Int32)]) rfl ?_
  refine w_cv (H.te (by decide) rfl).1 (pc' := 71) (L' := [(0, .ref 120), (1, .ref 1), (2, .int (0 : Int32)), (3, .int (4 : Int32)), (4, .int (23 : Int32)), (5, .int (27 : Int32))]) (rest := [.int (27 : Int32)]) (Ps := []) (L0 := [(0, .ref 1)]) h_m102 (z_at.mk 3 rfl rfl) (Or.inl ⟨rfl, rfl⟩) rfl rfl (by decide) (by decide) rfl rfl rfl rfl rfl rfl (by decide) rfl rfl rfl ?_
  refine w_p h_m293 1 (pc' := 1) (L' := [(0, .ref 1)]) (st' := [.ref 1]) rfl ?_
  refine w_gs H (pc' := 4) (L' := [(0, .ref 1)]) h_m293 (z_at.mk 3 rfl rfl) rfl (by decide) rfl rfl rfl rfl ?_
  refine w_lene H (x := (39 : Int32)) (pc' := 5) (L' := [(0, .ref 1)]) h_m293 (z_at.mk 1 rfl rfl) (by decide) rfl (by decide) rfl rfl rfl ?_
  refine w_p h_m293 1 (pc' := 6) (L' := [(0, .ref 1)]) (st' := [.ref 1, .int (39 : Int32)]) rfl ?_
  refine w_cv (H.te (by decide) rfl).1 (pc' := 9) (L' := [(0, .ref 1)]) (rest := [.int (39 : Int32)]) (Ps := []) (L0 := [(0, .ref 1)]) h_m293 (z_at.mk 3 rfl rfl) (Or.inl ⟨rfl, rfl⟩) rfl rfl (by decide) (by decide) rfl rfl rfl rfl rfl rfl (by decide) rfl rfl rfl ?_
  refine w_p h_m298 3 (pc' := 7) (L' := [(0, .ref 1)]) (st' := [.ref 1]) rfl ?_
  refine w_gs H (pc' := 10) (L' := [(0, .ref 1)]) h_m298 (z_at.mk 3 rfl rfl) rfl (by decide) rfl rfl rfl rfl ?_
  refine w_p h_m298 1 (pc' := 14) (L' := []) (st' := [.int (0 : Int32)]) rfl ?_
  refine w_ri h_m298 (z_at.mk 1 rfl rfl) rfl rfl ?_
  show z_W 996 293 9 [(0, .ref 1)] [.int (0 : Int32), .int (39 : Int32)] m _
  refine w_p h_m293 1 (pc' := 10) (L' := [(0, .ref 1)]) (st' := [.int (39 : Int32)]) rfl ?_
  refine w_ri h_m293 (z_at.mk 1 rfl rfl) rfl rfl ?_
  show z_W 997 102 71 [(0, .ref 120), (1, .ref 1), (2, .int (0 : Int32)), (3, .int (4 : Int32)), (4, .int (23 : Int32)), (5, .int (27 : Int32))] [.int (39 : Int32), .int (27 : Int32)] m _
  refine w_p h_m102 3 (pc' := 77) (L' := [(0, .ref 120), (1, .ref 1), (2, .int (0 : Int32)), (3, .int (4 : Int32)), (4, .int (23 : Int32)), (5, .int (27 : Int32))]) (st' := [.int (27 : Int32), .ref 1]) rfl ?_
  refine w_cv (H.te (by decide) rfl).1 (pc' := 80) (L' := [(0, .ref 120), (1, .ref 1), (2, .int (0 : Int32)), (3, .int (4 : Int32)), (4, .int (23 : Int32)), (5, .int (27 : Int32))]) (rest := []) (Ps := [.int (27 : Int32)]) (L0 := [(0, .ref 1), (1, .int (27 : Int32))]) h_m102 (z_at.mk 3 rfl rfl) (Or.inl ⟨rfl, rfl⟩) rfl rfl (by decide) (by decide) rfl rfl rfl rfl rfl rfl (by decide) rfl rfl rfl ?_
  refine w_p h_m294 1 (pc' := 1) (L' := [(0, .ref 1), (1, .int (27 : Int32))]) (st' := [.ref 1]) rfl ?_
  refine w_cv (H.te (by decide) rfl).1 (pc' := 4) (L' := [(0, .ref 1), (1, .int (27 : Int32))]) (rest := []) (Ps := []) (L0 := [(0, .ref 1)]) h_m294 (z_at.mk 3 rfl rfl) (Or.inl ⟨rfl, rfl⟩) rfl rfl (by decide) (by decide) rfl rfl rfl rfl rfl rfl (by decide) rfl rfl rfl ?_
  refine w_p h_m299 3 (pc' := 7) (L' := [(0, .ref 1)]) (st' := [.ref 1]) rfl ?_
  refine w_gs H (pc' := 10) (L' := [(0, .ref 1)]) h_m299 (z_at.mk 3 rfl rfl) rfl (by decide) rfl rfl rfl rfl ?_
  refine w_p h_m299 3 (pc' := 18) (L' := []) (st' := [.int (1 : Int32)]) rfl ?_
  refine w_ri h_m299 (z_at.mk 1 rfl rfl) rfl rfl ?_
  show z_W 996 294 4 [(0, .ref 1), (1, .int (27 : Int32))] [.int (1 : Int32)] m _
  refine w_p h_m294 2 (pc' := 8) (L' := [(0, .ref 1), (1, .int (27 : Int32))]) (st' := [.ref 1]) rfl ?_
  refine w_gs H (pc' := 11) (L' := [(0, .ref 1), (1, .int (27 : Int32))]) h_m294 (z_at.mk 3 rfl rfl) rfl (by decide) rfl rfl rfl rfl ?_
  refine w_p h_m294 1 (pc' := 12) (L' := [(0, .ref 1), (1, .int (27 : Int32))]) (st' := [.int (27 : Int32), .ref 19]) rfl ?_
  refine w_cs (As := [.ref 19, .int (27 : Int32)]) (rest := []) (j := 308) (L0 := [(0, .ref 19), (1, .int (27 : Int32))]) (pc' := 15) (L' := [(0, .ref 1), (1, .int (27 : Int32))]) h_m294 (z_at.mk 3 rfl rfl) (Or.inl ⟨rfl, rfl⟩) rfl rfl rfl rfl rfl ?_
  refine w_p h_m308 2 (pc' := 2) (L' := [(0, .ref 19), (1, .int (27 : Int32))]) (st' := [.ref 19, .int (27 : Int32)]) rfl ?_
  refine w_lene H (x := (39 : Int32)) (pc' := 3) (L' := [(0, .ref 19), (1, .int (27 : Int32))]) h_m308 (z_at.mk 1 rfl rfl) (by decide) rfl (by decide) rfl rfl rfl ?_
  refine w_ci (pc' := 6) (L' := [(0, .ref 19), (1, .int (27 : Int32))]) h_m308 (z_at.mk 3 rfl rfl) rfl (z_cat_le 0 rfl (by decide)) ⟨by decide, by decide⟩ rfl rfl ?_
  refine w_p h_m308 2 (pc' := 8) (L' := [(0, .ref 19), (1, .int (27 : Int32))]) (st' := [.int (27 : Int32), .ref 19]) rfl ?_
  refine w_ae H (j := 27) (pc' := 9) (L' := [(0, .ref 19), (1, .int (27 : Int32))]) h_m308 (z_at.mk 1 rfl rfl) rfl rfl rfl (by decide) rfl (by decide) rfl rfl rfl ?_
  refine w_p h_m308 3 (pc' := 14) (L' := [(0, .ref 19), (1, .int (27 : Int32))]) (st' := [.int (101 : Int32)]) rfl ?_
  refine w_ri h_m308 (z_at.mk 1 rfl rfl) rfl rfl ?_
  show z_W 996 294 15 [(0, .ref 1), (1, .int (27 : Int32))] [.int (101 : Int32)] m _
  refine w_ri h_m294 (z_at.mk 1 rfl rfl) rfl rfl ?_
  show z_W 997 102 80 [(0, .ref 120), (1, .ref 1), (2, .int (0 : Int32)), (3, .int (4 : Int32)), (4, .int (23 : Int32)), (5, .int (27 : Int32))] [.int (101 : Int32)] m _
  refine w_p h_m102 6 (pc' := 59) (L' := [(0, .ref 120), (1, .ref 1), (2, .int (0 : Int32)), (3, .int (4 : Int32)), (4, .int (23 : Int32)), (5, .int (28 : Int32))]) (st' := [.ref 1, .int (28 : Int32)]) rfl ?_
  refine w_cv (H.te (by decide) rfl).1 (pc' := 62) (L' := [(0, .ref 120), (1, .ref 1), (2, .int (0 : Int32)), (3, .int (4 : Int32)), (4, .int (23 : Int32)), (5, .int (28 : Int32))]) (rest := [.int (28 : Int32)]) (Ps := []) (L0 := [(0, .ref 1)]) h_m102 (z_at.mk 3 rfl rfl) (Or.inl ⟨rfl, rfl⟩) rfl rfl (by decide) (by decide) rfl rfl rfl rfl rfl rfl (by decide) rfl rfl rfl ?_
  refine w_p h_m293 1 (pc' := 1) (L' := [(0, .ref 1)]) (st' := [.ref 1]) rfl ?_
  refine w_gs H (pc' := 4) (L' := [(0, .ref 1)]) h_m293 (z_at.mk 3 rfl rfl) rfl (by decide) rfl rfl rfl rfl ?_
  refine w_lene H (x := (39 : Int32)) (pc' := 5) (L' := [(0, .ref 1)]) h_m293 (z_at.mk 1 rfl rfl) (by decide) rfl (by decide) rfl rfl rfl ?_
  refine w_p h_m293 1 (pc' := 6) (L' := [(0, .ref 1)]) (st' := [.ref 1, .int (39 : Int32)]) rfl ?_
  refine w_cv (H.te (by decide) rfl).1 (pc' := 9) (L' := [(0, .ref 1)]) (rest := [.int (39 : Int32)]) (Ps := []) (L0 := [(0, .ref 1)]) h_m293 (z_at.mk 3 rfl rfl) (Or.inl ⟨rfl, rfl⟩) rfl rfl (by decide) (by decide) rfl rfl rfl rfl rfl rfl (by decide) rfl rfl rfl ?_
  refine w_p h_m298 3 (pc' := 7) (L' := [(0, .ref 1)]) (st' := [.ref 1]) rfl ?_
  refine w_gs H (pc' := 10) (L' := [(0, .ref 1)]) h_m298 (z_at.mk 3 rfl rfl) rfl (by decide) rfl rfl rfl rfl ?_
  refine w_p h_m298 1 (pc' := 14) (L' := []) (st' := [.int (0 : Int32)]) rfl ?_
  refine w_ri h_m298 (z_at.mk 1 rfl rfl) rfl rfl ?_
  show z_W 996 293 9 [(0, .ref 1)] [.int (0 : Int32), .int (39 : Int32)] m _
  refine w_p h_m293 1 (pc' := 10) (L' := [(0, .ref 1)]) (st' := [.int (39 : Int32)]) rfl ?_
  refine w_ri h_m293 (z_at.mk 1 rfl rfl) rfl rfl ?_
  show z_W 997 102 62 [(0, .ref 120), (1, .ref 1), (2, .int (0 : Int32)), (3, .int (4 : Int32)), (4, .int (23 : Int32)), (5, .int (28 : Int32))] [.int (39 : Int32), .int (28 : Int32)] m _
  refine w_p h_m102 3 (pc' := 68) (L' := [(0, .ref 120), (1, .ref 1), (2, .int (0 : Int32)), (3, .int (4 : Int32)), (4, .int (23 : Int32)), (5, .int (28 : Int32))]) (st' := [.ref 1, .int (28 : Int32)]) rfl ?_
  refine w_cv (H.te (by decide) rfl).1 (pc' := 71) (L' := [(0, .ref 120), (1, .ref 1), (2, .int (0 : Int32)), (3, .int (4 : Int32)), (4, .int (23 : Int32)), (5, .int (28 : Int32))]) (rest := [.int (28 : Int32)]) (Ps := []) (L0 := [(0, .ref 1)]) h_m102 (z_at.mk 3 rfl rfl) (Or.inl ⟨rfl, rfl⟩) rfl rfl (by decide) (by decide) rfl rfl rfl rfl rfl rfl (by decide) rfl rfl rfl ?_
  refine w_p h_m293 1 (pc' := 1) (L' := [(0, .ref 1)]) (st' := [.ref 1]) rfl ?_
  refine w_gs H (pc' := 4) (L' := [(0, .ref 1)]) h_m293 (z_at.mk 3 rfl rfl) rfl (by decide) rfl rfl rfl rfl ?_
  refine w_lene H (x := (39 : Int32)) (pc' := 5) (L' := [(0, .ref 1)]) h_m293 (z_at.mk 1 rfl rfl) (by decide) rfl (by decide) rfl rfl rfl ?_
  refine w_p h_m293 1 (pc' := 6) (L' := [(0, .ref 1)]) (st' := [.ref 1, .int (39 : Int32)]) rfl ?_
  refine w_cv (H.te (by decide) rfl).1 (pc' := 9) (L' := [(0, .ref 1)]) (rest := [.int (39 : Int32)]) (Ps := []) (L0 := [(0, .ref 1)]) h_m293 (z_at.mk 3 rfl rfl) (Or.inl ⟨rfl, rfl⟩) rfl rfl (by decide) (by decide) rfl rfl rfl rfl rfl rfl (by decide) rfl rfl rfl ?_
  refine w_p h_m298 3 (pc' := 7) (L' := [(0, .ref 1)]) (st' := [.ref 1]) rfl ?_
  refine w_gs H (pc' := 10) (L' := [(0, .ref 1)]) h_m298 (z_at.mk 3 rfl rfl) rfl (by decide) rfl rfl rfl rfl ?_
  refine w_p h_m298 1 (pc' := 14) (L' := []) (st' := [.int (0 : Int32)]) rfl ?_
  refine w_ri h_m298 (z_at.mk 1 rfl rfl) rfl rfl ?_
  show z_W 996 293 9 [(0, .ref 1)] [.int (0 : Int32), .int (39 : Int32)] m _
  refine w_p h_m293 1 (pc' := 10) (L' := [(0, .ref 1)]) (st' := [.int (39 : Int32)]) rfl ?_
  refine w_ri h_m293 (z_at.mk 1 rfl rfl) rfl rfl ?_
  show z_W 997 102 71 [(0, .ref 120), (1, .ref 1), (2, .int (0 : Int32)), (3, .int (4 : Int32)), (4, .int (23 : Int32)), (5, .int (28 : Int32))] [.int (39 : Int32), .int (28 : Int32)] m _
  refine w_p h_m102 3 (pc' := 77) (L' := [(0, .ref 120), (1, .ref 1), (2, .int (0 : Int32)), (3, .int (4 : Int32)), (4, .int (23 : Int32)), (5, .int (28 : Int32))]) (st' := [.int (28 : Int32), .ref 1]) rfl ?_
  refine w_cv (H.te (by decide) rfl).1 (pc' := 80) (L' := [(0, .ref 120), (1, .ref 1), (2, .int (0 : Int32)), (3, .int (4 : Int32)), (4, .int (23 : Int32)), (5, .int (28 : Int32))]) (rest := []) (Ps := [.int (28 : Int32)]) (L0 := [(0, .ref 1), (1, .int (28 : Int32))]) h_m102 (z_at.mk 3 rfl rfl) (Or.inl ⟨rfl, rfl⟩) rfl rfl (by decide) (by decide) rfl rfl rfl rfl rfl rfl (by decide) rfl rfl rfl ?_
  refine w_p h_m294 1 (pc' := 1) (L' := [(0, .ref 1), (1, .int (28 : Int32))]) (st' := [.ref 1]) rfl ?_
  refine w_cv (H.te (by decide) rfl).1 (pc' := 4) (L' := [(0, .ref 1), (1, .int (28 : Int32))]) (rest := []) (Ps := []) (L0 := [(0, .ref 1)]) h_m294 (z_at.mk 3 rfl rfl) (Or.inl ⟨rfl, rfl⟩) rfl rfl (by decide) (by decide) rfl rfl rfl rfl rfl rfl (by decide) rfl rfl rfl ?_
  refine w_p h_m299 3 (pc' := 7) (L' := [(0, .ref 1)]) (st' := [.ref 1]) rfl ?_
  refine w_gs H (pc' := 10) (L' := [(0, .ref 1)]) h_m299 (z_at.mk 3 rfl rfl) rfl (by decide) rfl rfl rfl rfl ?_
  refine w_p h_m299 3 (pc' := 18) (L' := []) (st' := [.int (1 : Int32)]) rfl ?_
  refine w_ri h_m299 (z_at.mk 1 rfl rfl) rfl rfl ?_
  show z_W 996 294 4 [(0, .ref 1), (1, .int (28 : Int32))] [.int (1 : Int32)] m _
  refine w_p h_m294 2 (pc' := 8) (L' := [(0, .ref 1), (1, .int (28 : Int32))]) (st' := [.ref 1]) rfl ?_
  refine w_gs H (pc' := 11) (L' := [(0, .ref 1), (1, .int (28 : Int32))]) h_m294 (z_at.mk 3 rfl rfl) rfl (by decide) rfl rfl rfl rfl ?_
  refine w_p h_m294 1 (pc' := 12) (L' := [(0, .ref 1), (1, .int (28 : Int32))]) (st' := [.int (28 : Int32), .ref 19]) rfl ?_
  refine w_cs (As := [.ref 19, .int (28 : Int32)]) (rest := []) (j := 308) (L0 := [(0, .ref 19), (1, .int (28 : Int32))]) (pc' := 15) (L' := [(0, .ref 1), (1, .int (28 : Int32))]) h_m294 (z_at.mk 3 rfl rfl) (Or.inl ⟨rfl, rfl⟩) rfl rfl rfl rfl rfl ?_
  refine w_p h_m308 2 (pc' := 2) (L' := [(0, .ref 19), (1, .int (28 : Int32))]) (st' := [.ref 19, .int (28 : Int32)]) rfl ?_
  refine w_lene H (x := (39 : Int32)) (pc' := 3) (L' := [(0, .ref 19), (1, .int (28 : Int32))]) h_m308 (z_at.mk 1 rfl rfl) (by decide) rfl (by decide) rfl rfl rfl ?_
  refine w_ci (pc' := 6) (L' := [(0, .ref 19), (1, .int (28 : Int32))]) h_m308 (z_at.mk 3 rfl rfl) rfl (z_cat_le 0 rfl (by decide)) ⟨by decide, by decide⟩ rfl rfl ?_
  refine w_p h_m308 2 (pc' := 8) (L' := [(0, .ref 19), (1, .int (28 : Int32))]) (st' := [.int (28 : Int32), .ref 19]) rfl ?_
  refine w_ae H (j := 28) (pc' := 9) (L' := [(0, .ref 19), (1, .int (28 : Int32))]) h_m308 (z_at.mk 1 rfl rfl) rfl rfl rfl (by decide) rfl (by decide) rfl rfl rfl ?_
  refine w_p h_m308 3 (pc' := 14) (L' := [(0, .ref 19), (1, .int (28 : Int32))]) (st' := [.int (32 : Int32)]) rfl ?_
  refine w_ri h_m308 (z_at.mk 1 rfl rfl) rfl rfl ?_
  show z_W 996 294 15 [(0, .ref 1), (1, .int (28 : Int32))] [.int (32 : Int32)] m _
  refine w_ri h_m294 (z_at.mk 1 rfl rfl) rfl rfl ?_
  show z_W 997 102 80 [(0, .ref 120), (1, .ref 1), (2, .int (0 : Int32)), (3, .int (4 : Int32)), (4, .int (23 : Int32)), (5, .int (28 : Int32))] [.int (32 : Int32)] m _
  refine w_p h_m102 7 (pc' := 92) (L' := [(0, .ref 120), (1, .ref 1), (2, .int (0 : Int32)), (3, .int (4 : Int32)), (4, .int (23 : Int32)), (5, .int (28 : Int32))]) (st' := [.int (0 : Int32), .int (28 : Int32), .int (23 : Int32), .ref 1, .ref 120]) rfl ?_
  refine w_cv (H.t rfl) (pc' := 95) (L' := [(0, .ref 120), (1, .ref 1), (2, .int (0 : Int32)), (3, .int (4 : Int32)), (4, .int (23 : Int32)), (5, .int (28 : Int32))]) (rest := []) (Ps := [.ref 1, .int (23 : Int32), .int (28 : Int32), .int (0 : Int32)]) (L0 := [(0, .ref 120), (1, .ref 1), (2, .int (23 : Int32)), (3, .int (28 : Int32)), (4, .int (0 : Int32))]) h_m102 (z_at.mk 3 rfl rfl) (Or.inl ⟨rfl, rfl⟩) rfl rfl (by decide) (by decide) rfl rfl rfl rfl rfl rfl (by decide) rfl rfl rfl ?_
  refine w_p h_m103 1 (pc' := 1) (L' := [(0, .ref 120), (1, .ref 1), (2, .int (23 : Int32)), (3, .int (28 : Int32)), (4, .int (0 : Int32))]) (st' := [.ref 120]) rfl ?_
  refine w_cv (H.t rfl) (pc' := 4) (L' := [(0, .ref 120), (1, .ref 1), (2, .int (23 : Int32)), (3, .int (28 : Int32)), (4, .int (0 : Int32))]) (rest := []) (Ps := []) (L0 := [(0, .ref 120)]) h_m103 (z_at.mk 3 rfl rfl) (Or.inl ⟨rfl, rfl⟩) rfl rfl (by decide) (by decide) rfl rfl rfl rfl rfl rfl (by decide) rfl rfl rfl ?_
  refine w_p h_m93 1 (pc' := 1) (L' := [(0, .ref 120)]) (st' := [.ref 120]) rfl ?_
  refine w_gf H (pc' := 4) (L' := [(0, .ref 120)]) h_m93 (z_at.mk 3 rfl rfl) rfl (u := .int (-1 : Int32)) rfl rfl rfl ?_
  refine w_p h_m93 4 (pc' := 13) (L' := []) (st' := [.int (1 : Int32)]) rfl ?_
  refine w_ri h_m93 (z_at.mk 1 rfl rfl) rfl rfl ?_
  show z_W 996 103 4 [(0, .ref 120), (1, .ref 1), (2, .int (23 : Int32)), (3, .int (28 : Int32)), (4, .int (0 : Int32))] [.int (1 : Int32)] m _
  refine w_p h_m103 4 (pc' := 13) (L' := [(0, .ref 120), (1, .ref 1), (2, .int (23 : Int32)), (3, .int (28 : Int32)), (4, .int (0 : Int32))]) (st' := [.ref 120]) rfl ?_
  refine w_gf H (pc' := 16) (L' := [(0, .ref 120), (1, .ref 1), (2, .int (23 : Int32)), (3, .int (28 : Int32)), (4, .int (0 : Int32))]) h_m103 (z_at.mk 3 rfl rfl) rfl (u := .int (0 : Int32)) rfl rfl rfl ?_
  refine w_p h_m103 3 (pc' := 23) (L' := [(0, .ref 120), (1, .ref 1), (2, .int (23 : Int32)), (3, .int (28 : Int32)), (4, .int (0 : Int32))]) (st' := [.ref 120]) rfl ?_
  refine w_gf H (pc' := 26) (L' := [(0, .ref 120), (1, .ref 1), (2, .int (23 : Int32)), (3, .int (28 : Int32)), (4, .int (0 : Int32))]) h_m103 (z_at.mk 3 rfl rfl) rfl (u := .int (0 : Int32)) rfl rfl rfl ?_
  refine w_p h_m103 7 (pc' := 36) (L' := []) (st' := [.int (0 : Int32)]) rfl ?_
  refine w_ri h_m103 (z_at.mk 1 rfl rfl) rfl rfl ?_
  show z_W 997 102 95 [(0, .ref 120), (1, .ref 1), (2, .int (0 : Int32)), (3, .int (4 : Int32)), (4, .int (23 : Int32)), (5, .int (28 : Int32))] [.int (0 : Int32)] m _
  refine w_p h_m102 10 (pc' := 59) (L' := [(0, .ref 120), (1, .ref 1), (2, .int (0 : Int32)), (3, .int (5 : Int32)), (4, .int (29 : Int32)), (5, .int (29 : Int32))]) (st' := [.ref 1, .int (29 : Int32)]) rfl ?_
  refine w_cv (H.te (by decide) rfl).1 (pc' := 62) (L' := [(0, .ref 120), (1, .ref 1), (2, .int (0 : Int32)), (3, .int (5 : Int32)), (4, .int (29 : Int32)), (5, .int (29 : Int32))]) (rest := [.int (29 : Int32)]) (Ps := []) (L0 := [(0, .ref 1)]) h_m102 (z_at.mk 3 rfl rfl) (Or.inl ⟨rfl, rfl⟩) rfl rfl (by decide) (by decide) rfl rfl rfl rfl rfl rfl (by decide) rfl rfl rfl ?_
  refine w_p h_m293 1 (pc' := 1) (L' := [(0, .ref 1)]) (st' := [.ref 1]) rfl ?_
  refine w_gs H (pc' := 4) (L' := [(0, .ref 1)]) h_m293 (z_at.mk 3 rfl rfl) rfl (by decide) rfl rfl rfl rfl ?_
  refine w_lene H (x := (39 : Int32)) (pc' := 5) (L' := [(0, .ref 1)]) h_m293 (z_at.mk 1 rfl rfl) (by decide) rfl (by decide) rfl rfl rfl ?_
  refine w_p h_m293 1 (pc' := 6) (L' := [(0, .ref 1)]) (st' := [.ref 1, .int (39 : Int32)]) rfl ?_
  refine w_cv (H.te (by decide) rfl).1 (pc' := 9) (L' := [(0, .ref 1)]) (rest := [.int (39 : Int32)]) (Ps := []) (L0 := [(0, .ref 1)]) h_m293 (z_at.mk 3 rfl rfl) (Or.inl ⟨rfl, rfl⟩) rfl rfl (by decide) (by decide) rfl rfl rfl rfl rfl rfl (by decide) rfl rfl rfl ?_
  refine w_p h_m298 3 (pc' := 7) (L' := [(0, .ref 1)]) (st' := [.ref 1]) rfl ?_
  refine w_gs H (pc' := 10) (L' := [(0, .ref 1)]) h_m298 (z_at.mk 3 rfl rfl) rfl (by decide) rfl rfl rfl rfl ?_
  refine w_p h_m298 1 (pc' := 14) (L' := []) (st' := [.int (0 : Int32)]) rfl ?_
  refine w_ri h_m298 (z_at.mk 1 rfl rfl) rfl rfl ?_
  show z_W 996 293 9 [(0, .ref 1)] [.int (0 : Int32), .int (39 : Int32)] m _
  refine w_p h_m293 1 (pc' := 10) (L' := [(0, .ref 1)]) (st' := [.int (39 : Int32)]) rfl ?_
  refine w_ri h_m293 (z_at.mk 1 rfl rfl) rfl rfl ?_
  show z_W 997 102 62 [(0, .ref 120), (1, .ref 1), (2, .int (0 : Int32)), (3, .int (5 : Int32)), (4, .int (29 : Int32)), (5, .int (29 : Int32))] [.int (39 : Int32), .int (29 : Int32)] m _
  refine w_p h_m102 3 (pc' := 68) (L' := [(0, .ref 120), (1, .ref 1), (2, .int (0 : Int32)), (3, .int (5 : Int32)), (4, .int (29 : Int32)), (5, .int (29 : Int32))]) (st' := [.ref 1, .int (29 : Int32)]) rfl ?_
  refine w_cv (H.te (by decide) rfl).1 (pc' := 71) (L' := [(0, .ref 120), (1, .ref 1), (2, .int (0 : Int32)), (3, .int (5 : Int32)), (4, .int (29 : Int32)), (5, .int (29 : Int32))]) (rest := [.int (29 : Int32)]) (Ps := []) (L0 := [(0, .ref 1)]) h_m102 (z_at.mk 3 rfl rfl) (Or.inl ⟨rfl, rfl⟩) rfl rfl (by decide) (by decide) rfl rfl rfl rfl rfl rfl (by decide) rfl rfl rfl ?_
  refine w_p h_m293 1 (pc' := 1) (L' := [(0, .ref 1)]) (st' := [.ref 1]) rfl ?_
  refine w_gs H (pc' := 4) (L' := [(0, .ref 1)]) h_m293 (z_at.mk 3 rfl rfl) rfl (by decide) rfl rfl rfl rfl ?_
  refine w_lene H (x := (39 : Int32)) (pc' := 5) (L' := [(0, .ref 1)]) h_m293 (z_at.mk 1 rfl rfl) (by decide) rfl (by decide) rfl rfl rfl ?_
  refine w_p h_m293 1 (pc' := 6) (L' := [(0, .ref 1)]) (st' := [.ref 1, .int (39 : Int32)]) rfl ?_
  refine w_cv (H.te (by decide) rfl).1 (pc' := 9) (L' := [(0, .ref 1)]) (rest := [.int (39 : Int32)]) (Ps := []) (L0 := [(0, .ref 1)]) h_m293 (z_at.mk 3 rfl rfl) (Or.inl ⟨rfl, rfl⟩) rfl rfl (by decide) (by decide) rfl rfl rfl rfl rfl rfl (by decide) rfl rfl rfl ?_
  refine w_p h_m298 3 (pc' := 7) (L' := [(0, .ref 1)]) (st' := [.ref 1]) rfl ?_
  refine w_gs H (pc' := 10) (L' := [(0, .ref 1)]) h_m298 (z_at.mk 3 rfl rfl) rfl (by decide) rfl rfl rfl rfl ?_
  refine w_p h_m298 1 (pc' := 14) (L' := []) (st' := [.int (0 : Int32)]) rfl ?_
  refine w_ri h_m298 (z_at.mk 1 rfl rfl) rfl rfl ?_
  show z_W 996 293 9 [(0, .ref 1)] [.int (0 : Int32), .int (39 : Int32)] m _
  refine w_p h_m293 1 (pc' := 10) (L' := [(0, .ref 1)]) (st' := [.int (39 : Int32)]) rfl ?_
  refine w_ri h_m293 (z_at.mk 1 rfl rfl) rfl rfl ?_
  show z_W 997 102 71 [(0, .ref 120), (1, .ref 1), (2, .int (0 : Int32)), (3, .int (5 : Int32)), (4, .int (29 : Int32)), (5, .int (29 : Int32))] [.int (39 : Int32), .int (29 : Int32)] m _
  refine w_p h_m102 3 (pc' := 77) (L' := [(0, .ref 120), (1, .ref 1), (2, .int (0 : Int32)), (3, .int (5 : Int32)), (4, .int (29 : Int32)), (5, .int (29 : Int32))]) (st' := [.int (29 : Int32), .ref 1]) rfl ?_
  refine w_cv (H.te (by decide) rfl).1 (pc' := 80) (L' := [(0, .ref 120), (1, .ref 1), (2, .int (0 : Int32)), (3, .int (5 : Int32)), (4, .int (29 : Int32)), (5, .int (29 : Int32))]) (rest := []) (Ps := [.int (29 : Int32)]) (L0 := [(0, .ref 1), (1, .int (29 : Int32))]) h_m102 (z_at.mk 3 rfl rfl) (Or.inl ⟨rfl, rfl⟩) rfl rfl (by decide) (by decide) rfl rfl rfl rfl rfl rfl (by decide) rfl rfl rfl ?_
  refine w_p h_m294 1 (pc' := 1) (L' := [(0, .ref 1), (1, .int (29 : Int32))]) (st' := [.ref 1]) rfl ?_
  refine w_cv (H.te (by decide) rfl).1 (pc' := 4) (L' := [(0, .ref 1), (1, .int (29 : Int32))]) (rest := []) (Ps := []) (L0 := [(0, .ref 1)]) h_m294 (z_at.mk 3 rfl rfl) (Or.inl ⟨rfl, rfl⟩) rfl rfl (by decide) (by decide) rfl rfl rfl rfl rfl rfl (by decide) rfl rfl rfl ?_
  refine w_p h_m299 3 (pc' := 7) (L' := [(0, .ref 1)]) (st' := [.ref 1]) rfl ?_
  refine w_gs H (pc' := 10) (L' := [(0, .ref 1)]) h_m299 (z_at.mk 3 rfl rfl) rfl (by decide) rfl rfl rfl rfl ?_
  refine w_p h_m299 3 (pc' := 18) (L' := []) (st' := [.int (1 : Int32)]) rfl ?_
  refine w_ri h_m299 (z_at.mk 1 rfl rfl) rfl rfl ?_
  show z_W 996 294 4 [(0, .ref 1), (1, .int (29 : Int32))] [.int (1 : Int32)] m _
  refine w_p h_m294 2 (pc' := 8) (L' := [(0, .ref 1), (1, .int (29 : Int32))]) (st' := [.ref 1]) rfl ?_
  refine w_gs H (pc' := 11) (L' := [(0, .ref 1), (1, .int (29 : Int32))]) h_m294 (z_at.mk 3 rfl rfl) rfl (by decide) rfl rfl rfl rfl ?_
  refine w_p h_m294 1 (pc' := 12) (L' := [(0, .ref 1), (1, .int (29 : Int32))]) (st' := [.int (29 : Int32), .ref 19]) rfl ?_
  refine w_cs (As := [.ref 19, .int (29 : Int32)]) (rest := []) (j := 308) (L0 := [(0, .ref 19), (1, .int (29 : Int32))]) (pc' := 15) (L' := [(0, .ref 1), (1, .int (29 : Int32))]) h_m294 (z_at.mk 3 rfl rfl) (Or.inl ⟨rfl, rfl⟩) rfl rfl rfl rfl rfl ?_
  refine w_p h_m308 2 (pc' := 2) (L' := [(0, .ref 19), (1, .int (29 : Int32))]) (st' := [.ref 19, .int (29 : Int32)]) rfl ?_
  refine w_lene H (x := (39 : Int32)) (pc' := 3) (L' := [(0, .ref 19), (1, .int (29 : Int32))]) h_m308 (z_at.mk 1 rfl rfl) (by decide) rfl (by decide) rfl rfl rfl ?_
  refine w_ci (pc' := 6) (L' := [(0, .ref 19), (1, .int (29 : Int32))]) h_m308 (z_at.mk 3 rfl rfl) rfl (z_cat_le 0 rfl (by decide)) ⟨by decide, by decide⟩ rfl rfl ?_
  refine w_p h_m308 2 (pc' := 8) (L' := [(0, .ref 19), (1, .int (29 : Int32))]) (st' := [.int (29 : Int32), .ref 19]) rfl ?_
  refine w_ae H (j := 29) (pc' := 9) (L' := [(0, .ref 19), (1, .int (29 : Int32))]) h_m308 (z_at.mk 1 rfl rfl) rfl rfl rfl (by decide) rfl (by decide) rfl rfl rfl ?_
  refine w_p h_m308 3 (pc' := 14) (L' := [(0, .ref 19), (1, .int (29 : Int32))]) (st' := [.int (115 : Int32)]) rfl ?_
  refine w_ri h_m308 (z_at.mk 1 rfl rfl) rfl rfl ?_
  show z_W 996 294 15 [(0, .ref 1), (1, .int (29 : Int32))] [.int (115 : Int32)] m _
  refine w_ri h_m294 (z_at.mk 1 rfl rfl) rfl rfl ?_
  show z_W 997 102 80 [(0, .ref 120), (1, .ref 1), (2, .int (0 : Int32)), (3, .int (5 : Int32)), (4, .int (29 : Int32)), (5, .int (29 : Int32))] [.int (115 : Int32)] m _
  refine w_p h_m102 6 (pc' := 59) (L' := [(0, .ref 120), (1, .ref 1), (2, .int (0 : Int32)), (3, .int (5 : Int32)), (4, .int (29 : Int32)), (5, .int (30 : Int32))]) (st' := [.ref 1, .int (30 : Int32)]) rfl ?_
  refine w_cv (H.te (by decide) rfl).1 (pc' := 62) (L' := [(0, .ref 120), (1, .ref 1), (2, .int (0 : Int32)), (3, .int (5 : Int32)), (4, .int (29 : Int32)), (5, .int (30 : Int32))]) (rest := [.int (30 : Int32)]) (Ps := []) (L0 := [(0, .ref 1)]) h_m102 (z_at.mk 3 rfl rfl) (Or.inl ⟨rfl, rfl⟩) rfl rfl (by decide) (by decide) rfl rfl rfl rfl rfl rfl (by decide) rfl rfl rfl ?_
  refine w_p h_m293 1 (pc' := 1) (L' := [(0, .ref 1)]) (st' := [.ref 1]) rfl ?_
  refine w_gs H (pc' := 4) (L' := [(0, .ref 1)]) h_m293 (z_at.mk 3 rfl rfl) rfl (by decide) rfl rfl rfl rfl ?_
  refine w_lene H (x := (39 : Int32)) (pc' := 5) (L' := [(0, .ref 1)]) h_m293 (z_at.mk 1 rfl rfl) (by decide) rfl (by decide) rfl rfl rfl ?_
  refine w_p h_m293 1 (pc' := 6) (L' := [(0, .ref 1)]) (st' := [.ref 1, .int (39 : Int32)]) rfl ?_
  refine w_cv (H.te (by decide) rfl).1 (pc' := 9) (L' := [(0, .ref 1)]) (rest := [.int (39 : Int32)]) (Ps := []) (L0 := [(0, .ref 1)]) h_m293 (z_at.mk 3 rfl rfl) (Or.inl ⟨rfl, rfl⟩) rfl rfl (by decide) (by decide) rfl rfl rfl rfl rfl rfl (by decide) rfl rfl rfl ?_
  refine w_p h_m298 3 (pc' := 7) (L' := [(0, .ref 1)]) (st' := [.ref 1]) rfl ?_
  refine w_gs H (pc' := 10) (L' := [(0, .ref 1)]) h_m298 (z_at.mk 3 rfl rfl) rfl (by decide) rfl rfl rfl rfl ?_
  refine w_p h_m298 1 (pc' := 14) (L' := []) (st' := [.int (0 : Int32)]) rfl ?_
  refine w_ri h_m298 (z_at.mk 1 rfl rfl) rfl rfl ?_
  show z_W 996 293 9 [(0, .ref 1)] [.int (0 : Int32), .int (39 : Int32)] m _
  refine w_p h_m293 1 (pc' := 10) (L' := [(0, .ref 1)]) (st' := [.int (39 : Int32)]) rfl ?_
  refine w_ri h_m293 (z_at.mk 1 rfl rfl) rfl rfl ?_
  show z_W 997 102 62 [(0, .ref 120), (1, .ref 1), (2, .int (0 : Int32)), (3, .int (5 : Int32)), (4, .int (29 : Int32)), (5, .int (30 : Int32))] [.int (39 : Int32), .int (30 : Int32)] m _
  refine w_p h_m102 3 (pc' := 68) (L' := [(0, .ref 120), (1, .ref 1), (2, .int (0 : Int32)), (3, .int (5 : Int32)), (4, .int (29 : Int32)), (5, .int (30 : Int32))]) (st' := [.ref 1, .int (30 : Int32)]) rfl ?_
  refine w_cv (H.te (by decide) rfl).1 (pc' := 71) (L' := [(0, .ref 120), (1, .ref 1), (2, .int (0 : Int32)), (3, .int (5 : Int32)), (4, .int (29 : Int32)), (5, .int (30 : Int32))]) (rest := [.int (30 : Int32)]) (Ps := []) (L0 := [(0, .ref 1)]) h_m102 (z_at.mk 3 rfl rfl) (Or.inl ⟨rfl, rfl⟩) rfl rfl (by decide) (by decide) rfl rfl rfl rfl rfl rfl (by decide) rfl rfl rfl ?_
  refine w_p h_m293 1 (pc' := 1) (L' := [(0, .ref 1)]) (st' := [.ref 1]) rfl ?_
  refine w_gs H (pc' := 4) (L' := [(0, .ref 1)]) h_m293 (z_at.mk 3 rfl rfl) rfl (by decide) rfl rfl rfl rfl ?_
  refine w_lene H (x := (39 : Int32)) (pc' := 5) (L' := [(0, .ref 1)]) h_m293 (z_at.mk 1 rfl rfl) (by decide) rfl (by decide) rfl rfl rfl ?_
  refine w_p h_m293 1 (pc' := 6) (L' := [(0, .ref 1)]) (st' := [.ref 1, .int (39 : Int32)]) rfl ?_
  refine w_cv (H.te (by decide) rfl).1 (pc' := 9) (L' := [(0, .ref 1)]) (rest := [.int (39 : Int32)]) (Ps := []) (L0 := [(0, .ref 1)]) h_m293 (z_at.mk 3 rfl rfl) (Or.inl ⟨rfl, rfl⟩) rfl rfl (by decide) (by decide) rfl rfl rfl rfl rfl rfl (by decide) rfl rfl rfl ?_
  refine w_p h_m298 3 (pc' := 7) (L' := [(0, .ref 1)]) (st' := [.ref 1]) rfl ?_
  refine w_gs H (pc' := 10) (L' := [(0, .ref 1)]) h_m298 (z_at.mk 3 rfl rfl) rfl (by decide) rfl rfl rfl rfl ?_
  refine w_p h_m298 1 (pc' := 14) (L' := []) (st' := [.int (0 : Int32)]) rfl ?_
  refine w_ri h_m298 (z_at.mk 1 rfl rfl) rfl rfl ?_
  show z_W 996 293 9 [(0, .ref 1)] [.int (0 : Int32), .int (39 : Int32)] m _
  refine w_p h_m293 1 (pc' := 10) (L' := [(0, .ref 1)]) (st' := [.int (39 : Int32)]) rfl ?_
  refine w_ri h_m293 (z_at.mk 1 rfl rfl) rfl rfl ?_
  show z_W 997 102 71 [(0, .ref 120), (1, .ref 1), (2, .int (0 : Int32)), (3, .int (5 : Int32)), (4, .int (29 : Int32)), (5, .int (30 : Int32))] [.int (39 : Int32), .int (30 : Int32)] m _
  refine w_p h_m102 3 (pc' := 77) (L' := [(0, .ref 120), (1, .ref 1), (2, .int (0 : Int32)), (3, .int (5 : Int32)), (4, .int (29 : Int32)), (5, .int (30 : Int32))]) (st' := [.int (30 : Int32), .ref 1]) rfl ?_
  refine w_cv (H.te (by decide) rfl).1 (pc' := 80) (L' := [(0, .ref 120), (1, .ref 1), (2, .int (0 : Int32)), (3, .int (5 : Int32)), (4, .int (29 : Int32)), (5, .int (30 : Int32))]) (rest := []) (Ps := [.int (30 : Int32)]) (L0 := [(0, .ref 1), (1, .int (30 : Int32))]) h_m102 (z_at.mk 3 rfl rfl) (Or.inl ⟨rfl, rfl⟩) rfl rfl (by decide) (by decide) rfl rfl rfl rfl rfl rfl (by decide) rfl rfl rfl ?_
  refine w_p h_m294 1 (pc' := 1) (L' := [(0, .ref 1), (1, .int (30 : Int32))]) (st' := [.ref 1]) rfl ?_
  refine w_cv (H.te (by decide) rfl).1 (pc' := 4) (L' := [(0, .ref 1), (1, .int (30 : Int32))]) (rest := []) (Ps := []) (L0 := [(0, .ref 1)]) h_m294 (z_at.mk 3 rfl rfl) (Or.inl ⟨rfl, rfl⟩) rfl rfl (by decide) (by decide) rfl rfl rfl rfl rfl rfl (by decide) rfl rfl rfl ?_
  refine w_p h_m299 3 (pc' := 7) (L' := [(0, .ref 1)]) (st' := [.ref 1]) rfl ?_
  refine w_gs H (pc' := 10) (L' := [(0, .ref 1)]) h_m299 (z_at.mk 3 rfl rfl) rfl (by decide) rfl rfl rfl rfl ?_
  refine w_p h_m299 3 (pc' := 18) (L' := []) (st' := [.int (1 : Int32)]) rfl ?_
  refine w_ri h_m299 (z_at.mk 1 rfl rfl) rfl rfl ?_
  show z_W 996 294 4 [(0, .ref 1), (1, .int (30 : Int32))] [.int (1 : Int32)] m _
  refine w_p h_m294 2 (pc' := 8) (L' := [(0, .ref 1), (1, .int (30 : Int32))]) (st' := [.ref 1]) rfl ?_
  refine w_gs H (pc' := 11) (L' := [(0, .ref 1), (1, .int (30 : Int32))]) h_m294 (z_at.mk 3 rfl rfl) rfl (by decide) rfl rfl rfl rfl ?_
  refine w_p h_m294 1 (pc' := 12) (L' := [(0, .ref 1), (1, .int (30 : Int32))]) (st' := [.int (30 : Int32), .ref 19]) rfl ?_
  refine w_cs (As := [.ref 19, .int (30 : Int32)]) (rest := []) (j := 308) (L0 := [(0, .ref 19), (1, .int (30 : Int32))]) (pc' := 15) (L' := [(0, .ref 1), (1, .int (30 : Int32))]) h_m294 (z_at.mk 3 rfl rfl) (Or.inl ⟨rfl, rfl⟩) rfl rfl rfl rfl rfl ?_
  refine w_p h_m308 2 (pc' := 2) (L' := [(0, .ref 19), (1, .int (30 : Int32))]) (st' := [.ref 19, .int (30 : Int32)]) rfl ?_
  refine w_lene H (x := (39 : Int32)) (pc' := 3) (L' := [(0, .ref 19), (1, .int (30 : Int32))]) h_m308 (z_at.mk 1 rfl rfl) (by decide) rfl (by decide) rfl rfl rfl ?_
  refine w_ci (pc' := 6) (L' := [(0, .ref 19), (1, .int (30 : Int32))]) h_m308 (z_at.mk 3 rfl rfl) rfl (z_cat_le 0 rfl (by decide)) ⟨by decide, by decide⟩ rfl rfl ?_
  refine w_p h_m308 2 (pc' := 8) (L' := [(0, .ref 19), (1, .int (30 : Int32))]) (st' := [.int (30 : Int32), .ref 19]) rfl ?_
  refine w_ae H (j := 30) (pc' := 9) (L' := [(0, .ref 19), (1, .int (30 : Int32))]) h_m308 (z_at.mk 1 rfl rfl) rfl rfl rfl (by decide) rfl (by decide) rfl rfl rfl ?_
  refine w_p h_m308 3 (pc' := 14) (L' := [(0, .ref 19), (1, .int (30 : Int32))]) (st' := [.int (104 : Int32)]) rfl ?_
  refine w_ri h_m308 (z_at.mk 1 rfl rfl) rfl rfl ?_
  show z_W 996 294 15 [(0, .ref 1), (1, .int (30 : Int32))] [.int (104 : Int32)] m _
  refine w_ri h_m294 (z_at.mk 1 rfl rfl) rfl rfl ?_
  show z_W 997 102 80 [(0, .ref 120), (1, .ref 1), (2, .int (0 : Int32)), (3, .int (5 : Int32)), (4, .int (29 : Int32)), (5, .int (30 : Int32))] [.int (104 : Int32)] m _
  refine w_p h_m102 6 (pc' := 59) (L' := [(0, .ref 120), (1, .ref 1), (2, .int (0 : Int32)), (3, .int (5 : Int32)), (4, .int (29 : Int32)), (5, .int (31 : Int32))]) (st' := [.ref 1, .int (31 : Int32)]) rfl ?_
  refine w_cv (H.te (by decide) rfl).1 (pc' := 62) (L' := [(0, .ref 120), (1, .ref 1), (2, .int (0 : Int32)), (3, .int (5 : Int32)), (4, .int (29 : Int32)), (5, .int (31 : Int32))]) (rest := [.int (31 : Int32)]) (Ps := []) (L0 := [(0, .ref 1)]) h_m102 (z_at.mk 3 rfl rfl) (Or.inl ⟨rfl, rfl⟩) rfl rfl (by decide) (by decide) rfl rfl rfl rfl rfl rfl (by decide) rfl rfl rfl ?_
  refine w_p h_m293 1 (pc' := 1) (L' := [(0, .ref 1)]) (st' := [.ref 1]) rfl ?_
  refine w_gs H (pc' := 4) (L' := [(0, .ref 1)]) h_m293 (z_at.mk 3 rfl rfl) rfl (by decide) rfl rfl rfl rfl ?_
  refine w_lene H (x := (39 : Int32)) (pc' := 5) (L' := [(0, .ref 1)]) h_m293 (z_at.mk 1 rfl rfl) (by decide) rfl (by decide) rfl rfl rfl ?_
  refine w_p h_m293 1 (pc' := 6) (L' := [(0, .ref 1)]) (st' := [.ref 1, .int (39 : Int32)]) rfl ?_
  refine w_cv (H.te (by decide) rfl).1 (pc' := 9) (L' := [(0, .ref 1)]) (rest := [.int (39 : Int32)]) (Ps := []) (L0 := [(0, .ref 1)]) h_m293 (z_at.mk 3 rfl rfl) (Or.inl ⟨rfl, rfl⟩) rfl rfl (by decide) (by decide) rfl rfl rfl rfl rfl rfl (by decide) rfl rfl rfl ?_
  refine w_p h_m298 3 (pc' := 7) (L' := [(0, .ref 1)]) (st' := [.ref 1]) rfl ?_
  refine w_gs H (pc' := 10) (L' := [(0, .ref 1)]) h_m298 (z_at.mk 3 rfl rfl) rfl (by decide) rfl rfl rfl rfl ?_
  refine w_p h_m298 1 (pc' := 14) (L' := []) (st' := [.int (0 : Int32)]) rfl ?_
  refine w_ri h_m298 (z_at.mk 1 rfl rfl) rfl rfl ?_
  show z_W 996 293 9 [(0, .ref 1)] [.int (0 : Int32), .int (39 : Int32)] m _
  refine w_p h_m293 1 (pc' := 10) (L' := [(0, .ref 1)]) (st' := [.int (39 : Int32)]) rfl ?_
  refine w_ri h_m293 (z_at.mk 1 rfl rfl) rfl rfl ?_
  show z_W 997 102 62 [(0, .ref 120), (1, .ref 1), (2, .int (0 : Int32)), (3, .int (5 : Int32)), (4, .int (29 : Int32)), (5, .int (31 : Int32))] [.int (39 : Int32), .int (31 : Int32)] m _
  refine w_p h_m102 3 (pc' := 68) (L' := [(0, .ref 120), (1, .ref 1), (2, .int (0 : Int32)), (3, .int (5 : Int32)), (4, .int (29 : Int32)), (5, .int (31 : Int32))]) (st' := [.ref 1, .int (31 : Int32)]) rfl ?_
  refine w_cv (H.te (by decide) rfl).1 (pc' := 71) (L' := [(0, .ref 120), (1, .ref 1), (2, .int (0 : Int32)), (3, .int (5 : Int32)), (4, .int (29 : Int32)), (5, .int (31 : Int32))]) (rest := [.int (31 : Int32)]) (Ps := []) (L0 := [(0, .ref 1)]) h_m102 (z_at.mk 3 rfl rfl) (Or.inl ⟨rfl, rfl⟩) rfl rfl (by decide) (by decide) rfl rfl rfl rfl rfl rfl (by decide) rfl rfl rfl ?_
  refine w_p h_m293 1 (pc' := 1) (L' := [(0, .ref 1)]) (st' := [.ref 1]) rfl ?_
  refine w_gs H (pc' := 4) (L' := [(0, .ref 1)]) h_m293 (z_at.mk 3 rfl rfl) rfl (by decide) rfl rfl rfl rfl ?_
  refine w_lene H (x := (39 : Int32)) (pc' := 5) (L' := [(0, .ref 1)]) h_m293 (z_at.mk 1 rfl rfl) (by decide) rfl (by decide) rfl rfl rfl ?_
  refine w_p h_m293 1 (pc' := 6) (L' := [(0, .ref 1)]) (st' := [.ref 1, .int (39 : Int32)]) rfl ?_
  refine w_cv (H.te (by decide) rfl).1 (pc' := 9) (L' := [(0, .ref 1)]) (rest := [.int (39 : Int32)]) (Ps := []) (L0 := [(0, .ref 1)]) h_m293 (z_at.mk 3 rfl rfl) (Or.inl ⟨rfl, rfl⟩) rfl rfl (by decide) (by decide) rfl rfl rfl rfl rfl rfl (by decide) rfl rfl rfl ?_
  refine w_p h_m298 3 (pc' := 7) (L' := [(0, .ref 1)]) (st' := [.ref 1]) rfl ?_
  refine w_gs H (pc' := 10) (L' := [(0, .ref 1)]) h_m298 (z_at.mk 3 rfl rfl) rfl (by decide) rfl rfl rfl rfl ?_
  refine w_p h_m298 1 (pc' := 14) (L' := []) (st' := [.int (0 : Int32)]) rfl ?_
  refine w_ri h_m298 (z_at.mk 1 rfl rfl) rfl rfl ?_
  show z_W 996 293 9 [(0, .ref 1)] [.int (0 : Int32), .int (39 : Int32)] m _
  refine w_p h_m293 1 (pc' := 10) (L' := [(0, .ref 1)]) (st' := [.int (39 : Int32)]) rfl ?_
  refine w_ri h_m293 (z_at.mk 1 rfl rfl) rfl rfl ?_
  show z_W 997 102 71 [(0, .ref 120), (1, .ref 1), (2, .int (0 : Int32)), (3, .int (5 : Int32)), (4, .int (29 : Int32)), (5, .int (31 : Int32))] [.int (39 : Int32), .int (31 : Int32)] m _
  refine w_p h_m102 3 (pc' := 77) (L' := [(0, .ref 120), (1, .ref 1), (2, .int (0 : Int32)), (3, .int (5 : Int32)), (4, .int (29 : Int32)), (5, .int (31 : Int32))]) (st' := [.int (31 : Int32), .ref 1]) rfl ?_
  refine w_cv (H.te (by decide) rfl).1 (pc' := 80) (L' := [(0, .ref 120), (1, .ref 1), (2, .int (0 : Int32)), (3, .int (5 : Int32)), (4, .int (29 : Int32)), (5, .int (31 : Int32))]) (rest := []) (Ps := [.int (31 : Int32)]) (L0 := [(0, .ref 1), (1, .int (31 : Int32))]) h_m102 (z_at.mk 3 rfl rfl) (Or.inl ⟨rfl, rfl⟩) rfl rfl (by decide) (by decide) rfl rfl rfl rfl rfl rfl (by decide) rfl rfl rfl ?_
  refine w_p h_m294 1 (pc' := 1) (L' := [(0, .ref 1), (1, .int (31 : Int32))]) (st' := [.ref 1]) rfl ?_
  refine w_cv (H.te (by decide) rfl).1 (pc' := 4) (L' := [(0, .ref 1), (1, .int (31 : Int32))]) (rest := []) (Ps := []) (L0 := [(0, .ref 1)]) h_m294 (z_at.mk 3 rfl rfl) (Or.inl ⟨rfl, rfl⟩) rfl rfl (by decide) (by decide) rfl rfl rfl rfl rfl rfl (by decide) rfl rfl rfl ?_
  refine w_p h_m299 3 (pc' := 7) (L' := [(0, .ref 1)]) (st' := [.ref 1]) rfl ?_
  refine w_gs H (pc' := 10) (L' := [(0, .ref 1)]) h_m299 (z_at.mk 3 rfl rfl) rfl (by decide) rfl rfl rfl rfl ?_
  refine w_p h_m299 3 (pc' := 18) (L' := []) (st' := [.int (1 : Int32)]) rfl ?_
  refine w_ri h_m299 (z_at.mk 1 rfl rfl) rfl rfl ?_
  show z_W 996 294 4 [(0, .ref 1), (1, .int (31 : Int32))] [.int (1 : Int32)] m _
  refine w_p h_m294 2 (pc' := 8) (L' := [(0, .ref 1), (1, .int (31 : Int32))]) (st' := [.ref 1]) rfl ?_
  refine w_gs H (pc' := 11) (L' := [(0, .ref 1), (1, .int (31 : Int32))]) h_m294 (z_at.mk 3 rfl rfl) rfl (by decide) rfl rfl rfl rfl ?_
  refine w_p h_m294 1 (pc' := 12) (L' := [(0, .ref 1), (1, .int (31 : Int32))]) (st' := [.int (31 : Int32), .ref 19]) rfl ?_
  refine w_cs (As := [.ref 19, .int (31 : Int32)]) (rest := []) (j := 308) (L0 := [(0, .ref 19), (1, .int (31 : Int32))]) (pc' := 15) (L' := [(0, .ref 1), (1, .int (31 : Int32))]) h_m294 (z_at.mk 3 rfl rfl) (Or.inl ⟨rfl, rfl⟩) rfl rfl rfl rfl rfl ?_
  refine w_p h_m308 2 (pc' := 2) (L' := [(0, .ref 19), (1, .int (31 : Int32))]) (st' := [.ref 19, .int (31 : Int32)]) rfl ?_
  refine w_lene H (x := (39 : Int32)) (pc' := 3) (L' := [(0, .ref 19), (1, .int (31 : Int32))]) h_m308 (z_at.mk 1 rfl rfl) (by decide) rfl (by decide) rfl rfl rfl ?_
  refine w_ci (pc' := 6) (L' := [(0, .ref 19), (1, .int (31 : Int32))]) h_m308 (z_at.mk 3 rfl rfl) rfl (z_cat_le 0 rfl (by decide)) ⟨by decide, by decide⟩ rfl rfl ?_
  refine w_p h_m308 2 (pc' := 8) (L' := [(0, .ref 19), (1, .int (31 : Int32))]) (st' := [.int (31 : Int32), .ref 19]) rfl ?_
  refine w_ae H (j := 31) (pc' := 9) (L' := [(0, .ref 19), (1, .int (31 : Int32))]) h_m308 (z_at.mk 1 rfl rfl) rfl rfl rfl (by decide) rfl (by decide) rfl rfl rfl ?_
  refine w_p h_m308 3 (pc' := 14) (L' := [(0, .ref 19), (1, .int (31 : Int32))]) (st' := [.int (114 : Int32)]) rfl ?_
  refine w_ri h_m308 (z_at.mk 1 rfl rfl) rfl rfl ?_
  show z_W 996 294 15 [(0, .ref 1), (1, .int (31 : Int32))] [.int (114 : Int32)] m _
  refine w_ri h_m294 (z_at.mk 1 rfl rfl) rfl rfl ?_
  show z_W 997 102 80 [(0, .ref 120), (1, .ref 1), (2, .int (0 : Int32)), (3, .int (5 : Int32)), (4, .int (29 : Int32)), (5, .int (31 : Int32))] [.int (114 : Int32)] m _
  refine w_p h_m102 6 (pc' := 59) (L' := [(0, .ref 120), (1, .ref 1), (2, .int (0 : Int32)), (3, .int (5 : Int32)), (4, .int (29 : Int32)), (5, .int (32 : Int32))]) (st' := [.ref 1, .int (32 : Int32)]) rfl ?_
  refine w_cv (H.te (by decide) rfl).1 (pc' := 62) (L' := [(0, .ref 120), (1, .ref 1), (2, .int (0 : Int32)), (3, .int (5 : Int32)), (4, .int (29 : Int32)), (5, .int (32 : Int32))]) (rest := [.int (32 : Int32)]) (Ps := []) (L0 := [(0, .ref 1)]) h_m102 (z_at.mk 3 rfl rfl) (Or.inl ⟨rfl, rfl⟩) rfl rfl (by decide) (by decide) rfl rfl rfl rfl rfl rfl (by decide) rfl rfl rfl ?_
  refine w_p h_m293 1 (pc' := 1) (L' := [(0, .ref 1)]) (st' := [.ref 1]) rfl ?_
  refine w_gs H (pc' := 4) (L' := [(0, .ref 1)]) h_m293 (z_at.mk 3 rfl rfl) rfl (by decide) rfl rfl rfl rfl ?_
  refine w_lene H (x := (39 : Int32)) (pc' := 5) (L' := [(0, .ref 1)]) h_m293 (z_at.mk 1 rfl rfl) (by decide) rfl (by decide) rfl rfl rfl ?_
  refine w_p h_m293 1 (pc' := 6) (L' := [(0, .ref 1)]) (st' := [.ref 1, .int (39 : Int32)]) rfl ?_
  refine w_cv (H.te (by decide) rfl).1 (pc' := 9) (L' := [(0, .ref 1)]) (rest := [.int (39 : Int32)]) (Ps := []) (L0 := [(0, .ref 1)]) h_m293 (z_at.mk 3 rfl rfl) (Or.inl ⟨rfl, rfl⟩) rfl rfl (by decide) (by decide) rfl rfl rfl rfl rfl rfl (by decide) rfl rfl rfl ?_
  refine w_p h_m298 3 (pc' := 7) (L' := [(0, .ref 1)]) (st' := [.ref 1]) rfl ?_
  refine w_gs H (pc' := 10) (L' := [(0, .ref 1)]) h_m298 (z_at.mk 3 rfl rfl) rfl (by decide) rfl rfl rfl rfl ?_
  refine w_p h_m298 1 (pc' := 14) (L' := []) (st' := [.int (0 : Int32)]) rfl ?_
  refine w_ri h_m298 (z_at.mk 1 rfl rfl) rfl rfl ?_
  show z_W 996 293 9 [(0, .ref 1)] [.int (0 : Int32), .int (39 : Int32)] m _
  refine w_p h_m293 1 (pc' := 10) (L' := [(0, .ref 1)]) (st' := [.int (39 : Int32)]) rfl ?_
  refine w_ri h_m293 (z_at.mk 1 rfl rfl) rfl rfl ?_
  show z_W 997 102 62 [(0, .ref 120), (1, .ref 1), (2, .int (0 : Int32)), (3, .int (5 : Int32)), (4, .int (29 : Int32)), (5, .int (32 : Int32))] [.int (39 : Int32), .int (32 : Int32)] m _
  refine w_p h_m102 3 (pc' := 68) (L' := [(0, .ref 120), (1, .ref 1), (2, .int (0 : Int32)), (3, .int (5 : Int32)), (4, .int (29 : Int32)), (5, .int (32 : Int32))]) (st' := [.ref 1, .int (32 : Int32)]) rfl ?_
  refine w_cv (H.te (by decide) rfl).1 (pc' := 71) (L' := [(0, .ref 120), (1, .ref 1), (2, .int (0 : Int32)), (3, .int (5 : Int32)), (4, .int (29 : Int32)), (5, .int (32 : Int32))]) (rest := [.int (32 : Int32)]) (Ps := []) (L0 := [(0, .ref 1)]) h_m102 (z_at.mk 3 rfl rfl) (Or.inl ⟨rfl, rfl⟩) rfl rfl (by decide) (by decide) rfl rfl rfl rfl rfl rfl (by decide) rfl rfl rfl ?_
  refine w_p h_m293 1 (pc' := 1) (L' := [(0, .ref 1)]) (st' := [.ref 1]) rfl ?_
  refine w_gs H (pc' := 4) (L' := [(0, .ref 1)]) h_m293 (z_at.mk 3 rfl rfl) rfl (by decide) rfl rfl rfl rfl ?_
  refine w_lene H (x := (39 : Int32)) (pc' := 5) (L' := [(0, .ref 1)]) h_m293 (z_at.mk 1 rfl rfl) (by decide) rfl (by decide) rfl rfl rfl ?_
  refine w_p h_m293 1 (pc' := 6) (L' := [(0, .ref 1)]) (st' := [.ref 1, .int (39 : Int32)]) rfl ?_
  refine w_cv (H.te (by decide) rfl).1 (pc' := 9) (L' := [(0, .ref 1)]) (rest := [.int (39 : Int32)]) (Ps := []) (L0 := [(0, .ref 1)]) h_m293 (z_at.mk 3 rfl rfl) (Or.inl ⟨rfl, rfl⟩) rfl rfl (by decide) (by decide) rfl rfl rfl rfl rfl rfl (by decide) rfl rfl rfl ?_
  refine w_p h_m298 3 (pc' := 7) (L' := [(0, .ref 1)]) (st' := [.ref 1]) rfl ?_
  refine w_gs H (pc' := 10) (L' := [(0, .ref 1)]) h_m298 (z_at.mk 3 rfl rfl) rfl (by decide) rfl rfl rfl rfl ?_
  refine w_p h_m298 1 (pc' := 14) (L' := []) (st' := [.int (0 : Int32)]) rfl ?_
  refine w_ri h_m298 (z_at.mk 1 rfl rfl) rfl rfl ?_
  show z_W 996 293 9 [(0, .ref 1)] [.int (0 : Int32), .int (39 : Int32)] m _
  refine w_p h_m293 1 (pc' := 10) (L' := [(0, .ref 1)]) (st' := [.int (39 : Int32)]) rfl ?_
  refine w_ri h_m293 (z_at.mk 1 rfl rfl) rfl rfl ?_
  show z_W 997 102 71 [(0, .ref 120), (1, .ref 1), (2, .int (0 : Int32)), (3, .int (5 : Int32)), (4, .int (29 : Int32)), (5, .int (32 : Int32))] [.int (39 : Int32), .int (32 : Int32)] m _
  refine w_p h_m102 3 (pc' := 77) (L' := [(0, .ref 120), (1, .ref 1), (2, .int (0 : Int32)), (3, .int (5 : Int32)), (4, .int (29 : Int32)), (5, .int (32 : Int32))]) (st' := [.int (32 : Int32), .ref 1]) rfl ?_
  refine w_cv (H.te (by decide) rfl).1 (pc' := 80) (L' := [(0, .ref 120), (1, .ref 1), (2, .int (0 : Int32)), (3, .int (5 : Int32)), (4, .int (29 : Int32)), (5, .int (32 : Int32))]) (rest := []) (Ps := [.int (32 : Int32)]) (L0 := [(0, .ref 1), (1, .int (32 : Int32))]) h_m102 (z_at.mk 3 rfl rfl) (Or.inl ⟨rfl, rfl⟩) rfl rfl (by decide) (by decide) rfl rfl rfl rfl rfl rfl (by decide) rfl rfl rfl ?_
  refine w_p h_m294 1 (pc' := 1) (L' := [(0, .ref 1), (1, .int (32 : Int32))]) (st' := [.ref 1]) rfl ?_
  refine w_cv (H.te (by decide) rfl).1 (pc' := 4) (L' := [(0, .ref 1), (1, .int (32 : Int32))]) (rest := []) (Ps := []) (L0 := [(0, .ref 1)]) h_m294 (z_at.mk 3 rfl rfl) (Or.inl ⟨rfl, rfl⟩) rfl rfl (by decide) (by decide) rfl rfl rfl rfl rfl rfl (by decide) rfl rfl rfl ?_
  refine w_p h_m299 3 (pc' := 7) (L' := [(0, .ref 1)]) (st' := [.ref 1]) rfl ?_
  refine w_gs H (pc' := 10) (L' := [(0, .ref 1)]) h_m299 (z_at.mk 3 rfl rfl) rfl (by decide) rfl rfl rfl rfl ?_
  refine w_p h_m299 3 (pc' := 18) (L' := []) (st' := [.int (1 : Int32)]) rfl ?_
  refine w_ri h_m299 (z_at.mk 1 rfl rfl) rfl rfl ?_
  show z_W 996 294 4 [(0, .ref 1), (1, .int (32 : Int32))] [.int (1 : Int32)] m _
  refine w_p h_m294 2 (pc' := 8) (L' := [(0, .ref 1), (1, .int (32 : Int32))]) (st' := [.ref 1]) rfl ?_
  refine w_gs H (pc' := 11) (L' := [(0, .ref 1), (1, .int (32 : Int32))]) h_m294 (z_at.mk 3 rfl rfl) rfl (by decide) rfl rfl rfl rfl ?_
  refine w_p h_m294 1 (pc' := 12) (L' := [(0, .ref 1), (1, .int (32 : Int32))]) (st' := [.int (32 : Int32), .ref 19]) rfl ?_
  refine w_cs (As := [.ref 19, .int (32 : Int32)]) (rest := []) (j := 308) (L0 := [(0, .ref 19), (1, .int (32 : Int32))]) (pc' := 15) (L' := [(0, .ref 1), (1, .int (32 : Int32))]) h_m294 (z_at.mk 3 rfl rfl) (Or.inl ⟨rfl, rfl⟩) rfl rfl rfl rfl rfl ?_
  refine w_p h_m308 2 (pc' := 2) (L' := [(0, .ref 19), (1, .int (32 : Int32))]) (st' := [.ref 19, .int (32 : Int32)]) rfl ?_
  refine w_lene H (x := (39 : Int32)) (pc' := 3) (L' := [(0, .ref 19), (1, .int (32 : Int32))]) h_m308 (z_at.mk 1 rfl rfl) (by decide) rfl (by decide) rfl rfl rfl ?_
  refine w_ci (pc' := 6) (L' := [(0, .ref 19), (1, .int (32 : Int32))]) h_m308 (z_at.mk 3 rfl rfl) rfl (z_cat_le 0 rfl (by decide)) ⟨by decide, by decide⟩ rfl rfl ?_
  refine w_p h_m308 2 (pc' := 8) (L' := [(0, .ref 19), (1, .int (32 : Int32))]) (st' := [.int (32 : Int32), .ref 19]) rfl ?_
  refine w_ae H (j := 32) (pc' := 9) (L' := [(0, .ref 19), (1, .int (32 : Int32))]) h_m308 (z_at.mk 1 rfl rfl) rfl rfl rfl (by decide) rfl (by decide) rfl rfl rfl ?_
  refine w_p h_m308 3 (pc' := 14) (L' := [(0, .ref 19), (1, .int (32 : Int32))]) (st' := [.int (105 : Int32)]) rfl ?_
  refine w_ri h_m308 (z_at.mk 1 rfl rfl) rfl rfl ?_
  show z_W 996 294 15 [(0, .ref 1), (1, .int (32 : Int32))] [.int (105 : Int32)] m _
  refine w_ri h_m294 (z_at.mk 1 rfl rfl) rfl rfl ?_
  show z_W 997 102 80 [(0, .ref 120), (1, .ref 1), (2, .int (0 : Int32)), (3, .int (5 : Int32)), (4, .int (29 : Int32)), (5, .int (32 : Int32))] [.int (105 : Int32)] m _
  refine w_p h_m102 6 (pc' := 59) (L' := [(0, .ref 120), (1, .ref 1), (2, .int (0 : Int32)), (3, .int (5 : Int32)), (4, .int (29 : Int32)), (5, .int (33 : Int32))]) (st' := [.ref 1, .int (33 : Int32)]) rfl ?_
  refine w_cv (H.te (by decide) rfl).1 (pc' := 62) (L' := [(0, .ref 120), (1, .ref 1), (2, .int (0 : Int32)), (3, .int (5 : Int32)), (4, .int (29 : Int32)), (5, .int (33 : Int32))]) (rest := [.int (33 : Int32)]) (Ps := []) (L0 := [(0, .ref 1)]) h_m102 (z_at.mk 3 rfl rfl) (Or.inl ⟨rfl, rfl⟩) rfl rfl (by decide) (by decide) rfl rfl rfl rfl rfl rfl (by decide) rfl rfl rfl ?_
  refine w_p h_m293 1 (pc' := 1) (L' := [(0, .ref 1)]) (st' := [.ref 1]) rfl ?_
  refine w_gs H (pc' := 4) (L' := [(0, .ref 1)]) h_m293 (z_at.mk 3 rfl rfl) rfl (by decide) rfl rfl rfl rfl ?_
  refine w_lene H (x := (39 : Int32)) (pc' := 5) (L' := [(0, .ref 1)]) h_m293 (z_at.mk 1 rfl rfl) (by decide) rfl (by decide) rfl rfl rfl ?_
  refine w_p h_m293 1 (pc' := 6) (L' := [(0, .ref 1)]) (st' := [.ref 1, .int (39 : Int32)]) rfl ?_
  refine w_cv (H.te (by decide) rfl).1 (pc' := 9) (L' := [(0, .ref 1)]) (rest := [.int (39 : Int32)]) (Ps := []) (L0 := [(0, .ref 1)]) h_m293 (z_at.mk 3 rfl rfl) (Or.inl ⟨rfl, rfl⟩) rfl rfl (by decide) (by decide) rfl rfl rfl rfl rfl rfl (by decide) rfl rfl rfl ?_
  refine w_p h_m298 3 (pc' := 7) (L' := [(0, .ref 1)]) (st' := [.ref 1]) rfl ?_
  refine w_gs H (pc' := 10) (L' := [(0, .ref 1)]) h_m298 (z_at.mk 3 rfl rfl) rfl (by decide) rfl rfl rfl rfl ?_
  refine w_p h_m298 1 (pc' := 14) (L' := []) (st' := [.int (0 : Int32)]) rfl ?_
  refine w_ri h_m298 (z_at.mk 1 rfl rfl) rfl rfl ?_
  show z_W 996 293 9 [(0, .ref 1)] [.int (0 : Int32), .int (39 : Int32)] m _
  refine w_p h_m293 1 (pc' := 10) (L' := [(0, .ref 1)]) (st' := [.int (39 : Int32)]) rfl ?_
  refine w_ri h_m293 (z_at.mk 1 rfl rfl) rfl rfl ?_
  show z_W 997 102 62 [(0, .ref 120), (1, .ref 1), (2, .int (0 : Int32)), (3, .int (5 : Int32)), (4, .int (29 : Int32)), (5, .int (33 : Int32))] [.int (39 : Int32), .int (33 : Int32)] m _
  refine w_p h_m102 3 (pc' := 68) (L' := [(0, .ref 120), (1, .ref 1), (2, .int (0 : Int32)), (3, .int (5 : Int32)), (4, .int (29 : Int32)), (5, .int (33 : Int32))]) (st' := [.ref 1, .int (33 : Int32)]) rfl ?_
  refine w_cv (H.te (by decide) rfl).1 (pc' := 71) (L' := [(0, .ref 120), (1, .ref 1), (2, .int (0 : Int32)), (3, .int (5 : Int32)), (4, .int (29 : Int32)), (5, .int (33 : Int32))]) (rest := [.int (33 : Int32)]) (Ps := []) (L0 := [(0, .ref 1)]) h_m102 (z_at.mk 3 rfl rfl) (Or.inl ⟨rfl, rfl⟩) rfl rfl (by decide) (by decide) rfl rfl rfl rfl rfl rfl (by decide) rfl rfl rfl ?_
  refine w_p h_m293 1 (pc' := 1) (L' := [(0, .ref 1)]) (st' := [.ref 1]) rfl ?_
  refine w_gs H (pc' := 4) (L' := [(0, .ref 1)]) h_m293 (z_at.mk 3 rfl rfl) rfl (by decide) rfl rfl rfl rfl ?_
  refine w_lene H (x := (39 : Int32)) (pc' := 5) (L' := [(0, .ref 1)]) h_m293 (z_at.mk 1 rfl rfl) (by decide) rfl (by decide) rfl rfl rfl ?_
  refine w_p h_m293 1 (pc' := 6) (L' := [(0, .ref 1)]) (st' := [.ref 1, .int (39 : Int32)]) rfl ?_
  refine w_cv (H.te (by decide) rfl).1 (pc' := 9) (L' := [(0, .ref 1)]) (rest := [.int (39 : Int32)]) (Ps := []) (L0 := [(0, .ref 1)]) h_m293 (z_at.mk 3 rfl rfl) (Or.inl ⟨rfl, rfl⟩) rfl rfl (by decide) (by decide) rfl rfl rfl rfl rfl rfl (by decide) rfl rfl rfl ?_
  refine w_p h_m298 3 (pc' := 7) (L' := [(0, .ref 1)]) (st' := [.ref 1]) rfl ?_
  refine w_gs H (pc' := 10) (L' := [(0, .ref 1)]) h_m298 (z_at.mk 3 rfl rfl) rfl (by decide) rfl rfl rfl rfl ?_
  refine w_p h_m298 1 (pc' := 14) (L' := []) (st' := [.int (0 : Int32)]) rfl ?_
  refine w_ri h_m298 (z_at.mk 1 rfl rfl) rfl rfl ?_
  show z_W 996 293 9 [(0, .ref 1)] [.int (0 : Int32), .int (39 : Int32)] m _
  refine w_p h_m293 1 (pc' := 10) (L' := [(0, .ref 1)]) (st' := [.int (39 : Int32)]) rfl ?_
  refine w_ri h_m293 (z_at.mk 1 rfl rfl) rfl rfl ?_
  show z_W 997 102 71 [(0, .ref 120), (1, .ref 1), (2, .int (0 : Int32)), (3, .int (5 : Int32)), (4, .int (29 : Int32)), (5, .int (33 : Int32))] [.int (39 : Int32), .int (33 : Int32)] m _
  refine w_p h_m102 3 (pc' := 77) (L' := [(0, .ref 120), (1, .ref 1), (2, .int (0 : Int32)), (3, .int (5 : Int32)), (4, .int (29 : Int32)), (5, .int (33 : Int32))]) (st' := [.int (33 : Int32), .ref 1]) rfl ?_
  refine w_cv (H.te (by decide) rfl).1 (pc' := 80) (L' := [(0, .ref 120), (1, .ref 1), (2, .int (0 : Int32)), (3, .int (5 : Int32)), (4, .int (29 : Int32)), (5, .int (33 : Int32))]) (rest := []) (Ps := [.int (33 : Int32)]) (L0 := [(0, .ref 1), (1, .int (33 : Int32))]) h_m102 (z_at.mk 3 rfl rfl) (Or.inl ⟨rfl, rfl⟩) rfl rfl (by decide) (by decide) rfl rfl rfl rfl rfl rfl (by decide) rfl rfl rfl ?_
  refine w_p h_m294 1 (pc' := 1) (L' := [(0, .ref 1), (1, .int (33 : Int32))]) (st' := [.ref 1]) rfl ?_
  refine w_cv (H.te (by decide) rfl).1 (pc' := 4) (L' := [(0, .ref 1), (1, .int (33 : Int32))]) (rest := []) (Ps := []) (L0 := [(0, .ref 1)]) h_m294 (z_at.mk 3 rfl rfl) (Or.inl ⟨rfl, rfl⟩) rfl rfl (by decide) (by decide) rfl rfl rfl rfl rfl rfl (by decide) rfl rfl rfl ?_
  refine w_p h_m299 3 (pc' := 7) (L' := [(0, .ref 1)]) (st' := [.ref 1]) rfl ?_
  refine w_gs H (pc' := 10) (L' := [(0, .ref 1)]) h_m299 (z_at.mk 3 rfl rfl) rfl (by decide) rfl rfl rfl rfl ?_
  refine w_p h_m299 3 (pc' := 18) (L' := []) (st' := [.int (1 : Int32)]) rfl ?_
  refine w_ri h_m299 (z_at.mk 1 rfl rfl) rfl rfl ?_
  show z_W 996 294 4 [(0, .ref 1), (1, .int (33 : Int32))] [.int (1 : Int32)] m _
  refine w_p h_m294 2 (pc' := 8) (L' := [(0, .ref 1), (1, .int (33 : Int32))]) (st' := [.ref 1]) rfl ?_
  refine w_gs H (pc' := 11) (L' := [(0, .ref 1), (1, .int (33 : Int32))]) h_m294 (z_at.mk 3 rfl rfl) rfl (by decide) rfl rfl rfl rfl ?_
  refine w_p h_m294 1 (pc' := 12) (L' := [(0, .ref 1), (1, .int (33 : Int32))]) (st' := [.int (33 : Int32), .ref 19]) rfl ?_
  refine w_cs (As := [.ref 19, .int (33 : Int32)]) (rest := []) (j := 308) (L0 := [(0, .ref 19), (1, .int (33 : Int32))]) (pc' := 15) (L' := [(0, .ref 1), (1, .int (33 : Int32))]) h_m294 (z_at.mk 3 rfl rfl) (Or.inl ⟨rfl, rfl⟩) rfl rfl rfl rfl rfl ?_
  refine w_p h_m308 2 (pc' := 2) (L' := [(0, .ref 19), (1, .int (33 : Int32))]) (st' := [.ref 19, .int (33 : Int32)]) rfl ?_
  refine w_lene H (x := (39 : Int32)) (pc' := 3) (L' := [(0, .ref 19), (1, .int (33 : Int32))]) h_m308 (z_at.mk 1 rfl rfl) (by decide) rfl (by decide) rfl rfl rfl ?_
  refine w_ci (pc' := 6) (L' := [(0, .ref 19), (1, .int (33 : Int32))]) h_m308 (z_at.mk 3 rfl rfl) rfl (z_cat_le 0 rfl (by decide)) ⟨by decide, by decide⟩ rfl rfl ?_
  refine w_p h_m308 2 (pc' := 8) (L' := [(0, .ref 19), (1, .int (33 : Int32))]) (st' := [.int (33 : Int32), .ref 19]) rfl ?_
  refine w_ae H (j := 33) (pc' := 9) (L' := [(0, .ref 19), (1, .int (33 : Int32))]) h_m308 (z_at.mk 1 rfl rfl) rfl rfl rfl (by decide) rfl (by decide) rfl rfl rfl ?_
  refine w_p h_m308 3 (pc' := 14) (L' := [(0, .ref 19), (1, .int (33 : Int32))]) (st' := [.int (110 : Int32)]) rfl ?_
  refine w_ri h_m308 (z_at.mk 1 rfl rfl) rfl rfl ?_
  show z_W 996 294 15 [(0, .ref 1), (1, .int (33 : Int32))] [.int (110 : Int32)] m _
  refine w_ri h_m294 (z_at.mk 1 rfl rfl) rfl rfl ?_
  show z_W 997 102 80 [(0, .ref 120), (1, .ref 1), (2, .int (0 : Int32)), (3, .int (5 : Int32)), (4, .int (29 : Int32)), (5, .int (33 : Int32))] [.int (110 : Int32)] m _
  refine w_p h_m102 6 (pc' := 59) (L' := [(0, .ref 120), (1, .ref 1), (2, .int (0 : Int32)), (3, .int (5 : Int32)), (4, .int (29 : Int32)), (5, .int (34 : Int32))]) (st' := [.ref 1, .int (34 : Int32)]) rfl ?_
  refine w_cv (H.te (by decide) rfl).1 (pc' := 62) (L' := [(0, .ref 120), (1, .ref 1), (2, .int (0 : Int32)), (3, .int (5 : Int32)), (4, .int (29 : Int32)), (5, .int (34 : Int32))]) (rest := [.int (34 : Int32)]) (Ps := []) (L0 := [(0, .ref 1)]) h_m102 (z_at.mk 3 rfl rfl) (Or.inl ⟨rfl, rfl⟩) rfl rfl (by decide) (by decide) rfl rfl rfl rfl rfl rfl (by decide) rfl rfl rfl ?_
  refine w_p h_m293 1 (pc' := 1) (L' := [(0, .ref 1)]) (st' := [.ref 1]) rfl ?_
  refine w_gs H (pc' := 4) (L' := [(0, .ref 1)]) h_m293 (z_at.mk 3 rfl rfl) rfl (by decide) rfl rfl rfl rfl ?_
  refine w_lene H (x := (39 : Int32)) (pc' := 5) (L' := [(0, .ref 1)]) h_m293 (z_at.mk 1 rfl rfl) (by decide) rfl (by decide) rfl rfl rfl ?_
  refine w_p h_m293 1 (pc' := 6) (L' := [(0, .ref 1)]) (st' := [.ref 1, .int (39 : Int32)]) rfl ?_
  refine w_cv (H.te (by decide) rfl).1 (pc' := 9) (L' := [(0, .ref 1)]) (rest := [.int (39 : Int32)]) (Ps := []) (L0 := [(0, .ref 1)]) h_m293 (z_at.mk 3 rfl rfl) (Or.inl ⟨rfl, rfl⟩) rfl rfl (by decide) (by decide) rfl rfl rfl rfl rfl rfl (by decide) rfl rfl rfl ?_
  refine w_p h_m298 3 (pc' := 7) (L' := [(0, .ref 1)]) (st' := [.ref 1]) rfl ?_
  refine w_gs H (pc' := 10) (L' := [(0, .ref 1)]) h_m298 (z_at.mk 3 rfl rfl) rfl (by decide) rfl rfl rfl rfl ?_
  refine w_p h_m298 1 (pc' := 14) (L' := []) (st' := [.int (0 : Int32)]) rfl ?_
  refine w_ri h_m298 (z_at.mk 1 rfl rfl) rfl rfl ?_
  show z_W 996 293 9 [(0, .ref 1)] [.int (0 : Int32), .int (39 : Int32)] m _
  refine w_p h_m293 1 (pc' := 10) (L' := [(0, .ref 1)]) (st' := [.int (39 : Int32)]) rfl ?_
  refine w_ri h_m293 (z_at.mk 1 rfl rfl) rfl rfl ?_
  show z_W 997 102 62 [(0, .ref 120), (1, .ref 1), (2, .int (0 : Int32)), (3, .int (5 : Int32)), (4, .int (29 : Int32)), (5, .int (34 : Int32))] [.int (39 : Int32), .int (34 : Int32)] m _
  refine w_p h_m102 3 (pc' := 68) (L' := [(0, .ref 120), (1, .ref 1), (2, .int (0 : Int32)), (3, .int (5 : Int32)), (4, .int (29 : Int32)), (5, .int (34 : Int32))]) (st' := [.ref 1, .int (34 : Int32)]) rfl ?_
  refine w_cv (H.te (by decide) rfl).1 (pc' := 71) (L' := [(0, .ref 120), (1, .ref 1), (2, .int (0 : Int32)), (3, .int (5 : Int32)), (4, .int (29 : Int32)), (5, .int (34 : Int32))]) (rest := [.int (34 : Int32)]) (Ps := []) (L0 := [(0, .ref 1)]) h_m102 (z_at.mk 3 rfl rfl) (Or.inl ⟨rfl, rfl⟩) rfl rfl (by decide) (by decide) rfl rfl rfl rfl rfl rfl (by decide) rfl rfl rfl ?_
  refine w_p h_m293 1 (pc' := 1) (L' := [(0, .ref 1)]) (st' := [.ref 1]) rfl ?_
  refine w_gs H (pc' := 4) (L' := [(0, .ref 1)]) h_m293 (z_at.mk 3 rfl rfl) rfl (by decide) rfl rfl rfl rfl ?_
  refine w_lene H (x := (39 : Int32)) (pc' := 5) (L' := [(0, .ref 1)]) h_m293 (z_at.mk 1 rfl rfl) (by decide) rfl (by decide) rfl rfl rfl ?_
  refine w_p h_m293 1 (pc' := 6) (L' := [(0, .ref 1)]) (st' := [.ref 1, .int (39 : Int32)]) rfl ?_
  refine w_cv (H.te (by decide) rfl).1 (pc' := 9) (L' := [(0, .ref 1)]) (rest := [.int (39 : Int32)]) (Ps := []) (L0 := [(0, .ref 1)]) h_m293 (z_at.mk 3 rfl rfl) (Or.inl ⟨rfl, rfl⟩) rfl rfl (by decide) (by decide) rfl rfl rfl rfl rfl rfl (by decide) rfl rfl rfl ?_
  refine w_p h_m298 3 (pc' := 7) (L' := [(0, .ref 1)]) (st' := [.ref 1]) rfl ?_
  refine w_gs H (pc' := 10) (L' := [(0, .ref 1)]) h_m298 (z_at.mk 3 rfl rfl) rfl (by decide) rfl rfl rfl rfl ?_
  refine w_p h_m298 1 (pc' := 14) (L' := []) (st' := [.int (0 : Int32)]) rfl ?_
  refine w_ri h_m298 (z_at.mk 1 rfl rfl) rfl rfl ?_
  show z_W 996 293 9 [(0, .ref 1)] [.int (0 : Int32), .int (39 : Int32)] m _
  refine w_p h_m293 1 (pc' := 10) (L' := [(0, .ref 1)]) (st' := [.int (39 : Int32)]) rfl ?_
  refine w_ri h_m293 (z_at.mk 1 rfl rfl) rfl rfl ?_
  show z_W 997 102 71 [(0, .ref 120), (1, .ref 1), (2, .int (0 : Int32)), (3, .int (5 : Int32)), (4, .int (29 : Int32)), (5, .int (34 : Int32))] [.int (39 : Int32), .int (34 : Int32)] m _
  refine w_p h_m102 3 (pc' := 77) (L' := [(0, .ref 120), (1, .ref 1), (2, .int (0 : Int32)), (3, .int (5 : Int32)), (4, .int (29 : Int32)), (5, .int (34 : Int32))]) (st' := [.int (34 : Int32), .ref 1]) rfl ?_
  refine w_cv (H.te (by decide) rfl).1 (pc' := 80) (L' := [(0, .ref 120), (1, .ref 1), (2, .int (0 : Int32)), (3, .int (5 : Int32)), (4, .int (29 : Int32)), (5, .int (34 : Int32))]) (rest := []) (Ps := [.int (34 : Int32)]) (L0 := [(0, .ref 1), (1, .int (34 : Int32))]) h_m102 (z_at.mk 3 rfl rfl) (Or.inl ⟨rfl, rfl⟩) rfl rfl (by decide) (by decide) rfl rfl rfl rfl rfl rfl (by decide) rfl rfl rfl ?_
  refine w_p h_m294 1 (pc' := 1) (L' := [(0, .ref 1), (1, .int (34 : Int32))]) (st' := [.ref 1]) rfl ?_
  refine w_cv (H.te (by decide) rfl).1 (pc' := 4) (L' := [(0, .ref 1), (1, .int (34 : Int32))]) (rest := []) (Ps := []) (L0 := [(0, .ref 1)]) h_m294 (z_at.mk 3 rfl rfl) (Or.inl ⟨rfl, rfl⟩) rfl rfl (by decide) (by decide) rfl rfl rfl rfl rfl rfl (by decide) rfl rfl rfl ?_
  refine w_p h_m299 3 (pc' := 7) (L' := [(0, .ref 1)]) (st' := [.ref 1]) rfl ?_
  refine w_gs H (pc' := 10) (L' := [(0, .ref 1)]) h_m299 (z_at.mk 3 rfl rfl) rfl (by decide) rfl rfl rfl rfl ?_
  refine w_p h_m299 3 (pc' := 18) (L' := []) (st' := [.int (1 : Int32)]) rfl ?_
  refine w_ri h_m299 (z_at.mk 1 rfl rfl) rfl rfl ?_
  show z_W 996 294 4 [(0, .ref 1), (1, .int (34 : Int32))] [.int (1 : Int32)] m _
  refine w_p h_m294 2 (pc' := 8) (L' := [(0, .ref 1), (1, .int (34 : Int32))]) (st' := [.ref 1]) rfl ?_
  refine w_gs H (pc' := 11) (L' := [(0, .ref 1), (1, .int (34 : Int32))]) h_m294 (z_at.mk 3 rfl rfl) rfl (by decide) rfl rfl rfl rfl ?_
  refine w_p h_m294 1 (pc' := 12) (L' := [(0, .ref 1), (1, .int (34 : Int32))]) (st' := [.int (34 : Int32), .ref 19]) rfl ?_
  refine w_cs (As := [.ref 19, .int (34 : Int32)]) (rest := []) (j := 308) (L0 := [(0, .ref 19), (1, .int (34 : Int32))]) (pc' := 15) (L' := [(0, .ref 1), (1, .int (34 : Int32))]) h_m294 (z_at.mk 3 rfl rfl) (Or.inl ⟨rfl, rfl⟩) rfl rfl rfl rfl rfl ?_
  refine w_p h_m308 2 (pc' := 2) (L' := [(0, .ref 19), (1, .int (34 : Int32))]) (st' := [.ref 19, .int (34 : Int32)]) rfl ?_
  refine w_lene H (x := (39 : Int32)) (pc' := 3) (L' := [(0, .ref 19), (1, .int (34 : Int32))]) h_m308 (z_at.mk 1 rfl rfl) (by decide) rfl (by decide) rfl rfl rfl ?_
  refine w_ci (pc' := 6) (L' := [(0, .ref 19), (1, .int (34 : Int32))]) h_m308 (z_at.mk 3 rfl rfl) rfl (z_cat_le 0 rfl (by decide)) ⟨by decide, by decide⟩ rfl rfl ?_
  refine w_p h_m308 2 (pc' := 8) (L' := [(0, .ref 19), (1, .int (34 : Int32))]) (st' := [.int (34 : Int32), .ref 19]) rfl ?_
  refine w_ae H (j := 34) (pc' := 9) (L' := [(0, .ref 19), (1, .int (34 : Int32))]) h_m308 (z_at.mk 1 rfl rfl) rfl rfl rfl (by decide) rfl (by decide) rfl rfl rfl ?_
  refine w_p h_m308 3 (pc' := 14) (L' := [(0, .ref 19), (1, .int (34 : Int32))]) (st' := [.int (107 : Int32)]) rfl ?_
  refine w_ri h_m308 (z_at.mk 1 rfl rfl) rfl rfl ?_
  show z_W 996 294 15 [(0, .ref 1), (1, .int (34 : Int32))] [.int (107 : Int32)] m _
  refine w_ri h_m294 (z_at.mk 1 rfl rfl) rfl rfl ?_
  show z_W 997 102 80 [(0, .ref 120), (1, .ref 1), (2, .int (0 : Int32)), (3, .int (5 : Int32)), (4, .int (29 : Int32)), (5, .int (34 : Int32))] [.int (107 : Int32)] m _
  refine w_p h_m102 6 (pc' := 59) (L' := [(0, .ref 120), (1, .ref 1), (2, .int (0 : Int32)), (3, .int (5 : Int32)), (4, .int (29 : Int32)), (5, .int (35 : Int32))]) (st' := [.ref 1, .int (35 : Int32)]) rfl ?_
  refine w_cv (H.te (by decide) rfl).1 (pc' := 62) (L' := [(0, .ref 120), (1, .ref 1), (2, .int (0 : Int32)), (3, .int (5 : Int32)), (4, .int (29 : Int32)), (5, .int (35 : Int32))]) (rest := [.int (35 : Int32)]) (Ps := []) (L0 := [(0, .ref 1)]) h_m102 (z_at.mk 3 rfl rfl) (Or.inl ⟨rfl, rfl⟩) rfl rfl (by decide) (by decide) rfl rfl rfl rfl rfl rfl (by decide) rfl rfl rfl ?_
  refine w_p h_m293 1 (pc' := 1) (L' := [(0, .ref 1)]) (st' := [.ref 1]) rfl ?_
  refine w_gs H (pc' := 4) (L' := [(0, .ref 1)]) h_m293 (z_at.mk 3 rfl rfl) rfl (by decide) rfl rfl rfl rfl ?_
  refine w_lene H (x := (39 : Int32)) (pc' := 5) (L' := [(0, .ref 1)]) h_m293 (z_at.mk 1 rfl rfl) (by decide) rfl (by decide) rfl rfl rfl ?_
  refine w_p h_m293 1 (pc' := 6) (L' := [(0, .ref 1)]) (st' := [.ref 1, .int (39 : Int32)]) rfl ?_
  refine w_cv (H.te (by decide) rfl).1 (pc' := 9) (L' := [(0, .ref 1)]) (rest := [.int (39 : Int32)]) (Ps := []) (L0 := [(0, .ref 1)]) h_m293 (z_at.mk 3 rfl rfl) (Or.inl ⟨rfl, rfl⟩) rfl rfl (by decide) (by decide) rfl rfl rfl rfl rfl rfl (by decide) rfl rfl rfl ?_
  refine w_p h_m298 3 (pc' := 7) (L' := [(0, .ref 1)]) (st' := [.ref 1]) rfl ?_
  refine w_gs H (pc' := 10) (L' := [(0, .ref 1)]) h_m298 (z_at.mk 3 rfl rfl) rfl (by decide) rfl rfl rfl rfl ?_
  refine w_p h_m298 1 (pc' := 14) (L' := []) (st' := [.int (0 : Int32)]) rfl ?_
  refine w_ri h_m298 (z_at.mk 1 rfl rfl) rfl rfl ?_
  show z_W 996 293 9 [(0, .ref 1)] [.int (0 : Int32), .int (39 : Int32)] m _
  refine w_p h_m293 1 (pc' := 10) (L' := [(0, .ref 1)]) (st' := [.int (39 : Int32)]) rfl ?_
  refine w_ri h_m293 (z_at.mk 1 rfl rfl) rfl rfl ?_
  show z_W 997 102 62 [(0, .ref 120), (1, .ref 1), (2, .int (0 : Int32)), (3, .int (5 : Int32)), (4, .int (29 : Int32)), (5, .int (35 : Int32))] [.int (39 : Int32), .int (35 : Int32)] m _
  refine w_p h_m102 3 (pc' := 68) (L' := [(0, .ref 120), (1, .ref 1), (2, .int (0 : Int32)), (3, .int (5 : Int32)), (4, .int (29 : Int32)), (5, .int (35 : Int32))]) (st' := [.ref 1, .int (35 : Int32)]) rfl ?_
  refine w_cv (H.te (by decide) rfl).1 (pc' := 71) (L' := [(0, .ref 120), (1, .ref 1), (2, .int (0 : Int32)), (3, .int (5 : Int32)), (4, .int (29 : Int32)), (5, .int (35 : Int32))]) (rest := [.int (35 : Int32)]) (Ps := []) (L0 := [(0, .ref 1)]) h_m102 (z_at.mk 3 rfl rfl) (Or.inl ⟨rfl, rfl⟩) rfl rfl (by decide) (by decide) rfl rfl rfl rfl rfl rfl (by decide) rfl rfl rfl ?_
  refine w_p h_m293 1 (pc' := 1) (L' := [(0, .ref 1)]) (st' := [.ref 1]) rfl ?_
  refine w_gs H (pc' := 4) (L' := [(0, .ref 1)]) h_m293 (z_at.mk 3 rfl rfl) rfl (by decide) rfl rfl rfl rfl ?_
  refine w_lene H (x := (39 : Int32)) (pc' := 5) (L' := [(0, .ref 1)]) h_m293 (z_at.mk 1 rfl rfl) (by decide) rfl (by decide) rfl rfl rfl ?_
  refine w_p h_m293 1 (pc' := 6) (L' := [(0, .ref 1)]) (st' := [.ref 1, .int (39 : Int32)]) rfl ?_
  refine w_cv (H.te (by decide) rfl).1 (pc' := 9) (L' := [(0, .ref 1)]) (rest := [.int (39 : Int32)]) (Ps := []) (L0 := [(0, .ref 1)]) h_m293 (z_at.mk 3 rfl rfl) (Or.inl ⟨rfl, rfl⟩) rfl rfl (by decide) (by decide) rfl rfl rfl rfl rfl rfl (by decide) rfl rfl rfl ?_
  refine w_p h_m298 3 (pc' := 7) (L' := [(0, .ref 1)]) (st' := [.ref 1]) rfl ?_
  refine w_gs H (pc' := 10) (L' := [(0, .ref 1)]) h_m298 (z_at.mk 3 rfl rfl) rfl (by decide) rfl rfl rfl rfl ?_
  refine w_p h_m298 1 (pc' := 14) (L' := []) (st' := [.int (0 : Int32)]) rfl ?_
  refine w_ri h_m298 (z_at.mk 1 rfl rfl) rfl rfl ?_
  show z_W 996 293 9 [(0, .ref 1)] [.int (0 : Int32), .int (39 : Int32)] m _
  refine w_p h_m293 1 (pc' := 10) (L' := [(0, .ref 1)]) (st' := [.int (39 : Int32)]) rfl ?_
  refine w_ri h_m293 (z_at.mk 1 rfl rfl) rfl rfl ?_
  show z_W 997 102 71 [(0, .ref 120), (1, .ref 1), (2, .int (0 : Int32)), (3, .int (5 : Int32)), (4, .int (29 : Int32)), (5, .int (35 : Int32))] [.int (39 : Int32), .int (35 : Int32)] m _
  refine w_p h_m102 3 (pc' := 77) (L' := [(0, .ref 120), (1, .ref 1), (2, .int (0 : Int32)), (3, .int (5 : Int32)), (4, .int (29 : Int32)), (5, .int (35 : Int32))]) (st' := [.int (35 : Int32), .ref 1]) rfl ?_
  refine w_cv (H.te (by decide) rfl).1 (pc' := 80) (L' := [(0, .ref 120), (1, .ref 1), (2, .int (0 : Int32)), (3, .int (5 : Int32)), (4, .int (29 : Int32)), (5, .int (35 : Int32))]) (rest := []) (Ps := [.int (35 : Int32)]) (L0 := [(0, .ref 1), (1, .int (35 : Int32))]) h_m102 (z_at.mk 3 rfl rfl) (Or.inl ⟨rfl, rfl⟩) rfl rfl (by decide) (by decide) rfl rfl rfl rfl rfl rfl (by decide) rfl rfl rfl ?_
  refine w_p h_m294 1 (pc' := 1) (L' := [(0, .ref 1), (1, .int (35 : Int32))]) (st' := [.ref 1]) rfl ?_
  refine w_cv (H.te (by decide) rfl).1 (pc' := 4) (L' := [(0, .ref 1), (1, .int (35 : Int32))]) (rest := []) (Ps := []) (L0 := [(0, .ref 1)]) h_m294 (z_at.mk 3 rfl rfl) (Or.inl ⟨rfl, rfl⟩) rfl rfl (by decide) (by decide) rfl rfl rfl rfl rfl rfl (by decide) rfl rfl rfl ?_
  refine w_p h_m299 3 (pc' := 7) (L' := [(0, .ref 1)]) (st' := [.ref 1]) rfl ?_
  refine w_gs H (pc' := 10) (L' := [(0, .ref 1)]) h_m299 (z_at.mk 3 rfl rfl) rfl (by decide) rfl rfl rfl rfl ?_
  refine w_p h_m299 3 (pc' := 18) (L' := []) (st' := [.int (1 : Int32)]) rfl ?_
  refine w_ri h_m299 (z_at.mk 1 rfl rfl) rfl rfl ?_
  show z_W 996 294 4 [(0, .ref 1), (1, .int (35 : Int32))] [.int (1 : Int32)] m _
  refine w_p h_m294 2 (pc' := 8) (L' := [(0, .ref 1), (1, .int (35 : Int32))]) (st' := [.ref 1]) rfl ?_
  refine w_gs H (pc' := 11) (L' := [(0, .ref 1), (1, .int (35 : Int32))]) h_m294 (z_at.mk 3 rfl rfl) rfl (by decide) rfl rfl rfl rfl ?_
  refine w_p h_m294 1 (pc' := 12) (L' := [(0, .ref 1), (1, .int (35 : Int32))]) (st' := [.int (35 : Int32), .ref 19]) rfl ?_
  refine w_cs (As := [.ref 19, .int (35 : Int32)]) (rest := []) (j := 308) (L0 := [(0, .ref 19), (1, .int (35 : Int32))]) (pc' := 15) (L' := [(0, .ref 1), (1, .int (35 : Int32))]) h_m294 (z_at.mk 3 rfl rfl) (Or.inl ⟨rfl, rfl⟩) rfl rfl rfl rfl rfl ?_
  refine w_p h_m308 2 (pc' := 2) (L' := [(0, .ref 19), (1, .int (35 : Int32))]) (st' := [.ref 19, .int (35 : Int32)]) rfl ?_
  refine w_lene H (x := (39 : Int32)) (pc' := 3) (L' := [(0, .ref 19), (1, .int (35 : Int32))]) h_m308 (z_at.mk 1 rfl rfl) (by decide) rfl (by decide) rfl rfl rfl ?_
  refine w_ci (pc' := 6) (L' := [(0, .ref 19), (1, .int (35 : Int32))]) h_m308 (z_at.mk 3 rfl rfl) rfl (z_cat_le 0 rfl (by decide)) ⟨by decide, by decide⟩ rfl rfl ?_
  refine w_p h_m308 2 (pc' := 8) (L' := [(0, .ref 19), (1, .int (35 : Int32))]) (st' := [.int (35 : Int32), .ref 19]) rfl ?_
  refine w_ae H (j := 35) (pc' := 9) (L' := [(0, .ref 19), (1, .int (35 : Int32))]) h_m308 (z_at.mk 1 rfl rfl) rfl rfl rfl (by decide) rfl (by decide) rfl rfl rfl ?_
  refine w_p h_m308 3 (pc' := 14) (L' := [(0, .ref 19), (1, .int (35 : Int32))]) (st' := [.int (32 : Int32)]) rfl ?_
  refine w_ri h_m308 (z_at.mk 1 rfl rfl) rfl rfl ?_
  show z_W 996 294 15 [(0, .ref 1), (1, .int (35 : Int32))] [.int (32 : Int32)] m _
  refine w_ri h_m294 (z_at.mk 1 rfl rfl) rfl rfl ?_
  show z_W 997 102 80 [(0, .ref 120), (1, .ref 1), (2, .int (0 : Int32)), (3, .int (5 : Int32)), (4, .int (29 : Int32)), (5, .int (35 : Int32))] [.int (32 : Int32)] m _
  refine w_p h_m102 7 (pc' := 92) (L' := [(0, .ref 120), (1, .ref 1), (2, .int (0 : Int32)), (3, .int (5 : Int32)), (4, .int (29 : Int32)), (5, .int (35 : Int32))]) (st' := [.int (0 : Int32), .int (35 : Int32), .int (29 : Int32), .ref 1, .ref 120]) rfl ?_
  refine w_cv (H.t rfl) (pc' := 95) (L' := [(0, .ref 120), (1, .ref 1), (2, .int (0 : Int32)), (3, .int (5 : Int32)), (4, .int (29 : Int32)), (5, .int (35 : Int32))]) (rest := []) (Ps := [.ref 1, .int (29 : Int32), .int (35 : Int32), .int (0 : Int32)]) (L0 := [(0, .ref 120), (1, .ref 1), (2, .int (29 : Int32)), (3, .int (35 : Int32)), (4, .int (0 : Int32))]) h_m102 (z_at.mk 3 rfl rfl) (Or.inl ⟨rfl, rfl⟩) rfl rfl (by decide) (by decide) rfl rfl rfl rfl rfl rfl (by decide) rfl rfl rfl ?_
  refine w_p h_m103 1 (pc' := 1) (L' := [(0, .ref 120), (1, .ref 1), (2, .int (29 : Int32)), (3, .int (35 : Int32)), (4, .int (0 : Int32))]) (st' := [.ref 120]) rfl ?_
  refine w_cv (H.t rfl) (pc' := 4) (L' := [(0, .ref 120), (1, .ref 1), (2, .int (29 : Int32)), (3, .int (35 : Int32)), (4, .int (0 : Int32))]) (rest := []) (Ps := []) (L0 := [(0, .ref 120)]) h_m103 (z_at.mk 3 rfl rfl) (Or.inl ⟨rfl, rfl⟩) rfl rfl (by decide) (by decide) rfl rfl rfl rfl rfl rfl (by decide) rfl rfl rfl ?_
  refine w_p h_m93 1 (pc' := 1) (L' := [(0, .ref 120)]) (st' := [.ref 120]) rfl ?_
  refine w_gf H (pc' := 4) (L' := [(0, .ref 120)]) h_m93 (z_at.mk 3 rfl rfl) rfl (u := .int (-1 : Int32)) rfl rfl rfl ?_
  refine w_p h_m93 4 (pc' := 13) (L' := []) (st' := [.int (1 : Int32)]) rfl ?_
  refine w_ri h_m93 (z_at.mk 1 rfl rfl) rfl rfl ?_
  show z_W 996 103 4 [(0, .ref 120), (1, .ref 1), (2, .int (29 : Int32)), (3, .int (35 : Int32)), (4, .int (0 : Int32))] [.int (1 : Int32)] m _
  refine w_p h_m103 4 (pc' := 13) (L' := [(0, .ref 120), (1, .ref 1), (2, .int (29 : Int32)), (3, .int (35 : Int32)), (4, .int (0 : Int32))]) (st' := [.ref 120]) rfl ?_
  refine w_gf H (pc' := 16) (L' := [(0, .ref 120), (1, .ref 1), (2, .int (29 : Int32)), (3, .int (35 : Int32)), (4, .int (0 : Int32))]) h_m103 (z_at.mk 3 rfl rfl) rfl (u := .int (0 : Int32)) rfl rfl rfl ?_
  refine w_p h_m103 3 (pc' := 23) (L' := [(0, .ref 120), (1, .ref 1), (2, .int (29 : Int32)), (3, .int (35 : Int32)), (4, .int (0 : Int32))]) (st' := [.ref 120]) rfl ?_
  refine w_gf H (pc' := 26) (L' := [(0, .ref 120), (1, .ref 1), (2, .int (29 : Int32)), (3, .int (35 : Int32)), (4, .int (0 : Int32))]) h_m103 (z_at.mk 3 rfl rfl) rfl (u := .int (0 : Int32)) rfl rfl rfl ?_
  refine w_p h_m103 7 (pc' := 36) (L' := []) (st' := [.int (0 : Int32)]) rfl ?_
  refine w_ri h_m103 (z_at.mk 1 rfl rfl) rfl rfl ?_
  show z_W 997 102 95 [(0, .ref 120), (1, .ref 1), (2, .int (0 : Int32)), (3, .int (5 : Int32)), (4, .int (29 : Int32)), (5, .int (35 : Int32))] [.int (0 : Int32)] m _
  refine w_p h_m102 10 (pc' := 59) (L' := [(0, .ref 120), (1, .ref 1), (2, .int (0 : Int32)), (3, .int (6 : Int32)), (4, .int (36 : Int32)), (5, .int (36 : Int32))]) (st' := [.ref 1, .int (36 : Int32)]) rfl ?_
  refine w_cv (H.te (by decide) rfl).1 (pc' := 62) (L' := [(0, .ref 120), (1, .ref 1), (2, .int (0 : Int32)), (3, .int (6 : Int32)), (4, .int (36 : Int32)), (5, .int (36 : Int32))]) (rest := [.int (36 : Int32)]) (Ps := []) (L0 := [(0, .ref 1)]) h_m102 (z_at.mk 3 rfl rfl) (Or.inl ⟨rfl, rfl⟩) rfl rfl (by decide) (by decide) rfl rfl rfl rfl rfl rfl (by decide) rfl rfl rfl ?_
  refine w_p h_m293 1 (pc' := 1) (L' := [(0, .ref 1)]) (st' := [.ref 1]) rfl ?_
  refine w_gs H (pc' := 4) (L' := [(0, .ref 1)]) h_m293 (z_at.mk 3 rfl rfl) rfl (by decide) rfl rfl rfl rfl ?_
  refine w_lene H (x := (39 : Int32)) (pc' := 5) (L' := [(0, .ref 1)]) h_m293 (z_at.mk 1 rfl rfl) (by decide) rfl (by decide) rfl rfl rfl ?_
  refine w_p h_m293 1 (pc' := 6) (L' := [(0, .ref 1)]) (st' := [.ref 1, .int (39 : Int32)]) rfl ?_
  refine w_cv (H.te (by decide) rfl).1 (pc' := 9) (L' := [(0, .ref 1)]) (rest := [.int (39 : Int32)]) (Ps := []) (L0 := [(0, .ref 1)]) h_m293 (z_at.mk 3 rfl rfl) (Or.inl ⟨rfl, rfl⟩) rfl rfl (by decide) (by decide) rfl rfl rfl rfl rfl rfl (by decide) rfl rfl rfl ?_
  refine w_p h_m298 3 (pc' := 7) (L' := [(0, .ref 1)]) (st' := [.ref 1]) rfl ?_
  refine w_gs H (pc' := 10) (L' := [(0, .ref 1)]) h_m298 (z_at.mk 3 rfl rfl) rfl (by decide) rfl rfl rfl rfl ?_
  refine w_p h_m298 1 (pc' := 14) (L' := []) (st' := [.int (0 : Int32)]) rfl ?_
  refine w_ri h_m298 (z_at.mk 1 rfl rfl) rfl rfl ?_
  show z_W 996 293 9 [(0, .ref 1)] [.int (0 : Int32), .int (39 : Int32)] m _
  refine w_p h_m293 1 (pc' := 10) (L' := [(0, .ref 1)]) (st' := [.int (39 : Int32)]) rfl ?_
  refine w_ri h_m293 (z_at.mk 1 rfl rfl) rfl rfl ?_
  show z_W 997 102 62 [(0, .ref 120), (1, .ref 1), (2, .int (0 : Int32)), (3, .int (6 : Int32)), (4, .int (36 : Int32)), (5, .int (36 : Int32))] [.int (39 : Int32), .int (36 : Int32)] m _
  refine w_p h_m102 3 (pc' := 68) (L' := [(0, .ref 120), (1, .ref 1), (2, .int (0 : Int32)), (3, .int (6 : Int32)), (4, .int (36 : Int32)), (5, .int (36 : Int32))]) (st' := [.ref 1, .int (36 : Int32)]) rfl ?_
  refine w_cv (H.te (by decide) rfl).1 (pc' := 71) (L' := [(0, .ref 120), (1, .ref 1), (2, .int (0 : Int32)), (3, .int (6 : Int32)), (4, .int (36 : Int32)), (5, .int (36 : Int32))]) (rest := [.int (36 : Int32)]) (Ps := []) (L0 := [(0, .ref 1)]) h_m102 (z_at.mk 3 rfl rfl) (Or.inl ⟨rfl, rfl⟩) rfl rfl (by decide) (by decide) rfl rfl rfl rfl rfl rfl (by decide) rfl rfl rfl ?_
  refine w_p h_m293 1 (pc' := 1) (L' := [(0, .ref 1)]) (st' := [.ref 1]) rfl ?_
  refine w_gs H (pc' := 4) (L' := [(0, .ref 1)]) h_m293 (z_at.mk 3 rfl rfl) rfl (by decide) rfl rfl rfl rfl ?_
  refine w_lene H (x := (39 : Int32)) (pc' := 5) (L' := [(0, .ref 1)]) h_m293 (z_at.mk 1 rfl rfl) (by decide) rfl (by decide) rfl rfl rfl ?_
  refine w_p h_m293 1 (pc' := 6) (L' := [(0, .ref 1)]) (st' := [.ref 1, .int (39 : Int32)]) rfl ?_
  refine w_cv (H.te (by decide) rfl).1 (pc' := 9) (L' := [(0, .ref 1)]) (rest := [.int (39 : Int32)]) (Ps := []) (L0 := [(0, .ref 1)]) h_m293 (z_at.mk 3 rfl rfl) (Or.inl ⟨rfl, rfl⟩) rfl rfl (by decide) (by decide) rfl rfl rfl rfl rfl rfl (by decide) rfl rfl rfl ?_
  refine w_p h_m298 3 (pc' := 7) (L' := [(0, .ref 1)]) (st' := [.ref 1]) rfl ?_
  refine w_gs H (pc' := 10) (L' := [(0, .ref 1)]) h_m298 (z_at.mk 3 rfl rfl) rfl (by decide) rfl rfl rfl rfl ?_
  refine w_p h_m298 1 (pc' := 14) (L' := []) (st' := [.int (0 : Int32)]) rfl ?_
  refine w_ri h_m298 (z_at.mk 1 rfl rfl) rfl rfl ?_
  show z_W 996 293 9 [(0, .ref 1)] [.int (0 : Int32), .int (39 : Int32)] m _
  refine w_p h_m293 1 (pc' := 10) (L' := [(0, .ref 1)]) (st' := [.int (39 : Int32)]) rfl ?_
  refine w_ri h_m293 (z_at.mk 1 rfl rfl) rfl rfl ?_
  show z_W 997 102 71 [(0, .ref 120), (1, .ref 1), (2, .int (0 : Int32)), (3, .int (6 : Int32)), (4, .int (36 : Int32)), (5, .int (36 : Int32))] [.int (39 : Int32), .int (36 : Int32)] m _
  refine w_p h_m102 3 (pc' := 77) (L' := [(0, .ref 120), (1, .ref 1), (2, .int (0 : Int32)), (3, .int (6 : Int32)), (4, .int (36 : Int32)), (5, .int (36 : Int32))]) (st' := [.int (36 : Int32), .ref 1]) rfl ?_
  refine w_cv (H.te (by decide) rfl).1 (pc' := 80) (L' := [(0, .ref 120), (1, .ref 1), (2, .int (0 : Int32)), (3, .int (6 : Int32)), (4, .int (36 : Int32)), (5, .int (36 : Int32))]) (rest := []) (Ps := [.int (36 : Int32)]) (L0 := [(0, .ref 1), (1, .int (36 : Int32))]) h_m102 (z_at.mk 3 rfl rfl) (Or.inl ⟨rfl, rfl⟩) rfl rfl (by decide) (by decide) rfl rfl rfl rfl rfl rfl (by decide) rfl rfl rfl ?_
  refine w_p h_m294 1 (pc' := 1) (L' := [(0, .ref 1), (1, .int (36 : Int32))]) (st' := [.ref 1]) rfl ?_
  refine w_cv (H.te (by decide) rfl).1 (pc' := 4) (L' := [(0, .ref 1), (1, .int (36 : Int32))]) (rest := []) (Ps := []) (L0 := [(0, .ref 1)]) h_m294 (z_at.mk 3 rfl rfl) (Or.inl ⟨rfl, rfl⟩) rfl rfl (by decide) (by decide) rfl rfl rfl rfl rfl rfl (by decide) rfl rfl rfl ?_
  refine w_p h_m299 3 (pc' := 7) (L' := [(0, .ref 1)]) (st' := [.ref 1]) rfl ?_
  refine w_gs H (pc' := 10) (L' := [(0, .ref 1)]) h_m299 (z_at.mk 3 rfl rfl) rfl (by decide) rfl rfl rfl rfl ?_
  refine w_p h_m299 3 (pc' := 18) (L' := []) (st' := [.int (1 : Int32)]) rfl ?_
  refine w_ri h_m299 (z_at.mk 1 rfl rfl) rfl rfl ?_
  show z_W 996 294 4 [(0, .ref 1), (1, .int (36 : Int32))] [.int (1 : Int32)] m _
  refine w_p h_m294 2 (pc' := 8) (L' := [(0, .ref 1), (1, .int (36 : Int32))]) (st' := [.ref 1]) rfl ?_
  refine w_gs H (pc' := 11) (L' := [(0, .ref 1), (1, .int (36 : Int32))]) h_m294 (z_at.mk 3 rfl rfl) rfl (by decide) rfl rfl rfl rfl ?_
  refine w_p h_m294 1 (pc' := 12) (L' := [(0, .ref 1), (1, .int (36 : Int32))]) (st' := [.int (36 : Int32), .ref 19]) rfl ?_
  refine w_cs (As := [.ref 19, .int (36 : Int32)]) (rest := []) (j := 308) (L0 := [(0, .ref 19), (1, .int (36 : Int32))]) (pc' := 15) (L' := [(0, .ref 1), (1, .int (36 : Int32))]) h_m294 (z_at.mk 3 rfl rfl) (Or.inl ⟨rfl, rfl⟩) rfl rfl rfl rfl rfl ?_
  refine w_p h_m308 2 (pc' := 2) (L' := [(0, .ref 19), (1, .int (36 : Int32))]) (st' := [.ref 19, .int (36 : Int32)]) rfl ?_
  refine w_lene H (x := (39 : Int32)) (pc' := 3) (L' := [(0, .ref 19), (1, .int (36 : Int32))]) h_m308 (z_at.mk 1 rfl rfl) (by decide) rfl (by decide) rfl rfl rfl ?_
  refine w_ci (pc' := 6) (L' := [(0, .ref 19), (1, .int (36 : Int32))]) h_m308 (z_at.mk 3 rfl rfl) rfl (z_cat_le 0 rfl (by decide)) ⟨by decide, by decide⟩ rfl rfl ?_
  refine w_p h_m308 2 (pc' := 8) (L' := [(0, .ref 19), (1, .int (36 : Int32))]) (st' := [.int (36 : Int32), .ref 19]) rfl ?_
  refine w_ae H (j := 36) (pc' := 9) (L' := [(0, .ref 19), (1, .int (36 : Int32))]) h_m308 (z_at.mk 1 rfl rfl) rfl rfl rfl (by decide) rfl (by decide) rfl rfl rfl ?_
  refine w_p h_m308 3 (pc' := 14) (L' := [(0, .ref 19), (1, .int (36 : Int32))]) (st' := [.int (98 : Int32)]) rfl ?_
  refine w_ri h_m308 (z_at.mk 1 rfl rfl) rfl rfl ?_
  show z_W 996 294 15 [(0, .ref 1), (1, .int (36 : Int32))] [.int (98 : Int32)] m _
  refine w_ri h_m294 (z_at.mk 1 rfl rfl) rfl rfl ?_
  show z_W 997 102 80 [(0, .ref 120), (1, .ref 1), (2, .int (0 : Int32)), (3, .int (6 : Int32)), (4, .int (36 : Int32)), (5, .int (36 : Int32))] [.int (98 : Int32)] m _
  refine w_p h_m102 6 (pc' := 59) (L' := [(0, .ref 120), (1, .ref 1), (2, .int (0 : Int32)), (3, .int (6 : Int32)), (4, .int (36 : Int32)), (5, .int (37 : Int32))]) (st' := [.ref 1, .int (37 : Int32)]) rfl ?_
  refine w_cv (H.te (by decide) rfl).1 (pc' := 62) (L' := [(0, .ref 120), (1, .ref 1), (2, .int (0 : Int32)), (3, .int (6 : Int32)), (4, .int (36 : Int32)), (5, .int (37 : Int32))]) (rest := [.int (37 : Int32)]) (Ps := []) (L0 := [(0, .ref 1)]) h_m102 (z_at.mk 3 rfl rfl) (Or.inl ⟨rfl, rfl⟩) rfl rfl (by decide) (by decide) rfl rfl rfl rfl rfl rfl (by decide) rfl rfl rfl ?_
  refine w_p h_m293 1 (pc' := 1) (L' := [(0, .ref 1)]) (st' := [.ref 1]) rfl ?_
  refine w_gs H (pc' := 4) (L' := [(0, .ref 1)]) h_m293 (z_at.mk 3 rfl rfl) rfl (by decide) rfl rfl rfl rfl ?_
  refine w_lene H (x := (39 : Int32)) (pc' := 5) (L' := [(0, .ref 1)]) h_m293 (z_at.mk 1 rfl rfl) (by decide) rfl (by decide) rfl rfl rfl ?_
  refine w_p h_m293 1 (pc' := 6) (L' := [(0, .ref 1)]) (st' := [.ref 1, .int (39 : Int32)]) rfl ?_
  refine w_cv (H.te (by decide) rfl).1 (pc' := 9) (L' := [(0, .ref 1)]) (rest := [.int (39 : Int32)]) (Ps := []) (L0 := [(0, .ref 1)]) h_m293 (z_at.mk 3 rfl rfl) (Or.inl ⟨rfl, rfl⟩) rfl rfl (by decide) (by decide) rfl rfl rfl rfl rfl rfl (by decide) rfl rfl rfl ?_
  refine w_p h_m298 3 (pc' := 7) (L' := [(0, .ref 1)]) (st' := [.ref 1]) rfl ?_
  refine w_gs H (pc' := 10) (L' := [(0, .ref 1)]) h_m298 (z_at.mk 3 rfl rfl) rfl (by decide) rfl rfl rfl rfl ?_
  refine w_p h_m298 1 (pc' := 14) (L' := []) (st' := [.int (0 : Int32)]) rfl ?_
  refine w_ri h_m298 (z_at.mk 1 rfl rfl) rfl rfl ?_
  show z_W 996 293 9 [(0, .ref 1)] [.int (0 : Int32), .int (39 : Int32)] m _
  refine w_p h_m293 1 (pc' := 10) (L' := [(0, .ref 1)]) (st' := [.int (39 : Int32)]) rfl ?_
  refine w_ri h_m293 (z_at.mk 1 rfl rfl) rfl rfl ?_
  show z_W 997 102 62 [(0, .ref 120), (1, .ref 1), (2, .int (0 : Int32)), (3, .int (6 : Int32)), (4, .int (36 : Int32)), (5, .int (37 : Int32))] [.int (39 : Int32), .int (37 : Int32)] m _
  refine w_p h_m102 3 (pc' := 68) (L' := [(0, .ref 120), (1, .ref 1), (2, .int (0 : Int32)), (3, .int (6 : Int32)), (4, .int (36 : Int32)), (5, .int (37 : Int32))]) (st' := [.ref 1, .int (37 : Int32)]) rfl ?_
  refine w_cv (H.te (by decide) rfl).1 (pc' := 71) (L' := [(0, .ref 120), (1, .ref 1), (2, .int (0 : Int32)), (3, .int (6 : Int32)), (4, .int (36 : Int32)), (5, .int (37 : Int32))]) (rest := [.int (37 : Int32)]) (Ps := []) (L0 := [(0, .ref 1)]) h_m102 (z_at.mk 3 rfl rfl) (Or.inl ⟨rfl, rfl⟩) rfl rfl (by decide) (by decide) rfl rfl rfl rfl rfl rfl (by decide) rfl rfl rfl ?_
  refine w_p h_m293 1 (pc' := 1) (L' := [(0, .ref 1)]) (st' := [.ref 1]) rfl ?_
  refine w_gs H (pc' := 4) (L' := [(0, .ref 1)]) h_m293 (z_at.mk 3 rfl rfl) rfl (by decide) rfl rfl rfl rfl ?_
  refine w_lene H (x := (39 : Int32)) (pc' := 5) (L' := [(0, .ref 1)]) h_m293 (z_at.mk 1 rfl rfl) (by decide) rfl (by decide) rfl rfl rfl ?_
  refine w_p h_m293 1 (pc' := 6) (L' := [(0, .ref 1)]) (st' := [.ref 1, .int (39 : Int32)]) rfl ?_
  refine w_cv (H.te (by decide) rfl).1 (pc' := 9) (L' := [(0, .ref 1)]) (rest := [.int (39 : Int32)]) (Ps := []) (L0 := [(0, .ref 1)]) h_m293 (z_at.mk 3 rfl rfl) (Or.inl ⟨rfl, rfl⟩) rfl rfl (by decide) (by decide) rfl rfl rfl rfl rfl rfl (by decide) rfl rfl rfl ?_
  refine w_p h_m298 3 (pc' := 7) (L' := [(0, .ref 1)]) (st' := [.ref 1]) rfl ?_
  refine w_gs H (pc' := 10) (L' := [(0, .ref 1)]) h_m298 (z_at.mk 3 rfl rfl) rfl (by decide) rfl rfl rfl rfl ?_
  refine w_p h_m298 1 (pc' := 14) (L' := []) (st' := [.int (0 : Int32)]) rfl ?_
  refine w_ri h_m298 (z_at.mk 1 rfl rfl) rfl rfl ?_
  show z_W 996 293 9 [(0, .ref 1)] [.int (0 : Int32), .int (39 : Int32)] m _
  refine w_p h_m293 1 (pc' := 10) (L' := [(0, .ref 1)]) (st' := [.int (39 : Int32)]) rfl ?_
  refine w_ri h_m293 (z_at.mk 1 rfl rfl) rfl rfl ?_
  show z_W 997 102 71 [(0, .ref 120), (1, .ref 1), (2, .int (0 : Int32)), (3, .int (6 : Int32)), (4, .int (36 : Int32)), (5, .int (37 : Int32))] [.int (39 : Int32), .int (37 : Int32)] m _
  refine w_p h_m102 3 (pc' := 77) (L' := [(0, .ref 120), (1, .ref 1), (2, .int (0 : Int32)), (3, .int (6 : Int32)), (4, .int (36 : Int32)), (5, .int (37 : Int32))]) (st' := [.int (37 : Int32), .ref 1]) rfl ?_
  refine w_cv (H.te (by decide) rfl).1 (pc' := 80) (L' := [(0, .ref 120), (1, .ref 1), (2, .int (0 : Int32)), (3, .int (6 : Int32)), (4, .int (36 : Int32)), (5, .int (37 : Int32))]) (rest := []) (Ps := [.int (37 : Int32)]) (L0 := [(0, .ref 1), (1, .int (37 : Int32))]) h_m102 (z_at.mk 3 rfl rfl) (Or.inl ⟨rfl, rfl⟩) rfl rfl (by decide) (by decide) rfl rfl rfl rfl rfl rfl (by decide) rfl rfl rfl ?_
  refine w_p h_m294 1 (pc' := 1) (L' := [(0, .ref 1), (1, .int (37 : Int32))]) (st' := [.ref 1]) rfl ?_
  refine w_cv (H.te (by decide) rfl).1 (pc' := 4) (L' := [(0, .ref 1), (1, .int (37 : Int32))]) (rest := []) (Ps := []) (L0 := [(0, .ref 1)]) h_m294 (z_at.mk 3 rfl rfl) (Or.inl ⟨rfl, rfl⟩) rfl rfl (by decide) (by decide) rfl rfl rfl rfl rfl rfl (by decide) rfl rfl rfl ?_
  refine w_p h_m299 3 (pc' := 7) (L' := [(0, .ref 1)]) (st' := [.ref 1]) rfl ?_
  refine w_gs H (pc' := 10) (L' := [(0, .ref 1)]) h_m299 (z_at.mk 3 rfl rfl) rfl (by decide) rfl rfl rfl rfl ?_
  refine w_p h_m299 3 (pc' := 18) (L' := []) (st' := [.int (1 : Int32)]) rfl ?_
  refine w_ri h_m299 (z_at.mk 1 rfl rfl) rfl rfl ?_
  show z_W 996 294 4 [(0, .ref 1), (1, .int (37 : Int32))] [.int (1 : Int32)] m _
  refine w_p h_m294 2 (pc' := 8) (L' := [(0, .ref 1), (1, .int (37 : Int32))]) (st' := [.ref 1]) rfl ?_
  refine w_gs H (pc' := 11) (L' := [(0, .ref 1), (1, .int (37 : Int32))]) h_m294 (z_at.mk 3 rfl rfl) rfl (by decide) rfl rfl rfl rfl ?_
  refine w_p h_m294 1 (pc' := 12) (L' := [(0, .ref 1), (1, .int (37 : Int32))]) (st' := [.int (37 : Int32), .ref 19]) rfl ?_
  refine w_cs (As := [.ref 19, .int (37 : Int32)]) (rest := []) (j := 308) (L0 := [(0, .ref 19), (1, .int (37 : Int32))]) (pc' := 15) (L' := [(0, .ref 1), (1, .int (37 : Int32))]) h_m294 (z_at.mk 3 rfl rfl) (Or.inl ⟨rfl, rfl⟩) rfl rfl rfl rfl rfl ?_
  refine w_p h_m308 2 (pc' := 2) (L' := [(0, .ref 19), (1, .int (37 : Int32))]) (st' := [.ref 19, .int (37 : Int32)]) rfl ?_
  refine w_lene H (x := (39 : Int32)) (pc' := 3) (L' := [(0, .ref 19), (1, .int (37 : Int32))]) h_m308 (z_at.mk 1 rfl rfl) (by decide) rfl (by decide) rfl rfl rfl ?_
  refine w_ci (pc' := 6) (L' := [(0, .ref 19), (1, .int (37 : Int32))]) h_m308 (z_at.mk 3 rfl rfl) rfl (z_cat_le 0 rfl (by decide)) ⟨by decide, by decide⟩ rfl rfl ?_
  refine w_p h_m308 2 (pc' := 8) (L' := [(0, .ref 19), (1, .int (37 : Int32))]) (st' := [.int (37 : Int32), .ref 19]) rfl ?_
  refine w_ae H (j := 37) (pc' := 9) (L' := [(0, .ref 19), (1, .int (37 : Int32))]) h_m308 (z_at.mk 1 rfl rfl) rfl rfl rfl (by decide) rfl (by decide) rfl rfl rfl ?_
  refine w_p h_m308 3 (pc' := 14) (L' := [(0, .ref 19), (1, .int (37 : Int32))]) (st' := [.int (105 : Int32)]) rfl ?_
  refine w_ri h_m308 (z_at.mk 1 rfl rfl) rfl rfl ?_
  show z_W 996 294 15 [(0, .ref 1), (1, .int (37 : Int32))] [.int (105 : Int32)] m _
  refine w_ri h_m294 (z_at.mk 1 rfl rfl) rfl rfl ?_
  show z_W 997 102 80 [(0, .ref 120), (1, .ref 1), (2, .int (0 : Int32)), (3, .int (6 : Int32)), (4, .int (36 : Int32)), (5, .int (37 : Int32))] [.int (105 : Int32)] m _
  refine w_p h_m102 6 (pc' := 59) (L' := [(0, .ref 120), (1, .ref 1), (2, .int (0 : Int32)), (3, .int (6 : Int32)), (4, .int (36 : Int32)), (5, .int (38 : Int32))]) (st' := [.ref 1, .int (38 : Int32)]) rfl ?_
  refine w_cv (H.te (by decide) rfl).1 (pc' := 62) (L' := [(0, .ref 120), (1, .ref 1), (2, .int (0 : Int32)), (3, .int (6 : Int32)), (4, .int (36 : Int32)), (5, .int (38 : Int32))]) (rest := [.int (38 : Int32)]) (Ps := []) (L0 := [(0, .ref 1)]) h_m102 (z_at.mk 3 rfl rfl) (Or.inl ⟨rfl, rfl⟩) rfl rfl (by decide) (by decide) rfl rfl rfl rfl rfl rfl (by decide) rfl rfl rfl ?_
  refine w_p h_m293 1 (pc' := 1) (L' := [(0, .ref 1)]) (st' := [.ref 1]) rfl ?_
  refine w_gs H (pc' := 4) (L' := [(0, .ref 1)]) h_m293 (z_at.mk 3 rfl rfl) rfl (by decide) rfl rfl rfl rfl ?_
  refine w_lene H (x := (39 : Int32)) (pc' := 5) (L' := [(0, .ref 1)]) h_m293 (z_at.mk 1 rfl rfl) (by decide) rfl (by decide) rfl rfl rfl ?_
  refine w_p h_m293 1 (pc' := 6) (L' := [(0, .ref 1)]) (st' := [.ref 1, .int (39 : Int32)]) rfl ?_
  refine w_cv (H.te (by decide) rfl).1 (pc' := 9) (L' := [(0, .ref 1)]) (rest := [.int (39 : Int32)]) (Ps := []) (L0 := [(0, .ref 1)]) h_m293 (z_at.mk 3 rfl rfl) (Or.inl ⟨rfl, rfl⟩) rfl rfl (by decide) (by decide) rfl rfl rfl rfl rfl rfl (by decide) rfl rfl rfl ?_
  refine w_p h_m298 3 (pc' := 7) (L' := [(0, .ref 1)]) (st' := [.ref 1]) rfl ?_
  refine w_gs H (pc' := 10) (L' := [(0, .ref 1)]) h_m298 (z_at.mk 3 rfl rfl) rfl (by decide) rfl rfl rfl rfl ?_
  refine w_p h_m298 1 (pc' := 14) (L' := []) (st' := [.int (0 : Int32)]) rfl ?_
  refine w_ri h_m298 (z_at.mk 1 rfl rfl) rfl rfl ?_
  show z_W 996 293 9 [(0, .ref 1)] [.int (0 : Int32), .int (39 : Int32)] m _
  refine w_p h_m293 1 (pc' := 10) (L' := [(0, .ref 1)]) (st' := [.int (39 : Int32)]) rfl ?_
  refine w_ri h_m293 (z_at.mk 1 rfl rfl) rfl rfl ?_
  show z_W 997 102 62 [(0, .ref 120), (1, .ref 1), (2, .int (0 : Int32)), (3, .int (6 : Int32)), (4, .int (36 : Int32)), (5, .int (38 : Int32))] [.int (39 : Int32), .int (38 : Int32)] m _
  refine w_p h_m102 3 (pc' := 68) (L' := [(0, .ref 120), (1, .ref 1), (2, .int (0 : Int32)), (3, .int (6 : Int32)), (4, .int (36 : Int32)), (5, .int (38 : Int32))]) (st' := [.ref 1, .int (38 : Int32)]) rfl ?_
  refine w_cv (H.te (by decide) rfl).1 (pc' := 71) (L' := [(0, .ref 120), (1, .ref 1), (2, .int (0 : Int32)), (3, .int (6 : Int32)), (4, .int (36 : Int32)), (5, .int (38 : Int32))]) (rest := [.int (38 : Int32)]) (Ps := []) (L0 := [(0, .ref 1)]) h_m102 (z_at.mk 3 rfl rfl) (Or.inl ⟨rfl, rfl⟩) rfl rfl (by decide) (by decide) rfl rfl rfl rfl rfl rfl (by decide) rfl rfl rfl ?_
  refine w_p h_m293 1 (pc' := 1) (L' := [(0, .ref 1)]) (st' := [.ref 1]) rfl ?_
  refine w_gs H (pc' := 4) (L' := [(0, .ref 1)]) h_m293 (z_at.mk 3 rfl rfl) rfl (by decide) rfl rfl rfl rfl ?_
  refine w_lene H (x := (39 : Int32)) (pc' := 5) (L' := [(0, .ref 1)]) h_m293 (z_at.mk 1 rfl rfl) (by decide) rfl (by decide) rfl rfl rfl ?_
  refine w_p h_m293 1 (pc' := 6) (L' := [(0, .ref 1)]) (st' := [.ref 1, .int (39 : Int32)]) rfl ?_
  refine w_cv (H.te (by decide) rfl).1 (pc' := 9) (L' := [(0, .ref 1)]) (rest := [.int (39 : Int32)]) (Ps := []) (L0 := [(0, .ref 1)]) h_m293 (z_at.mk 3 rfl rfl) (Or.inl ⟨rfl, rfl⟩) rfl rfl (by decide) (by decide) rfl rfl rfl rfl rfl rfl (by decide) rfl rfl rfl ?_
  refine w_p h_m298 3 (pc' := 7) (L' := [(0, .ref 1)]) (st' := [.ref 1]) rfl ?_
  refine w_gs H (pc' := 10) (L' := [(0, .ref 1)]) h_m298 (z_at.mk 3 rfl rfl) rfl (by decide) rfl rfl rfl rfl ?_
  refine w_p h_m298 1 (pc' := 14) (L' := []) (st' := [.int (0 : Int32)]) rfl ?_
  refine w_ri h_m298 (z_at.mk 1 rfl rfl) rfl rfl ?_
  show z_W 996 293 9 [(0, .ref 1)] [.int (0 : Int32), .int (39 : Int32)] m _
  refine w_p h_m293 1 (pc' := 10) (L' := [(0, .ref 1)]) (st' := [.int (39 : Int32)]) rfl ?_
  refine w_ri h_m293 (z_at.mk 1 rfl rfl) rfl rfl ?_
  show z_W 997 102 71 [(0, .ref 120), (1, .ref 1), (2, .int (0 : Int32)), (3, .int (6 : Int32)), (4, .int (36 : Int32)), (5, .int (38 : Int32))] [.int (39 : Int32), .int (38 : Int32)] m _
  refine w_p h_m102 3 (pc' := 77) (L' := [(0, .ref 120), (1, .ref 1), (2, .int (0 : Int32)), (3, .int (6 : Int32)), (4, .int (36 : Int32)), (5, .int (38 : Int32))]) (st' := [.int (38 : Int32), .ref 1]) rfl ?_
  refine w_cv (H.te (by decide) rfl).1 (pc' := 80) (L' := [(0, .ref 120), (1, .ref 1), (2, .int (0 : Int32)), (3, .int (6 : Int32)), (4, .int (36 : Int32)), (5, .int (38 : Int32))]) (rest := []) (Ps := [.int (38 : Int32)]) (L0 := [(0, .ref 1), (1, .int (38 : Int32))]) h_m102 (z_at.mk 3 rfl rfl) (Or.inl ⟨rfl, rfl⟩) rfl rfl (by decide) (by decide) rfl rfl rfl rfl rfl rfl (by decide) rfl rfl rfl ?_
  refine w_p h_m294 1 (pc' := 1) (L' := [(0, .ref 1), (1, .int (38 : Int32))]) (st' := [.ref 1]) rfl ?_
  refine w_cv (H.te (by decide) rfl).1 (pc' := 4) (L' := [(0, .ref 1), (1, .int (38 : Int32))]) (rest := []) (Ps := []) (L0 := [(0, .ref 1)]) h_m294 (z_at.mk 3 rfl rfl) (Or.inl ⟨rfl, rfl⟩) rfl rfl (by decide) (by decide) rfl rfl rfl rfl rfl rfl (by decide) rfl rfl rfl ?_
  refine w_p h_m299 3 (pc' := 7) (L' := [(0, .ref 1)]) (st' := [.ref 1]) rfl ?_
  refine w_gs H (pc' := 10) (L' := [(0, .ref 1)]) h_m299 (z_at.mk 3 rfl rfl) rfl (by decide) rfl rfl rfl rfl ?_
  refine w_p h_m299 3 (pc' := 18) (L' := []) (st' := [.int (1 : Int32)]) rfl ?_
  refine w_ri h_m299 (z_at.mk 1 rfl rfl) rfl rfl ?_
  show z_W 996 294 4 [(0, .ref 1), (1, .int (38 : Int32))] [.int (1 : Int32)] m _
  refine w_p h_m294 2 (pc' := 8) (L' := [(0, .ref 1), (1, .int (38 : Int32))]) (st' := [.ref 1]) rfl ?_
  refine w_gs H (pc' := 11) (L' := [(0, .ref 1), (1, .int (38 : Int32))]) h_m294 (z_at.mk 3 rfl rfl) rfl (by decide) rfl rfl rfl rfl ?_
  refine w_p h_m294 1 (pc' := 12) (L' := [(0, .ref 1), (1, .int (38 : Int32))]) (st' := [.int (38 : Int32), .ref 19]) rfl ?_
  refine w_cs (As := [.ref 19, .int (38 : Int32)]) (rest := []) (j := 308) (L0 := [(0, .ref 19), (1, .int (38 : Int32))]) (pc' := 15) (L' := [(0, .ref 1), (1, .int (38 : Int32))]) h_m294 (z_at.mk 3 rfl rfl) (Or.inl ⟨rfl, rfl⟩) rfl rfl rfl rfl rfl ?_
  refine w_p h_m308 2 (pc' := 2) (L' := [(0, .ref 19), (1, .int (38 : Int32))]) (st' := [.ref 19, .int (38 : Int32)]) rfl ?_
  refine w_lene H (x := (39 : Int32)) (pc' := 3) (L' := [(0, .ref 19), (1, .int (38 : Int32))]) h_m308 (z_at.mk 1 rfl rfl) (by decide) rfl (by decide) rfl rfl rfl ?_
  refine w_ci (pc' := 6) (L' := [(0, .ref 19), (1, .int (38 : Int32))]) h_m308 (z_at.mk 3 rfl rfl) rfl (z_cat_le 0 rfl (by decide)) ⟨by decide, by decide⟩ rfl rfl ?_
  refine w_p h_m308 2 (pc' := 8) (L' := [(0, .ref 19), (1, .int (38 : Int32))]) (st' := [.int (38 : Int32), .ref 19]) rfl ?_
  refine w_ae H (j := 38) (pc' := 9) (L' := [(0, .ref 19), (1, .int (38 : Int32))]) h_m308 (z_at.mk 1 rfl rfl) rfl rfl rfl (by decide) rfl (by decide) rfl rfl rfl ?_
  refine w_p h_m308 3 (pc' := 14) (L' := [(0, .ref 19), (1, .int (38 : Int32))]) (st' := [.int (103 : Int32)]) rfl ?_
  refine w_ri h_m308 (z_at.mk 1 rfl rfl) rfl rfl ?_
  show z_W 996 294 15 [(0, .ref 1), (1, .int (38 : Int32))] [.int (103 : Int32)] m _
  refine w_ri h_m294 (z_at.mk 1 rfl rfl) rfl rfl ?_
  show z_W 997 102 80 [(0, .ref 120), (1, .ref 1), (2, .int (0 : Int32)), (3, .int (6 : Int32)), (4, .int (36 : Int32)), (5, .int (38 : Int32))] [.int (103 : Int32)] m _
  refine w_p h_m102 6 (pc' := 59) (L' := [(0, .ref 120), (1, .ref 1), (2, .int (0 : Int32)), (3, .int (6 : Int32)), (4, .int (36 : Int32)), (5, .int (39 : Int32))]) (st' := [.ref 1, .int (39 : Int32)]) rfl ?_
  refine w_cv (H.te (by decide) rfl).1 (pc' := 62) (L' := [(0, .ref 120), (1, .ref 1), (2, .int (0 : Int32)), (3, .int (6 : Int32)), (4, .int (36 : Int32)), (5, .int (39 : Int32))]) (rest := [.int (39 : Int32)]) (Ps := []) (L0 := [(0, .ref 1)]) h_m102 (z_at.mk 3 rfl rfl) (Or.inl ⟨rfl, rfl⟩) rfl rfl (by decide) (by decide) rfl rfl rfl rfl rfl rfl (by decide) rfl rfl rfl ?_
  refine w_p h_m293 1 (pc' := 1) (L' := [(0, .ref 1)]) (st' := [.ref 1]) rfl ?_
  refine w_gs H (pc' := 4) (L' := [(0, .ref 1)]) h_m293 (z_at.mk 3 rfl rfl) rfl (by decide) rfl rfl rfl rfl ?_
  refine w_lene H (x := (39 : Int32)) (pc' := 5) (L' := [(0, .ref 1)]) h_m293 (z_at.mk 1 rfl rfl) (by decide) rfl (by decide) rfl rfl rfl ?_
  refine w_p h_m293 1 (pc' := 6) (L' := [(0, .ref 1)]) (st' := [.ref 1, .int (39 : Int32)]) rfl ?_
  refine w_cv (H.te (by decide) rfl).1 (pc' := 9) (L' := [(0, .ref 1)]) (rest := [.int (39 : Int32)]) (Ps := []) (L0 := [(0, .ref 1)]) h_m293 (z_at.mk 3 rfl rfl) (Or.inl ⟨rfl, rfl⟩) rfl rfl (by decide) (by decide) rfl rfl rfl rfl rfl rfl (by decide) rfl rfl rfl ?_
  refine w_p h_m298 3 (pc' := 7) (L' := [(0, .ref 1)]) (st' := [.ref 1]) rfl ?_
  refine w_gs H (pc' := 10) (L' := [(0, .ref 1)]) h_m298 (z_at.mk 3 rfl rfl) rfl (by decide) rfl rfl rfl rfl ?_
  refine w_p h_m298 1 (pc' := 14) (L' := []) (st' := [.int (0 : Int32)]) rfl ?_
  refine w_ri h_m298 (z_at.mk 1 rfl rfl) rfl rfl ?_
  show z_W 996 293 9 [(0, .ref 1)] [.int (0 : Int32), .int (39 : Int32)] m _
  refine w_p h_m293 1 (pc' := 10) (L' := [(0, .ref 1)]) (st' := [.int (39 : Int32)]) rfl ?_
  refine w_ri h_m293 (z_at.mk 1 rfl rfl) rfl rfl ?_
  show z_W 997 102 62 [(0, .ref 120), (1, .ref 1), (2, .int (0 : Int32)), (3, .int (6 : Int32)), (4, .int (36 : Int32)), (5, .int (39 : Int32))] [.int (39 : Int32), .int (39 : Int32)] m _
  refine w_p h_m102 3 (pc' := 68) (L' := [(0, .ref 120), (1, .ref 1), (2, .int (0 : Int32)), (3, .int (6 : Int32)), (4, .int (36 : Int32)), (5, .int (39 : Int32))]) (st' := [.ref 1, .int (39 : Int32)]) rfl ?_
  refine w_cv (H.te (by decide) rfl).1 (pc' := 71) (L' := [(0, .ref 120), (1, .ref 1), (2, .int (0 : Int32)), (3, .int (6 : Int32)), (4, .int (36 : Int32)), (5, .int (39 : Int32))]) (rest := [.int (39 : Int32)]) (Ps := []) (L0 := [(0, .ref 1)]) h_m102 (z_at.mk 3 rfl rfl) (Or.inl ⟨rfl, rfl⟩) rfl rfl (by decide) (by decide) rfl rfl rfl rfl rfl rfl (by decide) rfl rfl rfl ?_
  refine w_p h_m293 1 (pc' := 1) (L' := [(0, .ref 1)]) (st' := [.ref 1]) rfl ?_
  refine w_gs H (pc' := 4) (L' := [(0, .ref 1)]) h_m293 (z_at.mk 3 rfl rfl) rfl (by decide) rfl rfl rfl rfl ?_
  refine w_lene H (x := (39 : Int32)) (pc' := 5) (L' := [(0, .ref 1)]) h_m293 (z_at.mk 1 rfl rfl) (by decide) rfl (by decide) rfl rfl rfl ?_
  refine w_p h_m293 1 (pc' := 6) (L' := [(0, .ref 1)]) (st' := [.ref 1, .int (39 : Int32)]) rfl ?_
  refine w_cv (H.te (by decide) rfl).1 (pc' := 9) (L' := [(0, .ref 1)]) (rest := [.int (39 : Int32)]) (Ps := []) (L0 := [(0, .ref 1)]) h_m293 (z_at.mk 3 rfl rfl) (Or.inl ⟨rfl, rfl⟩) rfl rfl (by decide) (by decide) rfl rfl rfl rfl rfl rfl (by decide) rfl rfl rfl ?_
  refine w_p h_m298 3 (pc' := 7) (L' := [(0, .ref 1)]) (st' := [.ref 1]) rfl ?_
  refine w_gs H (pc' := 10) (L' := [(0, .ref 1)]) h_m298 (z_at.mk 3 rfl rfl) rfl (by decide) rfl rfl rfl rfl ?_
  refine w_p h_m298 1 (pc' := 14) (L' := []) (st' := [.int (0 : Int32)]) rfl ?_
  refine w_ri h_m298 (z_at.mk 1 rfl rfl) rfl rfl ?_
  show z_W 996 293 9 [(0, .ref 1)] [.int (0 : Int32), .int (39 : Int32)] m _
  refine w_p h_m293 1 (pc' := 10) (L' := [(0, .ref 1)]) (st' := [.int (39 : Int32)]) rfl ?_
  refine w_ri h_m293 (z_at.mk 1 rfl rfl) rfl rfl ?_
  show z_W 997 102 71 [(0, .ref 120), (1, .ref 1), (2, .int (0 : Int32)), (3, .int (6 : Int32)), (4, .int (36 : Int32)), (5, .int (39 : Int32))] [.int (39 : Int32), .int (39 : Int32)] m _
  refine w_p h_m102 6 (pc' := 92) (L' := [(0, .ref 120), (1, .ref 1), (2, .int (0 : Int32)), (3, .int (6 : Int32)), (4, .int (36 : Int32)), (5, .int (39 : Int32))]) (st' := [.int (0 : Int32), .int (39 : Int32), .int (36 : Int32), .ref 1, .ref 120]) rfl ?_
  refine w_cv (H.t rfl) (pc' := 95) (L' := [(0, .ref 120), (1, .ref 1), (2, .int (0 : Int32)), (3, .int (6 : Int32)), (4, .int (36 : Int32)), (5, .int (39 : Int32))]) (rest := []) (Ps := [.ref 1, .int (36 : Int32), .int (39 : Int32), .int (0 : Int32)]) (L0 := [(0, .ref 120), (1, .ref 1), (2, .int (36 : Int32)), (3, .int (39 : Int32)), (4, .int (0 : Int32))]) h_m102 (z_at.mk 3 rfl rfl) (Or.inl ⟨rfl, rfl⟩) rfl rfl (by decide) (by decide) rfl rfl rfl rfl rfl rfl (by decide) rfl rfl rfl ?_
  refine w_p h_m103 1 (pc' := 1) (L' := [(0, .ref 120), (1, .ref 1), (2, .int (36 : Int32)), (3, .int (39 : Int32)), (4, .int (0 : Int32))]) (st' := [.ref 120]) rfl ?_
  refine w_cv (H.t rfl) (pc' := 4) (L' := [(0, .ref 120), (1, .ref 1), (2, .int (36 : Int32)), (3, .int (39 : Int32)), (4, .int (0 : Int32))]) (rest := []) (Ps := []) (L0 := [(0, .ref 120)]) h_m103 (z_at.mk 3 rfl rfl) (Or.inl ⟨rfl, rfl⟩) rfl rfl (by decide) (by decide) rfl rfl rfl rfl rfl rfl (by decide) rfl rfl rfl ?_
  refine w_p h_m93 1 (pc' := 1) (L' := [(0, .ref 120)]) (st' := [.ref 120]) rfl ?_
  refine w_gf H (pc' := 4) (L' := [(0, .ref 120)]) h_m93 (z_at.mk 3 rfl rfl) rfl (u := .int (-1 : Int32)) rfl rfl rfl ?_
  refine w_p h_m93 4 (pc' := 13) (L' := []) (st' := [.int (1 : Int32)]) rfl ?_
  refine w_ri h_m93 (z_at.mk 1 rfl rfl) rfl rfl ?_
  show z_W 996 103 4 [(0, .ref 120), (1, .ref 1), (2, .int (36 : Int32)), (3, .int (39 : Int32)), (4, .int (0 : Int32))] [.int (1 : Int32)] m _
  refine w_p h_m103 4 (pc' := 13) (L' := [(0, .ref 120), (1, .ref 1), (2, .int (36 : Int32)), (3, .int (39 : Int32)), (4, .int (0 : Int32))]) (st' := [.ref 120]) rfl ?_
  refine w_gf H (pc' := 16) (L' := [(0, .ref 120), (1, .ref 1), (2, .int (36 : Int32)), (3, .int (39 : Int32)), (4, .int (0 : Int32))]) h_m103 (z_at.mk 3 rfl rfl) rfl (u := .int (0 : Int32)) rfl rfl rfl ?_
  refine w_p h_m103 3 (pc' := 23) (L' := [(0, .ref 120), (1, .ref 1), (2, .int (36 : Int32)), (3, .int (39 : Int32)), (4, .int (0 : Int32))]) (st' := [.ref 120]) rfl ?_
  refine w_gf H (pc' := 26) (L' := [(0, .ref 120), (1, .ref 1), (2, .int (36 : Int32)), (3, .int (39 : Int32)), (4, .int (0 : Int32))]) h_m103 (z_at.mk 3 rfl rfl) rfl (u := .int (0 : Int32)) rfl rfl rfl ?_
  refine w_p h_m103 7 (pc' := 36) (L' := []) (st' := [.int (0 : Int32)]) rfl ?_
  refine w_ri h_m103 (z_at.mk 1 rfl rfl) rfl rfl ?_
  show z_W 997 102 95 [(0, .ref 120), (1, .ref 1), (2, .int (0 : Int32)), (3, .int (6 : Int32)), (4, .int (36 : Int32)), (5, .int (39 : Int32))] [.int (0 : Int32)] m _
  refine w_p h_m102 10 (pc' := 59) (L' := [(0, .ref 120), (1, .ref 1), (2, .int (0 : Int32)), (3, .int (7 : Int32)), (4, .int (40 : Int32)), (5, .int (40 : Int32))]) (st' := [.ref 1, .int (40 : Int32)]) rfl ?_
  refine w_cv (H.te (by decide) rfl).1 (pc' := 62) (L' := [(0, .ref 120), (1, .ref 1), (2, .int (0 : Int32)), (3, .int (7 : Int32)), (4, .int (40 : Int32)), (5, .int (40 : Int32))]) (rest := [.int (40 : Int32)]) (Ps := []) (L0 := [(0, .ref 1)]) h_m102 (z_at.mk 3 rfl rfl) (Or.inl ⟨rfl, rfl⟩) rfl rfl (by decide) (by decide) rfl rfl rfl rfl rfl rfl (by decide) rfl rfl rfl ?_
  refine w_p h_m293 1 (pc' := 1) (L' := [(0, .ref 1)]) (st' := [.ref 1]) rfl ?_
  refine w_gs H (pc' := 4) (L' := [(0, .ref 1)]) h_m293 (z_at.mk 3 rfl rfl) rfl (by decide) rfl rfl rfl rfl ?_
  refine w_lene H (x := (39 : Int32)) (pc' := 5) (L' := [(0, .ref 1)]) h_m293 (z_at.mk 1 rfl rfl) (by decide) rfl (by decide) rfl rfl rfl ?_
  refine w_p h_m293 1 (pc' := 6) (L' := [(0, .ref 1)]) (st' := [.ref 1, .int (39 : Int32)]) rfl ?_
  refine w_cv (H.te (by decide) rfl).1 (pc' := 9) (L' := [(0, .ref 1)]) (rest := [.int (39 : Int32)]) (Ps := []) (L0 := [(0, .ref 1)]) h_m293 (z_at.mk 3 rfl rfl) (Or.inl ⟨rfl, rfl⟩) rfl rfl (by decide) (by decide) rfl rfl rfl rfl rfl rfl (by decide) rfl rfl rfl ?_
  refine w_p h_m298 3 (pc' := 7) (L' := [(0, .ref 1)]) (st' := [.ref 1]) rfl ?_
  refine w_gs H (pc' := 10) (L' := [(0, .ref 1)]) h_m298 (z_at.mk 3 rfl rfl) rfl (by decide) rfl rfl rfl rfl ?_
  refine w_p h_m298 1 (pc' := 14) (L' := []) (st' := [.int (0 : Int32)]) rfl ?_
  refine w_ri h_m298 (z_at.mk 1 rfl rfl) rfl rfl ?_
  show z_W 996 293 9 [(0, .ref 1)] [.int (0 : Int32), .int (39 : Int32)] m _
  refine w_p h_m293 1 (pc' := 10) (L' := [(0, .ref 1)]) (st' := [.int (39 : Int32)]) rfl ?_
  refine w_ri h_m293 (z_at.mk 1 rfl rfl) rfl rfl ?_
  show z_W 997 102 62 [(0, .ref 120), (1, .ref 1), (2, .int (0 : Int32)), (3, .int (7 : Int32)), (4, .int (40 : Int32)), (5, .int (40 : Int32))] [.int (39 : Int32), .int (40 : Int32)] m _
  refine w_p h_m102 3 (pc' := 117) (L' := [(0, .ref 120), (1, .ref 1), (2, .int (0 : Int32)), (3, .int (7 : Int32)), (4, .int (40 : Int32)), (5, .int (40 : Int32))]) (st' := [.int (0 : Int32), .ref 120]) rfl ?_
  refine w_cv (H.t rfl) (pc' := 120) (L' := [(0, .ref 120), (1, .ref 1), (2, .int (0 : Int32)), (3, .int (7 : Int32)), (4, .int (40 : Int32)), (5, .int (40 : Int32))]) (rest := []) (Ps := [.int (0 : Int32)]) (L0 := [(0, .ref 120), (1, .int (0 : Int32))]) h_m102 (z_at.mk 3 rfl rfl) (Or.inl ⟨rfl, rfl⟩) rfl rfl (by decide) (by decide) rfl rfl rfl rfl rfl rfl (by decide) rfl rfl rfl ?_
  refine w_p h_m95 1 (pc' := 1) (L' := [(0, .ref 120), (1, .int (0 : Int32))]) (st' := [.ref 120]) rfl ?_
  refine w_gf H (pc' := 4) (L' := [(0, .ref 120), (1, .int (0 : Int32))]) h_m95 (z_at.mk 3 rfl rfl) rfl (u := .int (-1 : Int32)) rfl rfl rfl ?_
  refine w_p h_m95 4 (pc' := 10) (L' := [(0, .ref 120), (1, .int (0 : Int32))]) (st' := [.int (0 : Int32), .ref 120]) rfl ?_
  refine w_pf H (19, 4, [(3, .int (0 : Int32)), (2, .int (0 : Int32)), (1, .int (0 : Int32)), (0, .ref 121)], none) (pc' := 13) (L' := []) h_m95 (z_at.mk 3 rfl rfl) rfl (by decide) rfl (Or.inl rfl) rfl rfl rfl ?_
  clear H m; intro m H
  refine w_rv h_m95 (z_at.mk 1 rfl rfl) rfl ?_
  show z_W 997 102 120 [(0, .ref 120), (1, .ref 1), (2, .int (0 : Int32)), (3, .int (7 : Int32)), (4, .int (40 : Int32)), (5, .int (40 : Int32))] [] m _
  refine w_p h_m102 1 (pc' := 121) (L' := [(0, .ref 120), (1, .ref 1), (2, .int (0 : Int32)), (3, .int (7 : Int32)), (4, .int (40 : Int32)), (5, .int (40 : Int32))]) (st' := [.int (-1 : Int32)]) rfl ?_
  refine w_ri h_m102 (z_at.mk 1 rfl rfl) rfl rfl ?_
  show z_W 998 75 21 [(0, .ref 118), (1, .ref 120), (2, .int (0 : Int32)), (3, .int (1 : Int32))] [.int (-1 : Int32)] m _
  refine w_p h_m75 3 (pc' := 26) (L' := [(4, .int (-1 : Int32)), (0, .ref 118), (1, .ref 120), (2, .int (0 : Int32)), (3, .int (1 : Int32))]) (st' := [.int (32 : Int32), .ref 120]) rfl ?_
  refine w_cv (H.t rfl) (pc' := 29) (L' := [(4, .int (-1 : Int32)), (0, .ref 118), (1, .ref 120), (2, .int (0 : Int32)), (3, .int (1 : Int32))]) (rest := []) (Ps := [.int (32 : Int32)]) (L0 := [(0, .ref 120), (1, .int (32 : Int32))]) h_m75 (z_at.mk 3 rfl rfl) (Or.inl ⟨rfl, rfl⟩) rfl rfl (by decide) (by decide) rfl rfl rfl rfl rfl rfl (by decide) rfl rfl rfl ?_
  refine w_p h_m98 1 (pc' := 1) (L' := [(0, .ref 120), (1, .int (32 : Int32))]) (st' := [.ref 120]) rfl ?_
  refine w_cv (H.t rfl) (pc' := 4) (L' := [(0, .ref 120), (1, .int (32 : Int32))]) (rest := []) (Ps := []) (L0 := [(0, .ref 120)]) h_m98 (z_at.mk 3 rfl rfl) (Or.inl ⟨rfl, rfl⟩) rfl rfl (by decide) (by decide) rfl rfl rfl rfl rfl rfl (by decide) rfl rfl rfl ?_
  refine w_p h_m96 1 (pc' := 1) (L' := [(0, .ref 120)]) (st' := [.ref 120]) rfl ?_
  refine w_gf H (pc' := 4) (L' := [(0, .ref 120)]) h_m96 (z_at.mk 3 rfl rfl) rfl (u := .int (0 : Int32)) rfl rfl rfl ?_
  refine w_p h_m96 3 (pc' := 49) (L' := []) (st' := [.int (0 : Int32)]) rfl ?_
  refine w_ri h_m96 (z_at.mk 1 rfl rfl) rfl rfl ?_
  show z_W 997 98 4 [(0, .ref 120), (1, .int (32 : Int32))] [.int (0 : Int32)] m _
  refine w_p h_m98 4 (pc' := 23) (L' := [(0, .ref 120), (1, .int (32 : Int32))]) (st' := [.ref 120, .ref 120]) rfl ?_
  refine w_gf H (pc' := 26) (L' := [(0, .ref 120), (1, .int (32 : Int32))]) h_m98 (z_at.mk 3 rfl rfl) rfl (u := .int (0 : Int32)) rfl rfl rfl ?_
  refine w_cv (H.t rfl) (pc' := 29) (L' := []) (rest := []) (Ps := [.int (0 : Int32)]) (L0 := [(0, .ref 120), (1, .int (0 : Int32))]) h_m98 (z_at.mk 3 rfl rfl) (Or.inl ⟨rfl, rfl⟩) rfl rfl (by decide) (by decide) rfl rfl rfl rfl rfl rfl (by decide) rfl rfl rfl ?_
  refine w_p h_m95 1 (pc' := 1) (L' := [(0, .ref 120), (1, .int (0 : Int32))]) (st' := [.ref 120]) rfl ?_
  refine w_gf H (pc' := 4) (L' := [(0, .ref 120), (1, .int (0 : Int32))]) h_m95 (z_at.mk 3 rfl rfl) rfl (u := .int (0 : Int32)) rfl rfl rfl ?_
  refine w_p h_m95 2 (pc' := 13) (L' := []) (st' := []) rfl ?_
  refine w_rv h_m95 (z_at.mk 1 rfl rfl) rfl ?_
  show z_W 997 98 29 [] [] m _
  refine w_rv h_m98 (z_at.mk 1 rfl rfl) rfl ?_
  show z_W 998 75 29 [(4, .int (-1 : Int32)), (0, .ref 118), (1, .ref 120), (2, .int (0 : Int32)), (3, .int (1 : Int32))] [] m _
  refine w_p h_m75 5 (pc' := 36) (L' := [(4, .int (-1 : Int32)), (0, .ref 118), (1, .ref 120), (2, .int (0 : Int32)), (3, .int (1 : Int32))]) (st' := [.int (-1 : Int32), .ref 120, .ref 118, .int (-1 : Int32), .ref 118]) rfl ?_
  refine w_cv (H.t rfl) (pc' := 39) (L' := [(4, .int (-1 : Int32)), (0, .ref 118), (1, .ref 120), (2, .int (0 : Int32)), (3, .int (1 : Int32))]) (rest := [.int (-1 : Int32), .ref 118]) (Ps := [.ref 120, .int (-1 : Int32)]) (L0 := [(0, .ref 118), (1, .ref 120), (2, .int (-1 : Int32))]) h_m75 (z_at.mk 3 rfl rfl) (Or.inl ⟨rfl, rfl⟩) rfl rfl (by decide) (by decide) rfl rfl rfl rfl rfl rfl (by decide) rfl rfl rfl ?_
  refine w_p h_m76 4 (pc' := 91) (L' := [(0, .ref 118), (1, .ref 120), (2, .int (-1 : Int32))]) (st' := [.ref 3, .ref 120]) rfl ?_
  refine w_cv (H.t rfl) (pc' := 94) (L' := [(0, .ref 118), (1, .ref 120), (2, .int (-1 : Int32))]) (rest := []) (Ps := [.ref 3]) (L0 := [(0, .ref 120), (1, .ref 3)]) h_m76 (z_at.mk 3 rfl rfl) (Or.inl ⟨rfl, rfl⟩) rfl rfl (by decide) (by decide) rfl rfl rfl rfl rfl rfl (by decide) rfl rfl rfl ?_
  refine w_p h_m102 1 (pc' := 1) (L' := [(0, .ref 120), (1, .ref 3)]) (st' := [.ref 120]) rfl ?_
  refine w_gf H (pc' := 4) (L' := [(0, .ref 120), (1, .ref 3)]) h_m102 (z_at.mk 3 rfl rfl) rfl (u := .int (0 : Int32)) rfl rfl rfl ?_
  refine w_p h_m102 7 (pc' := 15) (L' := [(0, .ref 120), (1, .ref 3), (2, .int (0 : Int32)), (3, .int (0 : Int32))]) (st' := [.ref 120]) rfl ?_
  refine w_cv (H.t rfl) (pc' := 18) (L' := [(0, .ref 120), (1, .ref 3), (2, .int (0 : Int32)), (3, .int (0 : Int32))]) (rest := []) (Ps := []) (L0 := [(0, .ref 120)]) h_m102 (z_at.mk 3 rfl rfl) (Or.inl ⟨rfl, rfl⟩) rfl rfl (by decide) (by decide) rfl rfl rfl rfl rfl rfl (by decide) rfl rfl rfl ?_
  refine w_p h_m96 1 (pc' := 1) (L' := [(0, .ref 120)]) (st' := [.ref 120]) rfl ?_
  refine w_gf H (pc' := 4) (L' := [(0, .ref 120)]) h_m96 (z_at.mk 3 rfl rfl) rfl (u := .int (0 : Int32)) rfl rfl rfl ?_
  refine w_p h_m96 3 (pc' := 49) (L' := []) (st' := [.int (0 : Int32)]) rfl ?_
  refine w_ri h_m96 (z_at.mk 1 rfl rfl) rfl rfl ?_
  show z_W 996 102 18 [(0, .ref 120), (1, .ref 3), (2, .int (0 : Int32)), (3, .int (0 : Int32))] [.int (0 : Int32)] m _
  refine w_p h_m102 10 (pc' := 59) (L' := [(0, .ref 120), (1, .ref 3), (2, .int (0 : Int32)), (3, .int (0 : Int32)), (4, .int (0 : Int32)), (5, .int (0 : Int32))]) (st' := [.ref 3, .int (0 : Int32)]) rfl ?_
  refine w_cv (H.te (by decide) rfl).1 (pc' := 62) (L' := [(0, .ref 120), (1, .ref 3), (2, .int (0 : Int32)), (3, .int (0 : Int32)), (4, .int (0 : Int32)), (5, .int (0 : Int32))]) (rest := [.int (0 : Int32)]) (Ps := []) (L0 := [(0, .ref 3)]) h_m102 (z_at.mk 3 rfl rfl) (Or.inl ⟨rfl, rfl⟩) rfl rfl (by decide) (by decide) rfl rfl rfl rfl rfl rfl (by decide) rfl rfl rfl ?_
  refine w_p h_m293 1 (pc' := 1) (L' := [(0, .ref 3)]) (st' := [.ref 3]) rfl ?_
  refine w_gs H (pc' := 4) (L' := [(0, .ref 3)]) h_m293 (z_at.mk 3 rfl rfl) rfl (by decide) rfl rfl rfl rfl ?_
  refine w_lene H (x := (6 : Int32)) (pc' := 5) (L' := [(0, .ref 3)]) h_m293 (z_at.mk 1 rfl rfl) (by decide) rfl (by decide) rfl rfl rfl ?_
  refine w_p h_m293 1 (pc' := 6) (L' := [(0, .ref 3)]) (st' := [.ref 3, .int (6 : Int32)]) rfl ?_
  refine w_cv (H.te (by decide) rfl).1 (pc' := 9) (L' := [(0, .ref 3)]) (rest := [.int (6 : Int32)]) (Ps := []) (L0 := [(0, .ref 3)]) h_m293 (z_at.mk 3 rfl rfl) (Or.inl ⟨rfl, rfl⟩) rfl rfl (by decide) (by decide) rfl rfl rfl rfl rfl rfl (by decide) rfl rfl rfl ?_
  refine w_p h_m298 3 (pc' := 7) (L' := [(0, .ref 3)]) (st' := [.ref 3]) rfl ?_
  refine w_gs H (pc' := 10) (L' := [(0, .ref 3)]) h_m298 (z_at.mk 3 rfl rfl) rfl (by decide) rfl rfl rfl rfl ?_
  refine w_p h_m298 1 (pc' := 14) (L' := []) (st' := [.int (0 : Int32)]) rfl ?_
  refine w_ri h_m298 (z_at.mk 1 rfl rfl) rfl rfl ?_
  show z_W 995 293 9 [(0, .ref 3)] [.int (0 : Int32), .int (6 : Int32)] m _
  refine w_p h_m293 1 (pc' := 10) (L' := [(0, .ref 3)]) (st' := [.int (6 : Int32)]) rfl ?_
  refine w_ri h_m293 (z_at.mk 1 rfl rfl) rfl rfl ?_
  show z_W 996 102 62 [(0, .ref 120), (1, .ref 3), (2, .int (0 : Int32)), (3, .int (0 : Int32)), (4, .int (0 : Int32)), (5, .int (0 : Int32))] [.int (6 : Int32), .int (0 : Int32)] m _
  refine w_p h_m102 3 (pc' := 68) (L' := [(0, .ref 120), (1, .ref 3), (2, .int (0 : Int32)), (3, .int (0 : Int32)), (4, .int (0 : Int32)), (5, .int (0 : Int32))]) (st' := [.ref 3, .int (0 : Int32)]) rfl ?_
  refine w_cv (H.te (by decide) rfl).1 (pc' := 71) (L' := [(0, .ref 120), (1, .ref 3), (2, .int (0 : Int32)), (3, .int (0 : Int32)), (4, .int (0 : Int32)), (5, .int (0 : Int32))]) (rest := [.int (0 : Int32)]) (Ps := []) (L0 := [(0, .ref 3)]) h_m102 (z_at.mk 3 rfl rfl) (Or.inl ⟨rfl, rfl⟩) rfl rfl (by decide) (by decide) rfl rfl rfl rfl rfl rfl (by decide) rfl rfl rfl ?_
  refine w_p h_m293 1 (pc' := 1) (L' := [(0, .ref 3)]) (st' := [.ref 3]) rfl ?_
  refine w_gs H (pc' := 4) (L' := [(0, .ref 3)]) h_m293 (z_at.mk 3 rfl rfl) rfl (by decide) rfl rfl rfl rfl ?_
  refine w_lene H (x := (6 : Int32)) (pc' := 5) (L' := [(0, .ref 3)]) h_m293 (z_at.mk 1 rfl rfl) (by decide) rfl (by decide) rfl rfl rfl ?_
  refine w_p h_m293 1 (pc' := 6) (L' := [(0, .ref 3)]) (st' := [.ref 3, .int (6 : Int32)]) rfl ?_
  refine w_cv (H.te (by decide) rfl).1 (pc' := 9) (L' := [(0, .ref 3)]) (rest := [.int (6 : Int32)]) (Ps := []) (L0 := [(0, .ref 3)]) h_m293 (z_at.mk 3 rfl rfl) (Or.inl ⟨rfl, rfl⟩) rfl rfl (by decide) (by decide) rfl rfl rfl rfl rfl rfl (by decide) rfl rfl rfl ?_
  refine w_p h_m298 3 (pc' := 7) (L' := [(0, .ref 3)]) (st' := [.ref 3]) rfl ?_
  refine w_gs H (pc' := 10) (L' := [(0, .ref 3)]) h_m298 (z_at.mk 3 rfl rfl) rfl (by decide) rfl rfl rfl rfl ?_
  refine w_p h_m298 1 (pc' := 14) (L' := []) (st' := [.int (0 : Int32)]) rfl ?_
  refine w_ri h_m298 (z_at.mk 1 rfl rfl) rfl rfl ?_
  show z_W 995 293 9 [(0, .ref 3)] [.int (0 : Int32), .int (6 : Int32)] m _
  refine w_p h_m293 1 (pc' := 10) (L' := [(0, .ref 3)]) (st' := [.int (6 : Int32)]) rfl ?_
  refine w_ri h_m293 (z_at.mk 1 rfl rfl) rfl rfl ?_
  show z_W 996 102 71 [(0, .ref 120), (1, .ref 3), (2, .int (0 : Int32)), (3, .int (0 : Int32)), (4, .int (0 : Int32)), (5, .int (0 : Int32))] [.int (6 : Int32), .int (0 : Int32)] m _
  refine w_p h_m102 3 (pc' := 77) (L' := [(0, .ref 120), (1, .ref 3), (2, .int (0 : Int32)), (3, .int (0 : Int32)), (4, .int (0 : Int32)), (5, .int (0 : Int32))]) (st' := [.int (0 : Int32), .ref 3]) rfl ?_
  refine w_cv (H.te (by decide) rfl).1 (pc' := 80) (L' := [(0, .ref 120), (1, .ref 3), (2, .int (0 : Int32)), (3, .int (0 : Int32)), (4, .int (0 : Int32)), (5, .int (0 : Int32))]) (rest := []) (Ps := [.int (0 : Int32)]) (L0 := [(0, .ref 3), (1, .int (0 : Int32))]) h_m102 (z_at.mk 3 rfl rfl) (Or.inl ⟨rfl, rfl⟩) rfl rfl (by decide) (by decide) rfl rfl rfl rfl rfl rfl (by decide) rfl rfl rfl ?_
  refine w_p h_m294 1 (pc' := 1) (L' := [(0, .ref 3), (1, .int (0 : Int32))]) (st' := [.ref 3]) rfl ?_
  refine w_cv (H.te (by decide) rfl).1 (pc' := 4) (L' := [(0, .ref 3), (1, .int (0 : Int32))]) (rest := []) (Ps := []) (L0 := [(0, .ref 3)]) h_m294 (z_at.mk 3 rfl rfl) (Or.inl ⟨rfl, rfl⟩) rfl rfl (by decide) (by decide) rfl rfl rfl rfl rfl rfl (by decide) rfl rfl rfl ?_
  refine w_p h_m299 3 (pc' := 7) (L' := [(0, .ref 3)]) (st' := [.ref 3]) rfl ?_
  refine w_gs H (pc' := 10) (L' := [(0, .ref 3)]) h_m299 (z_at.mk 3 rfl rfl) rfl (by decide) rfl rfl rfl rfl ?_
  refine w_p h_m299 3 (pc' := 18) (L' := []) (st' := [.int (1 : Int32)]) rfl ?_
  refine w_ri h_m299 (z_at.mk 1 rfl rfl) rfl rfl ?_
  show z_W 995 294 4 [(0, .ref 3), (1, .int (0 : Int32))] [.int (1 : Int32)] m _
  refine w_p h_m294 2 (pc' := 8) (L' := [(0, .ref 3), (1, .int (0 : Int32))]) (st' := [.ref 3]) rfl ?_
  refine w_gs H (pc' := 11) (L' := [(0, .ref 3), (1, .int (0 : Int32))]) h_m294 (z_at.mk 3 rfl rfl) rfl (by decide) rfl rfl rfl rfl ?_
  refine w_p h_m294 1 (pc' := 12) (L' := [(0, .ref 3), (1, .int (0 : Int32))]) (st' := [.int (0 : Int32), .ref 21]) rfl ?_
  refine w_cs (As := [.ref 21, .int (0 : Int32)]) (rest := []) (j := 308) (L0 := [(0, .ref 21), (1, .int (0 : Int32))]) (pc' := 15) (L' := [(0, .ref 3), (1, .int (0 : Int32))]) h_m294 (z_at.mk 3 rfl rfl) (Or.inl ⟨rfl, rfl⟩) rfl rfl rfl rfl rfl ?_
  refine w_p h_m308 2 (pc' := 2) (L' := [(0, .ref 21), (1, .int (0 : Int32))]) (st' := [.ref 21, .int (0 : Int32)]) rfl ?_
  refine w_lene H (x := (6 : Int32)) (pc' := 3) (L' := [(0, .ref 21), (1, .int (0 : Int32))]) h_m308 (z_at.mk 1 rfl rfl) (by decide) rfl (by decide) rfl rfl rfl ?_
  refine w_ci (pc' := 6) (L' := [(0, .ref 21), (1, .int (0 : Int32))]) h_m308 (z_at.mk 3 rfl rfl) rfl (z_cat_le 0 rfl (by decide)) ⟨by decide, by decide⟩ rfl rfl ?_
  refine w_p h_m308 2 (pc' := 8) (L' := [(0, .ref 21), (1, .int (0 : Int32))]) (st' := [.int (0 : Int32), .ref 21]) rfl ?_
  refine w_ae H (j := 0) (pc' := 9) (L' := [(0, .ref 21), (1, .int (0 : Int32))]) h_m308 (z_at.mk 1 rfl rfl) rfl rfl rfl (by decide) rfl (by decide) rfl rfl rfl ?_
  refine w_p h_m308 3 (pc' := 14) (L' := [(0, .ref 21), (1, .int (0 : Int32))]) (st' := [.int (111 : Int32)]) rfl ?_
  refine w_ri h_m308 (z_at.mk 1 rfl rfl) rfl rfl ?_
  show z_W 995 294 15 [(0, .ref 3), (1, .int (0 : Int32))] [.int (111 : Int32)] m _
  refine w_ri h_m294 (z_at.mk 1 rfl rfl) rfl rfl ?_
  show z_W 996 102 80 [(0, .ref 120), (1, .ref 3), (2, .int (0 : Int32)), (3, .int (0 : Int32)), (4, .int (0 : Int32)), (5, .int (0 : Int32))] [.int (111 : Int32)] m _
  refine w_p h_m102 6 (pc' := 59) (L' := [(0, .ref 120), (1, .ref 3), (2, .int (0 : Int32)), (3, .int (0 : Int32)), (4, .int (0 : Int32)), (5, .int (1 : Int32))]) (st' := [.ref 3, .int (1 : Int32)]) rfl ?_
  refine w_cv (H.te (by decide) rfl).1 (pc' := 62) (L' := [(0, .ref 120), (1, .ref 3), (2, .int (0 : Int32)), (3, .int (0 : Int32)), (4, .int (0 : Int32)), (5, .int (1 : Int32))]) (rest := [.int (1 : Int32)]) (Ps := []) (L0 := [(0, .ref 3)]) h_m102 (z_at.mk 3 rfl rfl) (Or.inl ⟨rfl, rfl⟩) rfl rfl (by decide) (by decide) rfl rfl rfl rfl rfl rfl (by decide) rfl rfl rfl ?_
  refine w_p h_m293 1 (pc' := 1) (L' := [(0, .ref 3)]) (st' := [.ref 3]) rfl ?_
  refine w_gs H (pc' := 4) (L' := [(0, .ref 3)]) h_m293 (z_at.mk 3 rfl rfl) rfl (by decide) rfl rfl rfl rfl ?_
  refine w_lene H (x := (6 : Int32)) (pc' := 5) (L' := [(0, .ref 3)]) h_m293 (z_at.mk 1 rfl rfl) (by decide) rfl (by decide) rfl rfl rfl ?_
  refine w_p h_m293 1 (pc' := 6) (L' := [(0, .ref 3)]) (st' := [.ref 3, .int (6 : Int32)]) rfl ?_
  refine w_cv (H.te (by decide) rfl).1 (pc' := 9) (L' := [(0, .ref 3)]) (rest := [.int (6 : Int32)]) (Ps := []) (L0 := [(0, .ref 3)]) h_m293 (z_at.mk 3 rfl rfl) (Or.inl ⟨rfl, rfl⟩) rfl rfl (by decide) (by decide) rfl rfl rfl rfl rfl rfl (by decide) rfl rfl rfl ?_
  refine w_p h_m298 3 (pc' := 7) (L' := [(0, .ref 3)]) (st' := [.ref 3]) rfl ?_
  refine w_gs H (pc' := 10) (L' := [(0, .ref 3)]) h_m298 (z_at.mk 3 rfl rfl) rfl (by decide) rfl rfl rfl rfl ?_
  refine w_p h_m298 1 (pc' := 14) (L' := []) (st' := [.int (0 : Int32)]) rfl ?_
  refine w_ri h_m298 (z_at.mk 1 rfl rfl) rfl rfl ?_
  show z_W 995 293 9 [(0, .ref 3)] [.int (0 : Int32), .int (6 : Int32)] m _
  refine w_p h_m293 1 (pc' := 10) (L' := [(0, .ref 3)]) (st' := [.int (6 : Int32)]) rfl ?_
  refine w_ri h_m293 (z_at.mk 1 rfl rfl) rfl rfl ?_
  show z_W 996 102 62 [(0, .ref 120), (1, .ref 3), (2, .int (0 : Int32)), (3, .int (0 : Int32)), (4, .int (0 : Int32)), (5, .int (1 : Int32))] [.int (6 : Int32), .int (1 : Int32)] m _
  refine w_p h_m102 3 (pc' := 68) (L' := [(0, .ref 120), (1, .ref 3), (2, .int (0 : Int32)), (3, .int (0 : Int32)), (4, .int (0 : Int32)), (5, .int (1 : Int32))]) (st' := [.ref 3, .int (1 : Int32)]) rfl ?_
  refine w_cv (H.te (by decide) rfl).1 (pc' := 71) (L' := [(0, .ref 120), (1, .ref 3), (2, .int (0 : Int32)), (3, .int (0 : Int32)), (4, .int (0 : Int32)), (5, .int (1 : Int32))]) (rest := [.int (1 : Int32)]) (Ps := []) (L0 := [(0, .ref 3)]) h_m102 (z_at.mk 3 rfl rfl) (Or.inl ⟨rfl, rfl⟩) rfl rfl (by decide) (by decide) rfl rfl rfl rfl rfl rfl (by decide) rfl rfl rfl ?_
  refine w_p h_m293 1 (pc' := 1) (L' := [(0, .ref 3)]) (st' := [.ref 3]) rfl ?_
  refine w_gs H (pc' := 4) (L' := [(0, .ref 3)]) h_m293 (z_at.mk 3 rfl rfl) rfl (by decide) rfl rfl rfl rfl ?_
  refine w_lene H (x := (6 : Int32)) (pc' := 5) (L' := [(0, .ref 3)]) h_m293 (z_at.mk 1 rfl rfl) (by decide) rfl (by decide) rfl rfl rfl ?_
  refine w_p h_m293 1 (pc' := 6) (L' := [(0, .ref 3)]) (st' := [.ref 3, .int (6 : Int32)]) rfl ?_
  refine w_cv (H.te (by decide) rfl).1 (pc' := 9) (L' := [(0, .ref 3)]) (rest := [.int (6 : Int32)]) (Ps := []) (L0 := [(0, .ref 3)]) h_m293 (z_at.mk 3 rfl rfl) (Or.inl ⟨rfl, rfl⟩) rfl rfl (by decide) (by decide) rfl rfl rfl rfl rfl rfl (by decide) rfl rfl rfl ?_
  refine w_p h_m298 3 (pc' := 7) (L' := [(0, .ref 3)]) (st' := [.ref 3]) rfl ?_
  refine w_gs H (pc' := 10) (L' := [(0, .ref 3)]) h_m298 (z_at.mk 3 rfl rfl) rfl (by decide) rfl rfl rfl rfl ?_
  refine w_p h_m298 1 (pc' := 14) (L' := []) (st' := [.int (0 : Int32)]) rfl ?_
  refine w_ri h_m298 (z_at.mk 1 rfl rfl) rfl rfl ?_
  show z_W 995 293 9 [(0, .ref 3)] [.int (0 : Int32), .int (6 : Int32)] m _
  refine w_p h_m293 1 (pc' := 10) (L' := [(0, .ref 3)]) (st' := [.int (6 : Int32)]) rfl ?_
  refine w_ri h_m293 (z_at.mk 1 rfl rfl) rfl rfl ?_
  show z_W 996 102 71 [(0, .ref 120), (1, .ref 3), (2, .int (0 : Int32)), (3, .int (0 : Int32)), (4, .int (0 : Int32)), (5, .int (1 : Int32))] [.int (6 : Int32), .int (1 : Int32)] m _
  refine w_p h_m102 3 (pc' := 77) (L' := [(0, .ref 120), (1, .ref 3), (2, .int (0 : Int32)), (3, .int (0 : Int32)), (4, .int (0 : Int32)), (5, .int (1 : Int32))]) (st' := [.int (1 : Int32), .ref 3]) rfl ?_
  refine w_cv (H.te (by decide) rfl).1 (pc' := 80) (L' := [(0, .ref 120), (1, .ref 3), (2, .int (0 : Int32)), (3, .int (0 : Int32)), (4, .int (0 : Int32)), (5, .int (1 : Int32))]) (rest := []) (Ps := [.int (1 : Int32)]) (L0 := [(0, .ref 3), (1, .int (1 : Int32))]) h_m102 (z_at.mk 3 rfl rfl) (Or.inl ⟨rfl, rfl⟩) rfl rfl (by decide) (by decide) rfl rfl rfl rfl rfl rfl (by decide) rfl rfl rfl ?_
  refine w_p h_m294 1 (pc' := 1) (L' := [(0, .ref 3), (1, .int (1 : Int32))]) (st' := [.ref 3]) rfl ?_
  refine w_cv (H.te (by decide) rfl).1 (pc' := 4) (L' := [(0, .ref 3), (1, .int (1 : Int32))]) (rest := []) (Ps := []) (L0 := [(0, .ref 3)]) h_m294 (z_at.mk 3 rfl rfl) (Or.inl ⟨rfl, rfl⟩) rfl rfl (by decide) (by decide) rfl rfl rfl rfl rfl rfl (by decide) rfl rfl rfl ?_
  refine w_p h_m299 3 (pc' := 7) (L' := [(0, .ref 3)]) (st' := [.ref 3]) rfl ?_
  refine w_gs H (pc' := 10) (L' := [(0, .ref 3)]) h_m299 (z_at.mk 3 rfl rfl) rfl (by decide) rfl rfl rfl rfl ?_
  refine w_p h_m299 3 (pc' := 18) (L' := []) (st' := [.int (1 : Int32)]) rfl ?_
  refine w_ri h_m299 (z_at.mk 1 rfl rfl) rfl rfl ?_
  show z_W 995 294 4 [(0, .ref 3), (1, .int (1 : Int32))] [.int (1 : Int32)] m _
  refine w_p h_m294 2 (pc' := 8) (L' := [(0, .ref 3), (1, .int (1 : Int32))]) (st' := [.ref 3]) rfl ?_
  refine w_gs H (pc' := 11) (L' := [(0, .ref 3), (1, .int (1 : Int32))]) h_m294 (z_at.mk 3 rfl rfl) rfl (by decide) rfl rfl rfl rfl ?_
  refine w_p h_m294 1 (pc' := 12) (L' := [(0, .ref 3), (1, .int (1 : Int32))]) (st' := [.int (1 : Int32), .ref 21]) rfl ?_
  refine w_cs (As := [.ref 21, .int (1 : Int32)]) (rest := []) (j := 308) (L0 := [(0, .ref 21), (1, .int (1 : Int32))]) (pc' := 15) (L' := [(0, .ref 3), (1, .int (1 : Int32))]) h_m294 (z_at.mk 3 rfl rfl) (Or.inl ⟨rfl, rfl⟩) rfl rfl rfl rfl rfl ?_
  refine w_p h_m308 2 (pc' := 2) (L' := [(0, .ref 21), (1, .int (1 : Int32))]) (st' := [.ref 21, .int (1 : Int32)]) rfl ?_
  refine w_lene H (x := (6 : Int32)) (pc' := 3) (L' := [(0, .ref 21), (1, .int (1 : Int32))]) h_m308 (z_at.mk 1 rfl rfl) (by decide) rfl (by decide) rfl rfl rfl ?_
  refine w_ci (pc' := 6) (L' := [(0, .ref 21), (1, .int (1 : Int32))]) h_m308 (z_at.mk 3 rfl rfl) rfl (z_cat_le 0 rfl (by decide)) ⟨by decide, by decide⟩ rfl rfl ?_
  refine w_p h_m308 2 (pc' := 8) (L' := [(0, .ref 21), (1, .int (1 : Int32))]) (st' := [.int (1 : Int32), .ref 21]) rfl ?_
  refine w_ae H (j := 1) (pc' := 9) (L' := [(0, .ref 21), (1, .int (1 : Int32))]) h_m308 (z_at.mk 1 rfl rfl) rfl rfl rfl (by decide) rfl (by decide) rfl rfl rfl ?_
  refine w_p h_m308 3 (pc' := 14) (L' := [(0, .ref 21), (1, .int (1 : Int32))]) (st' := [.int (102 : Int32)]) rfl ?_
  refine w_ri h_m308 (z_at.mk 1 rfl rfl) rfl rfl ?_
  show z_W 995 294 15 [(0, .ref 3), (1, .int (1 : Int32))] [.int (102 : Int32)] m _
  refine w_ri h_m294 (z_at.mk 1 rfl rfl) rfl rfl ?_
  show z_W 996 102 80 [(0, .ref 120), (1, .ref 3), (2, .int (0 : Int32)), (3, .int (0 : Int32)), (4, .int (0 : Int32)), (5, .int (1 : Int32))] [.int (102 : Int32)] m _
  refine w_p h_m102 6 (pc' := 59) (L' := [(0, .ref 120), (1, .ref 3), (2, .int (0 : Int32)), (3, .int (0 : Int32)), (4, .int (0 : Int32)), (5, .int (2 : Int32))]) (st' := [.ref 3, .int (2 : Int32)]) rfl ?_
  refine w_cv (H.te (by decide) rfl).1 (pc' := 62) (L' := [(0, .ref 120), (1, .ref 3), (2, .int (0 : Int32)), (3, .int (0 : Int32)), (4, .int (0 : Int32)), (5, .int (2 : Int32))]) (rest := [.int (2 : Int32)]) (Ps := []) (L0 := [(0, .ref 3)]) h_m102 (z_at.mk 3 rfl rfl) (Or.inl ⟨rfl, rfl⟩) rfl rfl (by decide) (by decide) rfl rfl rfl rfl rfl rfl (by decide) rfl rfl rfl ?_
  refine w_p h_m293 1 (pc' := 1) (L' := [(0, .ref 3)]) (st' := [.ref 3]) rfl ?_
  refine w_gs H (pc' := 4) (L' := [(0, .ref 3)]) h_m293 (z_at.mk 3 rfl rfl) rfl (by decide) rfl rfl rfl rfl ?_
  refine w_lene H (x := (6 : Int32)) (pc' := 5) (L' := [(0, .ref 3)]) h_m293 (z_at.mk 1 rfl rfl) (by decide) rfl (by decide) rfl rfl rfl ?_
  refine w_p h_m293 1 (pc' := 6) (L' := [(0, .ref 3)]) (st' := [.ref 3, .int (6 : Int32)]) rfl ?_
  refine w_cv (H.te (by decide) rfl).1 (pc' := 9) (L' := [(0, .ref 3)]) (rest := [.int (6 : Int32)]) (Ps := []) (L0 := [(0, .ref 3)]) h_m293 (z_at.mk 3 rfl rfl) (Or.inl ⟨rfl, rfl⟩) rfl rfl (by decide) (by decide) rfl rfl rfl rfl rfl rfl (by decide) rfl rfl rfl ?_
  refine w_p h_m298 3 (pc' := 7) (L' := [(0, .ref 3)]) (st' := [.ref 3]) rfl ?_
  refine w_gs H (pc' := 10) (L' := [(0, .ref 3)]) h_m298 (z_at.mk 3 rfl rfl) rfl (by decide) rfl rfl rfl rfl ?_
  refine w_p h_m298 1 (pc' := 14) (L' := []) (st' := [.int (0 : Int32)]) rfl ?_
  refine w_ri h_m298 (z_at.mk 1 rfl rfl) rfl rfl ?_
  show z_W 995 293 9 [(0, .ref 3)] [.int (0 : Int32), .int (6 : Int32)] m _
  refine w_p h_m293 1 (pc' := 10) (L' := [(0, .ref 3)]) (st' := [.int (6 : Int32)]) rfl ?_
  refine w_ri h_m293 (z_at.mk 1 rfl rfl) rfl rfl ?_
  show z_W 996 102 62 [(0, .ref 120), (1, .ref 3), (2, .int (0 : Int32)), (3, .int (0 : Int32)), (4, .int (0 : Int32)), (5, .int (2 : Int32))] [.int (6 : Int32), .int (2 : Int32)] m _
  refine w_p h_m102 3 (pc' := 68) (L' := [(0, .ref 120), (1, .ref 3), (2, .int (0 : Int32)), (3, .int (0 : Int32)), (4, .int (0 : Int32)), (5, .int (2 : Int32))]) (st' := [.ref 3, .int (2 : Int32)]) rfl ?_
  refine w_cv (H.te (by decide) rfl).1 (pc' := 71) (L' := [(0, .ref 120), (1, .ref 3), (2, .int (0 : Int32)), (3, .int (0 : Int32)), (4, .int (0 : Int32)), (5, .int (2 : Int32))]) (rest := [.int (2 : Int32)]) (Ps := []) (L0 := [(0, .ref 3)]) h_m102 (z_at.mk 3 rfl rfl) (Or.inl ⟨rfl, rfl⟩) rfl rfl (by decide) (by decide) rfl rfl rfl rfl rfl rfl (by decide) rfl rfl rfl ?_
  refine w_p h_m293 1 (pc' := 1) (L' := [(0, .ref 3)]) (st' := [.ref 3]) rfl ?_
  refine w_gs H (pc' := 4) (L' := [(0, .ref 3)]) h_m293 (z_at.mk 3 rfl rfl) rfl (by decide) rfl rfl rfl rfl ?_
  refine w_lene H (x := (6 : Int32)) (pc' := 5) (L' := [(0, .ref 3)]) h_m293 (z_at.mk 1 rfl rfl) (by decide) rfl (by decide) rfl rfl rfl ?_
  refine w_p h_m293 1 (pc' := 6) (L' := [(0, .ref 3)]) (st' := [.ref 3, .int (6 : Int32)]) rfl ?_
  refine w_cv (H.te (by decide) rfl).1 (pc' := 9) (L' := [(0, .ref 3)]) (rest := [.int (6 : Int32)]) (Ps := []) (L0 := [(0, .ref 3)]) h_m293 (z_at.mk 3 rfl rfl) (Or.inl ⟨rfl, rfl⟩) rfl rfl (by decide) (by decide) rfl rfl rfl rfl rfl rfl (by decide) rfl rfl rfl ?_
  refine w_p h_m298 3 (pc' := 7) (L' := [(0, .ref 3)]) (st' := [.ref 3]) rfl ?_
  refine w_gs H (pc' := 10) (L' := [(0, .ref 3)]) h_m298 (z_at.mk 3 rfl rfl) rfl (by decide) rfl rfl rfl rfl ?_
  refine w_p h_m298 1 (pc' := 14) (L' := []) (st' := [.int (0 : Int32)]) rfl ?_
  refine w_ri h_m298 (z_at.mk 1 rfl rfl) rfl rfl ?_
  show z_W 995 293 9 [(0, .ref 3)] [.int (0 : Int32), .int (6 : Int32)] m _
  refine w_p h_m293 1 (pc' := 10) (L' := [(0, .ref 3)]) (st' := [.int (6 : Int32)]) rfl ?_
  refine w_ri h_m293 (z_at.mk 1 rfl rfl) rfl rfl ?_
  show z_W 996 102 71 [(0, .ref 120), (1, .ref 3), (2, .int (0 : Int32)), (3, .int (0 : Int32)), (4, .int (0 : Int32)), (5, .int (2 : Int32))] [.int (6 : Int32), .int (2 : Int32)] m _
  refine w_p h_m102 3 (pc' := 77) (L' := [(0, .ref 120), (1, .ref 3), (2, .int (0 : Int32)), (3, .int (0 : Int32)), (4, .int (0 : Int32)), (5, .int (2 : Int32))]) (st' := [.int (2 : Int32), .ref 3]) rfl ?_
  refine w_cv (H.te (by decide) rfl).1 (pc' := 80) (L' := [(0, .ref 120), (1, .ref 3), (2, .int (0 : Int32)), (3, .int (0 : Int32)), (4, .int (0 : Int32)), (5, .int (2 : Int32))]) (rest := []) (Ps := [.int (2 : Int32)]) (L0 := [(0, .ref 3), (1, .int (2 : Int32))]) h_m102 (z_at.mk 3 rfl rfl) (Or.inl ⟨rfl, rfl⟩) rfl rfl (by decide) (by decide) rfl rfl rfl rfl rfl rfl (by decide) rfl rfl rfl ?_
  refine w_p h_m294 1 (pc' := 1) (L' := [(0, .ref 3), (1, .int (2 : Int32))]) (st' := [.ref 3]) rfl ?_
  refine w_cv (H.te (by decide) rfl).1 (pc' := 4) (L' := [(0, .ref 3), (1, .int (2 : Int32))]) (rest := []) (Ps := []) (L0 := [(0, .ref 3)]) h_m294 (z_at.mk 3 rfl rfl) (Or.inl ⟨rfl, rfl⟩) rfl rfl (by decide) (by decide) rfl rfl rfl rfl rfl rfl (by decide) rfl rfl rfl ?_
  refine w_p h_m299 3 (pc' := 7) (L' := [(0, .ref 3)]) (st' := [.ref 3]) rfl ?_
  refine w_gs H (pc' := 10) (L' := [(0, .ref 3)]) h_m299 (z_at.mk 3 rfl rfl) rfl (by decide) rfl rfl rfl rfl ?_
  refine w_p h_m299 3 (pc' := 18) (L' := []) (st' := [.int (1 : Int32)]) rfl ?_
  refine w_ri h_m299 (z_at.mk 1 rfl rfl) rfl rfl ?_
  show z_W 995 294 4 [(0, .ref 3), (1, .int (2 : Int32))] [.int (1 : Int32)] m _
  refine w_p h_m294 2 (pc' := 8) (L' := [(0, .ref 3), (1, .int (2 : Int32))]) (st' := [.ref 3]) rfl ?_
  refine w_gs H (pc' := 11) (L' := [(0, .ref 3), (1, .int (2 : Int32))]) h_m294 (z_at.mk 3 rfl rfl) rfl (by decide) rfl rfl rfl rfl ?_
  refine w_p h_m294 1 (pc' := 12) (L' := [(0, .ref 3), (1, .int (2 : Int32))]) (st' := [.int (2 : Int32), .ref 21]) rfl ?_
  refine w_cs (As := [.ref 21, .int (2 : Int32)]) (rest := []) (j := 308) (L0 := [(0, .ref 21), (1, .int (2 : Int32))]) (pc' := 15) (L' := [(0, .ref 3), (1, .int (2 : Int32))]) h_m294 (z_at.mk 3 rfl rfl) (Or.inl ⟨rfl, rfl⟩) rfl rfl rfl rfl rfl ?_
  refine w_p h_m308 2 (pc' := 2) (L' := [(0, .ref 21), (1, .int (2 : Int32))]) (st' := [.ref 21, .int (2 : Int32)]) rfl ?_
  refine w_lene H (x := (6 : Int32)) (pc' := 3) (L' := [(0, .ref 21), (1, .int (2 : Int32))]) h_m308 (z_at.mk 1 rfl rfl) (by decide) rfl (by decide) rfl rfl rfl ?_
  refine w_ci (pc' := 6) (L' := [(0, .ref 21), (1, .int (2 : Int32))]) h_m308 (z_at.mk 3 rfl rfl) rfl (z_cat_le 0 rfl (by decide)) ⟨by decide, by decide⟩ rfl rfl ?_
  refine w_p h_m308 2 (pc' := 8) (L' := [(0, .ref 21), (1, .int (2 : Int32))]) (st' := [.int (2 : Int32), .ref 21]) rfl ?_
  refine w_ae H (j := 2) (pc' := 9) (L' := [(0, .ref 21), (1, .int (2 : Int32))]) h_m308 (z_at.mk 1 rfl rfl) rfl rfl rfl (by decide) rfl (by decide) rfl rfl rfl ?_
  refine w_p h_m308 3 (pc' := 14) (L' := [(0, .ref 21), (1, .int (2 : Int32))]) (st' := [.int (102 : Int32)]) rfl ?_
  refine w_ri h_m308 (z_at.mk 1 rfl rfl) rfl rfl ?_
  show z_W 995 294 15 [(0, .ref 3), (1, .int (2 : Int32))] [.int (102 : Int32)] m _
  refine w_ri h_m294 (z_at.mk 1 rfl rfl) rfl rfl ?_
  show z_W 996 102 80 [(0, .ref 120), (1, .ref 3), (2, .int (0 : Int32)), (3, .int (0 : Int32)), (4, .int (0 : Int32)), (5, .int (2 : Int32))] [.int (102 : Int32)] m _
  refine w_p h_m102 6 (pc' := 59) (L' := [(0, .ref 120), (1, .ref 3), (2, .int (0 : Int32)), (3, .int (0 : Int32)), (4, .int (0 : Int32)), (5, .int (3 : Int32))]) (st' := [.ref 3, .int (3 : Int32)]) rfl ?_
  refine w_cv (H.te (by decide) rfl).1 (pc' := 62) (L' := [(0, .ref 120), (1, .ref 3), (2, .int (0 : Int32)), (3, .int (0 : Int32)), (4, .int (0 : Int32)), (5, .int (3 : Int32))]) (rest := [.int (3 : Int32)]) (Ps := []) (L0 := [(0, .ref 3)]) h_m102 (z_at.mk 3 rfl rfl) (Or.inl ⟨rfl, rfl⟩) rfl rfl (by decide) (by decide) rfl rfl rfl rfl rfl rfl (by decide) rfl rfl rfl ?_
  refine w_p h_m293 1 (pc' := 1) (L' := [(0, .ref 3)]) (st' := [.ref 3]) rfl ?_
  refine w_gs H (pc' := 4) (L' := [(0, .ref 3)]) h_m293 (z_at.mk 3 rfl rfl) rfl (by decide) rfl rfl rfl rfl ?_
  refine w_lene H (x := (6 : Int32)) (pc' := 5) (L' := [(0, .ref 3)]) h_m293 (z_at.mk 1 rfl rfl) (by decide) rfl (by decide) rfl rfl rfl ?_
  refine w_p h_m293 1 (pc' := 6) (L' := [(0, .ref 3)]) (st' := [.ref 3, .int (6 : Int32)]) rfl ?_
  refine w_cv (H.te (by decide) rfl).1 (pc' := 9) (L' := [(0, .ref 3)]) (rest := [.int (6 : Int32)]) (Ps := []) (L0 := [(0, .ref 3)]) h_m293 (z_at.mk 3 rfl rfl) (Or.inl ⟨rfl, rfl⟩) rfl rfl (by decide) (by decide) rfl rfl rfl rfl rfl rfl (by decide) rfl rfl rfl ?_
  refine w_p h_m298 3 (pc' := 7) (L' := [(0, .ref 3)]) (st' := [.ref 3]) rfl ?_
  refine w_gs H (pc' := 10) (L' := [(0, .ref 3)]) h_m298 (z_at.mk 3 rfl rfl) rfl (by decide) rfl rfl rfl rfl ?_
  refine w_p h_m298 1 (pc' := 14) (L' := []) (st' := [.int (0 : Int32)]) rfl ?_
  refine w_ri h_m298 (z_at.mk 1 rfl rfl) rfl rfl ?_
  show z_W 995 293 9 [(0, .ref 3)] [.int (0 : Int32), .int (6 : Int32)] m _
  refine w_p h_m293 1 (pc' := 10) (L' := [(0, .ref 3)]) (st' := [.int (6 : Int32)]) rfl ?_
  refine w_ri h_m293 (z_at.mk 1 rfl rfl) rfl rfl ?_
  show z_W 996 102 62 [(0, .ref 120), (1, .ref 3), (2, .int (0 : Int32)), (3, .int (0 : Int32)), (4, .int (0 : Int32)), (5, .int (3 : Int32))] [.int (6 : Int32), .int (3 : Int32)] m _
  refine w_p h_m102 3 (pc' := 68) (L' := [(0, .ref 120), (1, .ref 3), (2, .int (0 : Int32)), (3, .int (0 : Int32)), (4, .int (0 : Int32)), (5, .int (3 : Int32))]) (st' := [.ref 3, .int (3 : Int32)]) rfl ?_
  refine w_cv (H.te (by decide) rfl).1 (pc' := 71) (L' := [(0, .ref 120), (1, .ref 3), (2, .int (0 : Int32)), (3, .int (0 : Int32)), (4, .int (0 : Int32)), (5, .int (3 : Int32))]) (rest := [.int (3 : Int32)]) (Ps := []) (L0 := [(0, .ref 3)]) h_m102 (z_at.mk 3 rfl rfl) (Or.inl ⟨rfl, rfl⟩) rfl rfl (by decide) (by decide) rfl rfl rfl rfl rfl rfl (by decide) rfl rfl rfl ?_
  refine w_p h_m293 1 (pc' := 1) (L' := [(0, .ref 3)]) (st' := [.ref 3]) rfl ?_
  refine w_gs H (pc' := 4) (L' := [(0, .ref 3)]) h_m293 (z_at.mk 3 rfl rfl) rfl (by decide) rfl rfl rfl rfl ?_
  refine w_lene H (x := (6 : Int32)) (pc' := 5) (L' := [(0, .ref 3)]) h_m293 (z_at.mk 1 rfl rfl) (by decide) rfl (by decide) rfl rfl rfl ?_
  refine w_p h_m293 1 (pc' := 6) (L' := [(0, .ref 3)]) (st' := [.ref 3, .int (6 : Int32)]) rfl ?_
  refine w_cv (H.te (by decide) rfl).1 (pc' := 9) (L' := [(0, .ref 3)]) (rest := [.int (6 : Int32)]) (Ps := []) (L0 := [(0, .ref 3)]) h_m293 (z_at.mk 3 rfl rfl) (Or.inl ⟨rfl, rfl⟩) rfl rfl (by decide) (by decide) rfl rfl rfl rfl rfl rfl (by decide) rfl rfl rfl ?_
  refine w_p h_m298 3 (pc' := 7) (L' := [(0, .ref 3)]) (st' := [.ref 3]) rfl ?_
  refine w_gs H (pc' := 10) (L' := [(0, .ref 3)]) h_m298 (z_at.mk 3 rfl rfl) rfl (by decide) rfl rfl rfl rfl ?_
  refine w_p h_m298 1 (pc' := 14) (L' := []) (st' := [.int (0 : Int32)]) rfl ?_
  refine w_ri h_m298 (z_at.mk 1 rfl rfl) rfl rfl ?_
  show z_W 995 293 9 [(0, .ref 3)] [.int (0 : Int32), .int (6 : Int32)] m _
  refine w_p h_m293 1 (pc' := 10) (L' := [(0, .ref 3)]) (st' := [.int (6 : Int32)]) rfl ?_
  refine w_ri h_m293 (z_at.mk 1 rfl rfl) rfl rfl ?_
  show z_W 996 102 71 [(0, .ref 120), (1, .ref 3), (2, .int (0 : Int32)), (3, .int (0 : Int32)), (4, .int (0 : Int32)), (5, .int (3 : Int32))] [.int (6 : Int32), .int (3 : Int32)] m _
  refine w_p h_m102 3 (pc' := 77) (L' := [(0, .ref 120), (1, .ref 3), (2, .int (0 : Int32)), (3, .int (0 : Int32)), (4, .int (0 : Int32)), (5, .int (3 : Int32))]) (st' := [.int (3 : Int32), .ref 3]) rfl ?_
  refine w_cv (H.te (by decide) rfl).1 (pc' := 80) (L' := [(0, .ref 120), (1, .ref 3), (2, .int (0 : Int32)), (3, .int (0 : Int32)), (4, .int (0 : Int32)), (5, .int (3 : Int32))]) (rest := []) (Ps := [.int (3 : Int32)]) (L0 := [(0, .ref 3), (1, .int (3 : Int32))]) h_m102 (z_at.mk 3 rfl rfl) (Or.inl ⟨rfl, rfl⟩) rfl rfl (by decide) (by decide) rfl rfl rfl rfl rfl rfl (by decide) rfl rfl rfl ?_
  refine w_p h_m294 1 (pc' := 1) (L' := [(0, .ref 3), (1, .int (3 : Int32))]) (st' := [.ref 3]) rfl ?_
  refine w_cv (H.te (by decide) rfl).1 (pc' := 4) (L' := [(0, .ref 3), (1, .int (3 : Int32))]) (rest := []) (Ps := []) (L0 := [(0, .ref 3)]) h_m294 (z_at.mk 3 rfl rfl) (Or.inl ⟨rfl, rfl⟩) rfl rfl (by decide) (by decide) rfl rfl rfl rfl rfl rfl (by decide) rfl rfl rfl ?_
  refine w_p h_m299 3 (pc' := 7) (L' := [(0, .ref 3)]) (st' := [.ref 3]) rfl ?_
  refine w_gs H (pc' := 10) (L' := [(0, .ref 3)]) h_m299 (z_at.mk 3 rfl rfl) rfl (by decide) rfl rfl rfl rfl ?_
  refine w_p h_m299 3 (pc' := 18) (L' := []) (st' := [.int (1 : Int32)]) rfl ?_
  refine w_ri h_m299 (z_at.mk 1 rfl rfl) rfl rfl ?_
  show z_W 995 294 4 [(0, .ref 3), (1, .int (3 : Int32))] [.int (1 : Int32)] m _
  refine w_p h_m294 2 (pc' := 8) (L' := [(0, .ref 3), (1, .int (3 : Int32))]) (st' := [.ref 3]) rfl ?_
  refine w_gs H (pc' := 11) (L' := [(0, .ref 3), (1, .int (3 : Int32))]) h_m294 (z_at.mk 3 rfl rfl) rfl (by decide) rfl rfl rfl rfl ?_
  refine w_p h_m294 1 (pc' := 12) (L' := [(0, .ref 3), (1, .int (3 : Int32))]) (st' := [.int (3 : Int32), .ref 21]) rfl ?_
  refine w_cs (As := [.ref 21, .int (3 : Int32)]) (rest := []) (j := 308) (L0 := [(0, .ref 21), (1, .int (3 : Int32))]) (pc' := 15) (L' := [(0, .ref 3), (1, .int (3 : Int32))]) h_m294 (z_at.mk 3 rfl rfl) (Or.inl ⟨rfl, rfl⟩) rfl rfl rfl rfl rfl ?_
  refine w_p h_m308 2 (pc' := 2) (L' := [(0, .ref 21), (1, .int (3 : Int32))]) (st' := [.ref 21, .int (3 : Int32)]) rfl ?_
  refine w_lene H (x := (6 : Int32)) (pc' := 3) (L' := [(0, .ref 21), (1, .int (3 : Int32))]) h_m308 (z_at.mk 1 rfl rfl) (by decide) rfl (by decide) rfl rfl rfl ?_
  refine w_ci (pc' := 6) (L' := [(0, .ref 21), (1, .int (3 : Int32))]) h_m308 (z_at.mk 3 rfl rfl) rfl (z_cat_le 0 rfl (by decide)) ⟨by decide, by decide⟩ rfl rfl ?_
  refine w_p h_m308 2 (pc' := 8) (L' := [(0, .ref 21), (1, .int (3 : Int32))]) (st' := [.int (3 : Int32), .ref 21]) rfl ?_
  refine w_ae H (j := 3) (pc' := 9) (L' := [(0, .ref 21), (1, .int (3 : Int32))]) h_m308 (z_at.mk 1 rfl rfl) rfl rfl rfl (by decide) rfl (by decide) rfl rfl rfl ?_
  refine w_p h_m308 3 (pc' := 14) (L' := [(0, .ref 21), (1, .int (3 : Int32))]) (st' := [.int (32 : Int32)]) rfl ?_
  refine w_ri h_m308 (z_at.mk 1 rfl rfl) rfl rfl ?_
  show z_W 995 294 15 [(0, .ref 3), (1, .int (3 : Int32))] [.int (32 : Int32)] m _
  refine w_ri h_m294 (z_at.mk 1 rfl rfl) rfl rfl ?_
  show z_W 996 102 80 [(0, .ref 120), (1, .ref 3), (2, .int (0 : Int32)), (3, .int (0 : Int32)), (4, .int (0 : Int32)), (5, .int (3 : Int32))] [.int (32 : Int32)] m _
  refine w_p h_m102 7 (pc' := 92) (L' := [(0, .ref 120), (1, .ref 3), (2, .int (0 : Int32)), (3, .int (0 : Int32)), (4, .int (0 : Int32)), (5, .int (3 : Int32))]) (st' := [.int (0 : Int32), .int (3 : Int32), .int (0 : Int32), .ref 3, .ref 120]) rfl ?_
  refine w_cv (H.t rfl) (pc' := 95) (L' := [(0, .ref 120), (1, .ref 3), (2, .int (0 : Int32)), (3, .int (0 : Int32)), (4, .int (0 : Int32)), (5, .int (3 : Int32))]) (rest := []) (Ps := [.ref 3, .int (0 : Int32), .int (3 : Int32), .int (0 : Int32)]) (L0 := [(0, .ref 120), (1, .ref 3), (2, .int (0 : Int32)), (3, .int (3 : Int32)), (4, .int (0 : Int32))]) h_m102 (z_at.mk 3 rfl rfl) (Or.inl ⟨rfl, rfl⟩) rfl rfl (by decide) (by decide) rfl rfl rfl rfl rfl rfl (by decide) rfl rfl rfl ?_
  refine w_p h_m103 1 (pc' := 1) (L' := [(0, .ref 120), (1, .ref 3), (2, .int (0 : Int32)), (3, .int (3 : Int32)), (4, .int (0 : Int32))]) (st' := [.ref 120]) rfl ?_
  refine w_cv (H.t rfl) (pc' := 4) (L' := [(0, .ref 120), (1, .ref 3), (2, .int (0 : Int32)), (3, .int (3 : Int32)), (4, .int (0 : Int32))]) (rest := []) (Ps := []) (L0 := [(0, .ref 120)]) h_m103 (z_at.mk 3 rfl rfl) (Or.inl ⟨rfl, rfl⟩) rfl rfl (by decide) (by decide) rfl rfl rfl rfl rfl rfl (by decide) rfl rfl rfl ?_
  refine w_p h_m93 1 (pc' := 1) (L' := [(0, .ref 120)]) (st' := [.ref 120]) rfl ?_
  refine w_gf H (pc' := 4) (L' := [(0, .ref 120)]) h_m93 (z_at.mk 3 rfl rfl) rfl (u := .int (0 : Int32)) rfl rfl rfl ?_
  refine w_p h_m93 3 (pc' := 13) (L' := []) (st' := [.int (0 : Int32)]) rfl ?_
  refine w_ri h_m93 (z_at.mk 1 rfl rfl) rfl rfl ?_
  show z_W 995 103 4 [(0, .ref 120), (1, .ref 3), (2, .int (0 : Int32)), (3, .int (3 : Int32)), (4, .int (0 : Int32))] [.int (0 : Int32)] m _
  refine w_p h_m103 2 (pc' := 36) (L' := []) (st' := [.int (0 : Int32)]) rfl ?_
  refine w_ri h_m103 (z_at.mk 1 rfl rfl) rfl rfl ?_
  show z_W 996 102 95 [(0, .ref 120), (1, .ref 3), (2, .int (0 : Int32)), (3, .int (0 : Int32)), (4, .int (0 : Int32)), (5, .int (3 : Int32))] [.int (0 : Int32)] m _
  refine w_p h_m102 10 (pc' := 59) (L' := [(0, .ref 120), (1, .ref 3), (2, .int (0 : Int32)), (3, .int (1 : Int32)), (4, .int (4 : Int32)), (5, .int (4 : Int32))]) (st' := [.ref 3, .int (4 : Int32)]) rfl ?_
  refine w_cv (H.te (by decide) rfl).1 (pc' := 62) (L' := [(0, .ref 120), (1, .ref 3), (2, .int (0 : Int32)), (3, .int (1 : Int32)), (4, .int (4 : Int32)), (5, .int (4 : Int32))]) (rest := [.int (4 : Int32)]) (Ps := []) (L0 := [(0, .ref 3)]) h_m102 (z_at.mk 3 rfl rfl) (Or.inl ⟨rfl, rfl⟩) rfl rfl (by decide) (by decide) rfl rfl rfl rfl rfl rfl (by decide) rfl rfl rfl ?_
  refine w_p h_m293 1 (pc' := 1) (L' := [(0, .ref 3)]) (st' := [.ref 3]) rfl ?_
  refine w_gs H (pc' := 4) (L' := [(0, .ref 3)]) h_m293 (z_at.mk 3 rfl rfl) rfl (by decide) rfl rfl rfl rfl ?_
  refine w_lene H (x := (6 : Int32)) (pc' := 5) (L' := [(0, .ref 3)]) h_m293 (z_at.mk 1 rfl rfl) (by decide) rfl (by decide) rfl rfl rfl ?_
  refine w_p h_m293 1 (pc' := 6) (L' := [(0, .ref 3)]) (st' := [.ref 3, .int (6 : Int32)]) rfl ?_
  refine w_cv (H.te (by decide) rfl).1 (pc' := 9) (L' := [(0, .ref 3)]) (rest := [.int (6 : Int32)]) (Ps := []) (L0 := [(0, .ref 3)]) h_m293 (z_at.mk 3 rfl rfl) (Or.inl ⟨rfl, rfl⟩) rfl rfl (by decide) (by decide) rfl rfl rfl rfl rfl rfl (by decide) rfl rfl rfl ?_
  refine w_p h_m298 3 (pc' := 7) (L' := [(0, .ref 3)]) (st' := [.ref 3]) rfl ?_
  refine w_gs H (pc' := 10) (L' := [(0, .ref 3)]) h_m298 (z_at.mk 3 rfl rfl) rfl (by decide) rfl rfl rfl rfl ?_
  refine w_p h_m298 1 (pc' := 14) (L' := []) (st' := [.int (0 : Int32)]) rfl ?_
  refine w_ri h_m298 (z_at.mk 1 rfl rfl) rfl rfl ?_
  show z_W 995 293 9 [(0, .ref 3)] [.int (0 : Int32), .int (6 : Int32)] m _
  refine w_p h_m293 1 (pc' := 10) (L' := [(0, .ref 3)]) (st' := [.int (6 : Int32)]) rfl ?_
  refine w_ri h_m293 (z_at.mk 1 rfl rfl) rfl rfl ?_
  show z_W 996 102 62 [(0, .ref 120), (1, .ref 3), (2, .int (0 : Int32)), (3, .int (1 : Int32)), (4, .int (4 : Int32)), (5, .int (4 : Int32))] [.int (6 : Int32), .int (4 : Int32)] m _
  refine w_p h_m102 3 (pc' := 68) (L' := [(0, .ref 120), (1, .ref 3), (2, .int (0 : Int32)), (3, .int (1 : Int32)), (4, .int (4 : Int32)), (5, .int (4 : Int32))]) (st' := [.ref 3, .int (4 : Int32)]) rfl ?_
  refine w_cv (H.te (by decide) rfl).1 (pc' := 71) (L' := [(0, .ref 120), (1, .ref 3), (2, .int (0 : Int32)), (3, .int (1 : Int32)), (4, .int (4 : Int32)), (5, .int (4 : Int32))]) (rest := [.int (4 : Int32)]) (Ps := []) (L0 := [(0, .ref 3)]) h_m102 (z_at.mk 3 rfl rfl) (Or.inl ⟨rfl, rfl⟩) rfl rfl (by decide) (by decide) rfl rfl rfl rfl rfl rfl (by decide) rfl rfl rfl ?_
  refine w_p h_m293 1 (pc' := 1) (L' := [(0, .ref 3)]) (st' := [.ref 3]) rfl ?_
  refine w_gs H (pc' := 4) (L' := [(0, .ref 3)]) h_m293 (z_at.mk 3 rfl rfl) rfl (by decide) rfl rfl rfl rfl ?_
  refine w_lene H (x := (6 : Int32)) (pc' := 5) (L' := [(0, .ref 3)]) h_m293 (z_at.mk 1 rfl rfl) (by decide) rfl (by decide) rfl rfl rfl ?_
  refine w_p h_m293 1 (pc' := 6) (L' := [(0, .ref 3)]) (st' := [.ref 3, .int (6 : Int32)]) rfl ?_
  refine w_cv (H.te (by decide) rfl).1 (pc' := 9) (L' := [(0, .ref 3)]) (rest := [.int (6 : Int32)]) (Ps := []) (L0 := [(0, .ref 3)]) h_m293 (z_at.mk 3 rfl rfl) (Or.inl ⟨rfl, rfl⟩) rfl rfl (by decide) (by decide) rfl rfl rfl rfl rfl rfl (by decide) rfl rfl rfl ?_
  refine w_p h_m298 3 (pc' := 7) (L' := [(0, .ref 3)]) (st' := [.ref 3]) rfl ?_
  refine w_gs H (pc' := 10) (L' := [(0, .ref 3)]) h_m298 (z_at.mk 3 rfl rfl) rfl (by decide) rfl rfl rfl rfl ?_
  refine w_p h_m298 1 (pc' := 14) (L' := []) (st' := [.int (0 : Int32)]) rfl ?_
  refine w_ri h_m298 (z_at.mk 1 rfl rfl) rfl rfl ?_
  show z_W 995 293 9 [(0, .ref 3)] [.int (0 : Int32), .int (6 : Int32)] m _
  refine w_p h_m293 1 (pc' := 10) (L' := [(0, .ref 3)]) (st' := [.int (6 : Int32)]) rfl ?_
  refine w_ri h_m293 (z_at.mk 1 rfl rfl) rfl rfl ?_
  show z_W 996 102 71 [(0, .ref 120), (1, .ref 3), (2, .int (0 : Int32)), (3, .int (1 : Int32)), (4, .int (4 : Int32)), (5, .int (4 : Int32))] [.int (6 : Int32), .int (4 : Int32)] m _
  refine w_p h_m102 3 (pc' := 77) (L' := [(0, .ref 120), (1, .ref 3), (2, .int (0 : Int32)), (3, .int (1 : Int32)), (4, .int (4 : Int32)), (5, .int (4 : Int32))]) (st' := [.int (4 : Int32), .ref 3]) rfl ?_
  refine w_cv (H.te (by decide) rfl).1 (pc' := 80) (L' := [(0, .ref 120), (1, .ref 3), (2, .int (0 : Int32)), (3, .int (1 : Int32)), (4, .int (4 : Int32)), (5, .int (4 : Int32))]) (rest := []) (Ps := [.int (4 : Int32)]) (L0 := [(0, .ref 3), (1, .int (4 : Int32))]) h_m102 (z_at.mk 3 rfl rfl) (Or.inl ⟨rfl, rfl⟩) rfl rfl (by decide) (by decide) rfl rfl rfl rfl rfl rfl (by decide) rfl rfl rfl ?_
  refine w_p h_m294 1 (pc' := 1) (L' := [(0, .ref 3), (1, .int (4 : Int32))]) (st' := [.ref 3]) rfl ?_
  refine w_cv (H.te (by decide) rfl).1 (pc' := 4) (L' := [(0, .ref 3), (1, .int (4 : Int32))]) (rest := []) (Ps := []) (L0 := [(0, .ref 3)]) h_m294 (z_at.mk 3 rfl rfl) (Or.inl ⟨rfl, rfl⟩) rfl rfl (by decide) (by decide) rfl rfl rfl rfl rfl rfl (by decide) rfl rfl rfl ?_
  refine w_p h_m299 3 (pc' := 7) (L' := [(0, .ref 3)]) (st' := [.ref 3]) rfl ?_
  refine w_gs H (pc' := 10) (L' := [(0, .ref 3)]) h_m299 (z_at.mk 3 rfl rfl) rfl (by decide) rfl rfl rfl rfl ?_
  refine w_p h_m299 3 (pc' := 18) (L' := []) (st' := [.int (1 : Int32)]) rfl ?_
  refine w_ri h_m299 (z_at.mk 1 rfl rfl) rfl rfl ?_
  show z_W 995 294 4 [(0, .ref 3), (1, .int (4 : Int32))] [.int (1 : Int32)] m _
  refine w_p h_m294 2 (pc' := 8) (L' := [(0, .ref 3), (1, .int (4 : Int32))]) (st' := [.ref 3]) rfl ?_
  refine w_gs H (pc' := 11) (L' := [(0, .ref 3), (1, .int (4 : Int32))]) h_m294 (z_at.mk 3 rfl rfl) rfl (by decide) rfl rfl rfl rfl ?_
  refine w_p h_m294 1 (pc' := 12) (L' := [(0, .ref 3), (1, .int (4 : Int32))]) (st' := [.int (4 : Int32), .ref 21]) rfl ?_
  refine w_cs (As := [.ref 21, .int (4 : Int32)]) (rest := []) (j := 308) (L0 := [(0, .ref 21), (1, .int (4 : Int32))]) (pc' := 15) (L' := [(0, .ref 3), (1, .int (4 : Int32))]) h_m294 (z_at.mk 3 rfl rfl) (Or.inl ⟨rfl, rfl⟩) rfl rfl rfl rfl rfl ?_
  refine w_p h_m308 2 (pc' := 2) (L' := [(0, .ref 21), (1, .int (4 : Int32))]) (st' := [.ref 21, .int (4 : Int32)]) rfl ?_
  refine w_lene H (x := (6 : Int32)) (pc' := 3) (L' := [(0, .ref 21), (1, .int (4 : Int32))]) h_m308 (z_at.mk 1 rfl rfl) (by decide) rfl (by decide) rfl rfl rfl ?_
  refine w_ci (pc' := 6) (L' := [(0, .ref 21), (1, .int (4 : Int32))]) h_m308 (z_at.mk 3 rfl rfl) rfl (z_cat_le 0 rfl (by decide)) ⟨by decide, by decide⟩ rfl rfl ?_
  refine w_p h_m308 2 (pc' := 8) (L' := [(0, .ref 21), (1, .int (4 : Int32))]) (st' := [.int (4 : Int32), .ref 21]) rfl ?_
  refine w_ae H (j := 4) (pc' := 9) (L' := [(0, .ref 21), (1, .int (4 : Int32))]) h_m308 (z_at.mk 1 rfl rfl) rfl rfl rfl (by decide) rfl (by decide) rfl rfl rfl ?_
  refine w_p h_m308 3 (pc' := 14) (L' := [(0, .ref 21), (1, .int (4 : Int32))]) (st' := [.int (111 : Int32)]) rfl ?_
  refine w_ri h_m308 (z_at.mk 1 rfl rfl) rfl rfl ?_
  show z_W 995 294 15 [(0, .ref 3), (1, .int (4 : Int32))] [.int (111 : Int32)] m _
  refine w_ri h_m294 (z_at.mk 1 rfl rfl) rfl rfl ?_
  show z_W 996 102 80 [(0, .ref 120), (1, .ref 3), (2, .int (0 : Int32)), (3, .int (1 : Int32)), (4, .int (4 : Int32)), (5, .int (4 : Int32))] [.int (111 : Int32)] m _
  refine w_p h_m102 6 (pc' := 59) (L' := [(0, .ref 120), (1, .ref 3), (2, .int (0 : Int32)), (3, .int (1 : Int32)), (4, .int (4 : Int32)), (5, .int (5 : Int32))]) (st' := [.ref 3, .int (5 : Int32)]) rfl ?_
  refine w_cv (H.te (by decide) rfl).1 (pc' := 62) (L' := [(0, .ref 120), (1, .ref 3), (2, .int (0 : Int32)), (3, .int (1 : Int32)), (4, .int (4 : Int32)), (5, .int (5 : Int32))]) (rest := [.int (5 : Int32)]) (Ps := []) (L0 := [(0, .ref 3)]) h_m102 (z_at.mk 3 rfl rfl) (Or.inl ⟨rfl, rfl⟩) rfl rfl (by decide) (by decide) rfl rfl rfl rfl rfl rfl (by decide) rfl rfl rfl ?_
  refine w_p h_m293 1 (pc' := 1) (L' := [(0, .ref 3)]) (st' := [.ref 3]) rfl ?_
  refine w_gs H (pc' := 4) (L' := [(0, .ref 3)]) h_m293 (z_at.mk 3 rfl rfl) rfl (by decide) rfl rfl rfl rfl ?_
  refine w_lene H (x := (6 : Int32)) (pc' := 5) (L' := [(0, .ref 3)]) h_m293 (z_at.mk 1 rfl rfl) (by decide) rfl (by decide) rfl rfl rfl ?_
  refine w_p h_m293 1 (pc' := 6) (L' := [(0, .ref 3)]) (st' := [.ref 3, .int (6 : Int32)]) rfl ?_
  refine w_cv (H.te (by decide) rfl).1 (pc' := 9) (L' := [(0, .ref 3)]) (rest := [.int (6 : Int32)]) (Ps := []) (L0 := [(0, .ref 3)]) h_m293 (z_at.mk 3 rfl rfl) (Or.inl ⟨rfl, rfl⟩) rfl rfl (by decide) (by decide) rfl rfl rfl rfl rfl rfl (by decide) rfl rfl rfl ?_
  refine w_p h_m298 3 (pc' := 7) (L' := [(0, .ref 3)]) (st' := [.ref 3]) rfl ?_
  refine w_gs H (pc' := 10) (L' := [(0, .ref 3)]) h_m298 (z_at.mk 3 rfl rfl) rfl (by decide) rfl rfl rfl rfl ?_
  refine w_p h_m298 1 (pc' := 14) (L' := []) (st' := [.int (0 : Int32)]) rfl ?_
  refine w_ri h_m298 (z_at.mk 1 rfl rfl) rfl rfl ?_
  show z_W 995 293 9 [(0, .ref 3)] [.int (0 : Int32), .int (6 : Int32)] m _
  refine w_p h_m293 1 (pc' := 10) (L' := [(0, .ref 3)]) (st' := [.int (6 : Int32)]) rfl ?_
  refine w_ri h_m293 (z_at.mk 1 rfl rfl) rfl rfl ?_
  show z_W 996 102 62 [(0, .ref 120), (1, .ref 3), (2, .int (0 : Int32)), (3, .int (1 : Int32)), (4, .int (4 : Int32)), (5, .int (5 : Int32))] [.int (6 : Int32), .int (5 : Int32)] m _
  refine w_p h_m102 3 (pc' := 68) (L' := [(0, .ref 120), (1, .ref 3), (2, .int (0 : Int32)), (3, .int (1 : Int32)), (4, .int (4 : Int32)), (5, .int (5 : Int32))]) (st' := [.ref 3, .int (5 : Int32)]) rfl ?_
  refine w_cv (H.te (by decide) rfl).1 (pc' := 71) (L' := [(0, .ref 120), (1, .ref 3), (2, .int (0 : Int32)), (3, .int (1 : Int32)), (4, .int (4 : Int32)), (5, .int (5 : Int32))]) (rest := [.int (5 : Int32)]) (Ps := []) (L0 := [(0, .ref 3)]) h_m102 (z_at.mk 3 rfl rfl) (Or.inl ⟨rfl, rfl⟩) rfl rfl (by decide) (by decide) rfl rfl rfl rfl rfl rfl (by decide) rfl rfl rfl ?_
  refine w_p h_m293 1 (pc' := 1) (L' := [(0, .ref 3)]) (st' := [.ref 3]) rfl ?_
  refine w_gs H (pc' := 4) (L' := [(0, .ref 3)]) h_m293 (z_at.mk 3 rfl rfl) rfl (by decide) rfl rfl rfl rfl ?_
  refine w_lene H (x := (6 : Int32)) (pc' := 5) (L' := [(0, .ref 3)]) h_m293 (z_at.mk 1 rfl rfl) (by decide) rfl (by decide) rfl rfl rfl ?_
  refine w_p h_m293 1 (pc' := 6) (L' := [(0, .ref 3)]) (st' := [.ref 3, .int (6 : Int32)]) rfl ?_
  refine w_cv (H.te (by decide) rfl).1 (pc' := 9) (L' := [(0, .ref 3)]) (rest := [.int (6 : Int32)]) (Ps := []) (L0 := [(0, .ref 3)]) h_m293 (z_at.mk 3 rfl rfl) (Or.inl ⟨rfl, rfl⟩) rfl rfl (by decide) (by decide) rfl rfl rfl rfl rfl rfl (by decide) rfl rfl rfl ?_
  refine w_p h_m298 3 (pc' := 7) (L' := [(0, .ref 3)]) (st' := [.ref 3]) rfl ?_
  refine w_gs H (pc' := 10) (L' := [(0, .ref 3)]) h_m298 (z_at.mk 3 rfl rfl) rfl (by decide) rfl rfl rfl rfl ?_
  refine w_p h_m298 1 (pc' := 14) (L' := []) (st' := [.int (0 : Int32)]) rfl ?_
  refine w_ri h_m298 (z_at.mk 1 rfl rfl) rfl rfl ?_
  show z_W 995 293 9 [(0, .ref 3)] [.int (0 : Int32), .int (6 : Int32)] m _
  refine w_p h_m293 1 (pc' := 10) (L' := [(0, .ref 3)]) (st' := [.int (6 : Int32)]) rfl ?_
  refine w_ri h_m293 (z_at.mk 1 rfl rfl) rfl rfl ?_
  show z_W 996 102 71 [(0, .ref 120), (1, .ref 3), (2, .int (0 : Int32)), (3, .int (1 : Int32)), (4, .int (4 : Int32)), (5, .int (5 : Int32))] [.int (6 : Int32), .int (5 : Int32)] m _
  refine w_p h_m102 3 (pc' := 77) (L' := [(0, .ref 120), (1, .ref 3), (2, .int (0 : Int32)), (3, .int (1 : Int32)), (4, .int (4 : Int32)), (5, .int (5 : Int32))]) (st' := [.int (5 : Int32), .ref 3]) rfl ?_
  refine w_cv (H.te (by decide) rfl).1 (pc' := 80) (L' := [(0, .ref 120), (1, .ref 3), (2, .int (0 : Int32)), (3, .int (1 : Int32)), (4, .int (4 : Int32)), (5, .int (5 : Int32))]) (rest := []) (Ps := [.int (5 : Int32)]) (L0 := [(0, .ref 3), (1, .int (5 : Int32))]) h_m102 (z_at.mk 3 rfl rfl) (Or.inl ⟨rfl, rfl⟩) rfl rfl (by decide) (by decide) rfl rfl rfl rfl rfl rfl (by decide) rfl rfl rfl ?_
  refine w_p h_m294 1 (pc' := 1) (L' := [(0, .ref 3), (1, .int (5 : Int32))]) (st' := [.ref 3]) rfl ?_
  refine w_cv (H.te (by decide) rfl).1 (pc' := 4) (L' := [(0, .ref 3), (1, .int (5 : Int32))]) (rest := []) (Ps := []) (L0 := [(0, .ref 3)]) h_m294 (z_at.mk 3 rfl rfl) (Or.inl ⟨rfl, rfl⟩) rfl rfl (by decide) (by decide) rfl rfl rfl rfl rfl rfl (by decide) rfl rfl rfl ?_
  refine w_p h_m299 3 (pc' := 7) (L' := [(0, .ref 3)]) (st' := [.ref 3]) rfl ?_
  refine w_gs H (pc' := 10) (L' := [(0, .ref 3)]) h_m299 (z_at.mk 3 rfl rfl) rfl (by decide) rfl rfl rfl rfl ?_
  refine w_p h_m299 3 (pc' := 18) (L' := []) (st' := [.int (1 : Int32)]) rfl ?_
  refine w_ri h_m299 (z_at.mk 1 rfl rfl) rfl rfl ?_
  show z_W 995 294 4 [(0, .ref 3), (1, .int (5 : Int32))] [.int (1 : Int32)] m _
  refine w_p h_m294 2 (pc' := 8) (L' := [(0, .ref 3), (1, .int (5 : Int32))]) (st' := [.ref 3]) rfl ?_
  refine w_gs H (pc' := 11) (L' := [(0, .ref 3), (1, .int (5 : Int32))]) h_m294 (z_at.mk 3 rfl rfl) rfl (by decide) rfl rfl rfl rfl ?_
  refine w_p h_m294 1 (pc' := 12) (L' := [(0, .ref 3), (1, .int (5 : Int32))]) (st' := [.int (5 : Int32), .ref 21]) rfl ?_
  refine w_cs (As := [.ref 21, .int (5 : Int32)]) (rest := []) (j := 308) (L0 := [(0, .ref 21), (1, .int (5 : Int32))]) (pc' := 15) (L' := [(0, .ref 3), (1, .int (5 : Int32))]) h_m294 (z_at.mk 3 rfl rfl) (Or.inl ⟨rfl, rfl⟩) rfl rfl rfl rfl rfl ?_
  refine w_p h_m308 2 (pc' := 2) (L' := [(0, .ref 21), (1, .int (5 : Int32))]) (st' := [.ref 21, .int (5 : Int32)]) rfl ?_
  refine w_lene H (x := (6 : Int32)) (pc' := 3) (L' := [(0, .ref 21), (1, .int (5 : Int32))]) h_m308 (z_at.mk 1 rfl rfl) (by decide) rfl (by decide) rfl rfl rfl ?_
  refine w_ci (pc' := 6) (L' := [(0, .ref 21), (1, .int (5 : Int32))]) h_m308 (z_at.mk 3 rfl rfl) rfl (z_cat_le 0 rfl (by decide)) ⟨by decide, by decide⟩ rfl rfl ?_
  refine w_p h_m308 2 (pc' := 8) (L' := [(0, .ref 21), (1, .int (5 : Int32))]) (st' := [.int (5 : Int32), .ref 21]) rfl ?_
  refine w_ae H (j := 5) (pc' := 9) (L' := [(0, .ref 21), (1, .int (5 : Int32))]) h_m308 (z_at.mk 1 rfl rfl) rfl rfl rfl (by decide) rfl (by decide) rfl rfl rfl ?_
  refine w_p h_m308 3 (pc' := 14) (L' := [(0, .ref 21), (1, .int (5 : Int32))]) (st' := [.int (110 : Int32)]) rfl ?_
  refine w_ri h_m308 (z_at.mk 1 rfl rfl) rfl rfl ?_
  show z_W 995 294 15 [(0, .ref 3), (1, .int (5 : Int32))] [.int (110 : Int32)] m _
  refine w_ri h_m294 (z_at.mk 1 rfl rfl) rfl rfl ?_
  show z_W 996 102 80 [(0, .ref 120), (1, .ref 3), (2, .int (0 : Int32)), (3, .int (1 : Int32)), (4, .int (4 : Int32)), (5, .int (5 : Int32))] [.int (110 : Int32)] m _
  refine w_p h_m102 6 (pc' := 59) (L' := [(0, .ref 120), (1, .ref 3), (2, .int (0 : Int32)), (3, .int (1 : Int32)), (4, .int (4 : Int32)), (5, .int (6 : Int32))]) (st' := [.ref 3, .int (6 : Int32)]) rfl ?_
  refine w_cv (H.te (by decide) rfl).1 (pc' := 62) (L' := [(0, .ref 120), (1, .ref 3), (2, .int (0 : Int32)), (3, .int (1 : Int32)), (4, .int (4 : Int32)), (5, .int (6 : Int32))]) (rest := [.int (6 : Int32)]) (Ps := []) (L0 := [(0, .ref 3)]) h_m102 (z_at.mk 3 rfl rfl) (Or.inl ⟨rfl, rfl⟩) rfl rfl (by decide) (by decide) rfl rfl rfl rfl rfl rfl (by decide) rfl rfl rfl ?_
  refine w_p h_m293 1 (pc' := 1) (L' := [(0, .ref 3)]) (st' := [.ref 3]) rfl ?_
  refine w_gs H (pc' := 4) (L' := [(0, .ref 3)]) h_m293 (z_at.mk 3 rfl rfl) rfl (by decide) rfl rfl rfl rfl ?_
  refine w_lene H (x := (6 : Int32)) (pc' := 5) (L' := [(0, .ref 3)]) h_m293 (z_at.mk 1 rfl rfl) (by decide) rfl (by decide) rfl rfl rfl ?_
  refine w_p h_m293 1 (pc' := 6) (L' := [(0, .ref 3)]) (st' := [.ref 3, .int (6 : Int32)]) rfl ?_
  refine w_cv (H.te (by decide) rfl).1 (pc' := 9) (L' := [(0, .ref 3)]) (rest := [.int (6 : Int32)]) (Ps := []) (L0 := [(0, .ref 3)]) h_m293 (z_at.mk 3 rfl rfl) (Or.inl ⟨rfl, rfl⟩) rfl rfl (by decide) (by decide) rfl rfl rfl rfl rfl rfl (by decide) rfl rfl rfl ?_
  refine w_p h_m298 3 (pc' := 7) (L' := [(0, .ref 3)]) (st' := [.ref 3]) rfl ?_
  refine w_gs H (pc' := 10) (L' := [(0, .ref 3)]) h_m298 (z_at.mk 3 rfl rfl) rfl (by decide) rfl rfl rfl rfl ?_
  refine w_p h_m298 1 (pc' := 14) (L' := []) (st' := [.int (0 : Int32)]) rfl ?_
  refine w_ri h_m298 (z_at.mk 1 rfl rfl) rfl rfl ?_
  show z_W 995 293 9 [(0, .ref 3)] [.int (0 : Int32), .int (6 : Int32)] m _
  refine w_p h_m293 1 (pc' := 10) (L' := [(0, .ref 3)]) (st' := [.int (6 : Int32)]) rfl ?_
  refine w_ri h_m293 (z_at.mk 1 rfl rfl) rfl rfl ?_
  show z_W 996 102 62 [(0, .ref 120), (1, .ref 3), (2, .int (0 : Int32)), (3, .int (1 : Int32)), (4, .int (4 : Int32)), (5, .int (6 : Int32))] [.int (6 : Int32), .int (6 : Int32)] m _
  refine w_p h_m102 3 (pc' := 68) (L' := [(0, .ref 120), (1, .ref 3), (2, .int (0 : Int32)), (3, .int (1 : Int32)), (4, .int (4 : Int32)), (5, .int (6 : Int32))]) (st' := [.ref 3, .int (6 : Int32)]) rfl ?_
  refine w_cv (H.te (by decide) rfl).1 (pc' := 71) (L' := [(0, .ref 120), (1, .ref 3), (2, .int (0 : Int32)), (3, .int (1 : Int32)), (4, .int (4 : Int32)), (5, .int (6 : Int32))]) (rest := [.int (6 : Int32)]) (Ps := []) (L0 := [(0, .ref 3)]) h_m102 (z_at.mk 3 rfl rfl) (Or.inl ⟨rfl, rfl⟩) rfl rfl (by decide) (by decide) rfl rfl rfl rfl rfl rfl (by decide) rfl rfl rfl ?_
  refine w_p h_m293 1 (pc' := 1) (L' := [(0, .ref 3)]) (st' := [.ref 3]) rfl ?_
  refine w_gs H (pc' := 4) (L' := [(0, .ref 3)]) h_m293 (z_at.mk 3 rfl rfl) rfl (by decide) rfl rfl rfl rfl ?_
  refine w_lene H (x := (6 : Int32)) (pc' := 5) (L' := [(0, .ref 3)]) h_m293 (z_at.mk 1 rfl rfl) (by decide) rfl (by decide) rfl rfl rfl ?_
  refine w_p h_m293 1 (pc' := 6) (L' := [(0, .ref 3)]) (st' := [.ref 3, .int (6 : Int32)]) rfl ?_
  refine w_cv (H.te (by decide) rfl).1 (pc' := 9) (L' := [(0, .ref 3)]) (rest := [.int (6 : Int32)]) (Ps := []) (L0 := [(0, .ref 3)]) h_m293 (z_at.mk 3 rfl rfl) (Or.inl ⟨rfl, rfl⟩) rfl rfl (by decide) (by decide) rfl rfl rfl rfl rfl rfl (by decide) rfl rfl rfl ?_
  refine w_p h_m298 3 (pc' := 7) (L' := [(0, .ref 3)]) (st' := [.ref 3]) rfl ?_
  refine w_gs H (pc' := 10) (L' := [(0, .ref 3)]) h_m298 (z_at.mk 3 rfl rfl) rfl (by decide) rfl rfl rfl rfl ?_
  refine w_p h_m298 1 (pc' := 14) (L' := []) (st' := [.int (0 : Int32)]) rfl ?_
  refine w_ri h_m298 (z_at.mk 1 rfl rfl) rfl rfl ?_
  show z_W 995 293 9 [(0, .ref 3)] [.int (0 : Int32), .int (6 : Int32)] m _
  refine w_p h_m293 1 (pc' := 10) (L' := [(0, .ref 3)]) (st' := [.int (6 : Int32)]) rfl ?_
  refine w_ri h_m293 (z_at.mk 1 rfl rfl) rfl rfl ?_
  show z_W 996 102 71 [(0, .ref 120), (1, .ref 3), (2, .int (0 : Int32)), (3, .int (1 : Int32)), (4, .int (4 : Int32)), (5, .int (6 : Int32))] [.int (6 : Int32), .int (6 : Int32)] m _
  refine w_p h_m102 6 (pc' := 92) (L' := [(0, .ref 120), (1, .ref 3), (2, .int (0 : Int32)), (3, .int (1 : Int32)), (4, .int (4 : Int32)), (5, .int (6 : Int32))]) (st' := [.int (0 : Int32), .int (6 : Int32), .int (4 : Int32), .ref 3, .ref 120]) rfl ?_
  refine w_cv (H.t rfl) (pc' := 95) (L' := [(0, .ref 120), (1, .ref 3), (2, .int (0 : Int32)), (3, .int (1 : Int32)), (4, .int (4 : Int32)), (5, .int (6 : Int32))]) (rest := []) (Ps := [.ref 3, .int (4 : Int32), .int (6 : Int32), .int (0 : Int32)]) (L0 := [(0, .ref 120), (1, .ref 3), (2, .int (4 : Int32)), (3, .int (6 : Int32)), (4, .int (0 : Int32))]) h_m102 (z_at.mk 3 rfl rfl) (Or.inl ⟨rfl, rfl⟩) rfl rfl (by decide) (by decide) rfl rfl rfl rfl rfl rfl (by decide) rfl rfl rfl ?_
  refine w_p h_m103 1 (pc' := 1) (L' := [(0, .ref 120), (1, .ref 3), (2, .int (4 : Int32)), (3, .int (6 : Int32)), (4, .int (0 : Int32))]) (st' := [.ref 120]) rfl ?_
  refine w_cv (H.t rfl) (pc' := 4) (L' := [(0, .ref 120), (1, .ref 3), (2, .int (4 : Int32)), (3, .int (6 : Int32)), (4, .int (0 : Int32))]) (rest := []) (Ps := []) (L0 := [(0, .ref 120)]) h_m103 (z_at.mk 3 rfl rfl) (Or.inl ⟨rfl, rfl⟩) rfl rfl (by decide) (by decide) rfl rfl rfl rfl rfl rfl (by decide) rfl rfl rfl ?_
  refine w_p h_m93 1 (pc' := 1) (L' := [(0, .ref 120)]) (st' := [.ref 120]) rfl ?_
  refine w_gf H (pc' := 4) (L' := [(0, .ref 120)]) h_m93 (z_at.mk 3 rfl rfl) rfl (u := .int (0 : Int32)) rfl rfl rfl ?_
  refine w_p h_m93 3 (pc' := 13) (L' := []) (st' := [.int (0 : Int32)]) rfl ?_
  refine w_ri h_m93 (z_at.mk 1 rfl rfl) rfl rfl ?_
  show z_W 995 103 4 [(0, .ref 120), (1, .ref 3), (2, .int (4 : Int32)), (3, .int (6 : Int32)), (4, .int (0 : Int32))] [.int (0 : Int32)] m _
  refine w_p h_m103 2 (pc' := 36) (L' := []) (st' := [.int (0 : Int32)]) rfl ?_
  refine w_ri h_m103 (z_at.mk 1 rfl rfl) rfl rfl ?_
  show z_W 996 102 95 [(0, .ref 120), (1, .ref 3), (2, .int (0 : Int32)), (3, .int (1 : Int32)), (4, .int (4 : Int32)), (5, .int (6 : Int32))] [.int (0 : Int32)] m _
  refine w_p h_m102 10 (pc' := 59) (L' := [(0, .ref 120), (1, .ref 3), (2, .int (0 : Int32)), (3, .int (2 : Int32)), (4, .int (7 : Int32)), (5, .int (7 : Int32))]) (st' := [.ref 3, .int (7 : Int32)]) rfl ?_
  refine w_cv (H.te (by decide) rfl).1 (pc' := 62) (L' := [(0, .ref 120), (1, .ref 3), (2, .int (0 : Int32)), (3, .int (2 : Int32)), (4, .int (7 : Int32)), (5, .int (7 : Int32))]) (rest := [.int (7 : Int32)]) (Ps := []) (L0 := [(0, .ref 3)]) h_m102 (z_at.mk 3 rfl rfl) (Or.inl ⟨rfl, rfl⟩) rfl rfl (by decide) (by decide) rfl rfl rfl rfl rfl rfl (by decide) rfl rfl rfl ?_
  refine w_p h_m293 1 (pc' := 1) (L' := [(0, .ref 3)]) (st' := [.ref 3]) rfl ?_
  refine w_gs H (pc' := 4) (L' := [(0, .ref 3)]) h_m293 (z_at.mk 3 rfl rfl) rfl (by decide) rfl rfl rfl rfl ?_
  refine w_lene H (x := (6 : Int32)) (pc' := 5) (L' := [(0, .ref 3)]) h_m293 (z_at.mk 1 rfl rfl) (by decide) rfl (by decide) rfl rfl rfl ?_
  refine w_p h_m293 1 (pc' := 6) (L' := [(0, .ref 3)]) (st' := [.ref 3, .int (6 : Int32)]) rfl ?_
  refine w_cv (H.te (by decide) rfl).1 (pc' := 9) (L' := [(0, .ref 3)]) (rest := [.int (6 : Int32)]) (Ps := []) (L0 := [(0, .ref 3)]) h_m293 (z_at.mk 3 rfl rfl) (Or.inl ⟨rfl, rfl⟩) rfl rfl (by decide) (by decide) rfl rfl rfl rfl rfl rfl (by decide) rfl rfl rfl ?_
  refine w_p h_m298 3 (pc' := 7) (L' := [(0, .ref 3)]) (st' := [.ref 3]) rfl ?_
  refine w_gs H (pc' := 10) (L' := [(0, .ref 3)]) h_m298 (z_at.mk 3 rfl rfl) rfl (by decide) rfl rfl rfl rfl ?_
  refine w_p h_m298 1 (pc' := 14) (L' := []) (st' := [.int (0 : Int32)]) rfl ?_
  refine w_ri h_m298 (z_at.mk 1 rfl rfl) rfl rfl ?_
  show z_W 995 293 9 [(0, .ref 3)] [.int (0 : Int32), .int (6 : Int32)] m _
  refine w_p h_m293 1 (pc' := 10) (L' := [(0, .ref 3)]) (st' := [.int (6 : Int32)]) rfl ?_
  refine w_ri h_m293 (z_at.mk 1 rfl rfl) rfl rfl ?_
  show z_W 996 102 62 [(0, .ref 120), (1, .ref 3), (2, .int (0 : Int32)), (3, .int (2 : Int32)), (4, .int (7 : Int32)), (5, .int (7 : Int32))] [.int (6 : Int32), .int (7 : Int32)] m _
  refine w_p h_m102 3 (pc' := 117) (L' := [(0, .ref 120), (1, .ref 3), (2, .int (0 : Int32)), (3, .int (2 : Int32)), (4, .int (7 : Int32)), (5, .int (7 : Int32))]) (st' := [.int (0 : Int32), .ref 120]) rfl ?_
  refine w_cv (H.t rfl) (pc' := 120) (L' := [(0, .ref 120), (1, .ref 3), (2, .int (0 : Int32)), (3, .int (2 : Int32)), (4, .int (7 : Int32)), (5, .int (7 : Int32))]) (rest := []) (Ps := [.int (0 : Int32)]) (L0 := [(0, .ref 120), (1, .int (0 : Int32))]) h_m102 (z_at.mk 3 rfl rfl) (Or.inl ⟨rfl, rfl⟩) rfl rfl (by decide) (by decide) rfl rfl rfl rfl rfl rfl (by decide) rfl rfl rfl ?_
  refine w_p h_m95 1 (pc' := 1) (L' := [(0, .ref 120), (1, .int (0 : Int32))]) (st' := [.ref 120]) rfl ?_
  refine w_gf H (pc' := 4) (L' := [(0, .ref 120), (1, .int (0 : Int32))]) h_m95 (z_at.mk 3 rfl rfl) rfl (u := .int (0 : Int32)) rfl rfl rfl ?_
  refine w_p h_m95 2 (pc' := 13) (L' := []) (st' := []) rfl ?_
  refine w_rv h_m95 (z_at.mk 1 rfl rfl) rfl ?_
  show z_W 996 102 120 [(0, .ref 120), (1, .ref 3), (2, .int (0 : Int32)), (3, .int (2 : Int32)), (4, .int (7 : Int32)), (5, .int (7 : Int32))] [] m _
  refine w_p h_m102 1 (pc' := 121) (L' := [(0, .ref 120), (1, .ref 3), (2, .int (0 : Int32)), (3, .int (2 : Int32)), (4, .int (7 : Int32)), (5, .int (7 : Int32))]) (st' := [.int (-1 : Int32)]) rfl ?_
  refine w_ri h_m102 (z_at.mk 1 rfl rfl) rfl rfl ?_
  show z_W 997 76 94 [(0, .ref 118), (1, .ref 120), (2, .int (-1 : Int32))] [.int (-1 : Int32)] m _
  refine w_ri h_m76 (z_at.mk 1 rfl rfl) rfl rfl ?_
  show z_W 998 75 39 [(4, .int (-1 : Int32)), (0, .ref 118), (1, .ref 120), (2, .int (0 : Int32)), (3, .int (1 : Int32))] [.int (-1 : Int32), .int (-1 : Int32), .ref 118] m _
  refine w_cv (H.t rfl) (pc' := 42) (L' := [(4, .int (-1 : Int32)), (0, .ref 118), (1, .ref 120), (2, .int (0 : Int32)), (3, .int (1 : Int32))]) (rest := []) (Ps := [.int (-1 : Int32), .int (-1 : Int32)]) (L0 := [(0, .ref 118), (1, .int (-1 : Int32)), (2, .int (-1 : Int32))]) h_m75 (z_at.mk 3 rfl rfl) (Or.inl ⟨rfl, rfl⟩) rfl rfl (by decide) (by decide) rfl rfl rfl rfl rfl rfl (by decide) rfl rfl rfl ?_
  refine w_p h_m73 2 (pc' := 17) (L' := []) (st' := []) rfl ?_
  refine w_rv h_m73 (z_at.mk 1 rfl rfl) rfl ?_
  show z_W 998 75 42 [(4, .int (-1 : Int32)), (0, .ref 118), (1, .ref 120), (2, .int (0 : Int32)), (3, .int (1 : Int32))] [] m _
  refine w_p h_m75 2 (pc' := 44) (L' := [(4, .int (-1 : Int32)), (0, .ref 118), (1, .ref 120), (2, .int (0 : Int32)), (3, .int (1 : Int32))]) (st' := [.int (1 : Int32), .ref 120]) rfl ?_
  refine w_cv (H.t rfl) (pc' := 47) (L' := [(4, .int (-1 : Int32)), (0, .ref 118), (1, .ref 120), (2, .int (0 : Int32)), (3, .int (1 : Int32))]) (rest := []) (Ps := [.int (1 : Int32)]) (L0 := [(0, .ref 120), (1, .int (1 : Int32))]) h_m75 (z_at.mk 3 rfl rfl) (Or.inl ⟨rfl, rfl⟩) rfl rfl (by decide) (by decide) rfl rfl rfl rfl rfl rfl (by decide) rfl rfl rfl ?_
  refine w_p h_m100 4 (pc' := 7) (L' := [(0, .ref 120), (1, .int (1 : Int32))]) (st' := [.int (59 : Int32), .ref 120]) rfl ?_
  refine w_cv (H.t rfl) (pc' := 10) (L' := [(0, .ref 120), (1, .int (1 : Int32))]) (rest := []) (Ps := [.int (59 : Int32)]) (L0 := [(0, .ref 120), (1, .int (59 : Int32))]) h_m100 (z_at.mk 3 rfl rfl) (Or.inl ⟨rfl, rfl⟩) rfl rfl (by decide) (by decide) rfl rfl rfl rfl rfl rfl (by decide) rfl rfl rfl ?_
  refine w_p h_m97 1 (pc' := 1) (L' := [(0, .ref 120), (1, .int (59 : Int32))]) (st' := [.ref 120]) rfl ?_
  refine w_cv (H.t rfl) (pc' := 4) (L' := [(0, .ref 120), (1, .int (59 : Int32))]) (rest := []) (Ps := []) (L0 := [(0, .ref 120)]) h_m97 (z_at.mk 3 rfl rfl) (Or.inl ⟨rfl, rfl⟩) rfl rfl (by decide) (by decide) rfl rfl rfl rfl rfl rfl (by decide) rfl rfl rfl ?_
  refine w_p h_m96 1 (pc' := 1) (L' := [(0, .ref 120)]) (st' := [.ref 120]) rfl ?_
  refine w_gf H (pc' := 4) (L' := [(0, .ref 120)]) h_m96 (z_at.mk 3 rfl rfl) rfl (u := .int (0 : Int32)) rfl rfl rfl ?_
  refine w_p h_m96 3 (pc' := 49) (L' := []) (st' := [.int (0 : Int32)]) rfl ?_
  refine w_ri h_m96 (z_at.mk 1 rfl rfl) rfl rfl ?_
  show z_W 996 97 4 [(0, .ref 120), (1, .int (59 : Int32))] [.int (0 : Int32)] m _
  refine w_p h_m97 3 (pc' := 9) (L' := [(0, .ref 120), (1, .int (59 : Int32))]) (st' := [.int (0 : Int32)]) rfl ?_
  refine w_ri h_m97 (z_at.mk 1 rfl rfl) rfl rfl ?_
  show z_W 997 100 10 [(0, .ref 120), (1, .int (1 : Int32))] [.int (0 : Int32)] m _
  refine w_p h_m100 2 (pc' := 16) (L' := [(0, .ref 120)]) (st' := [.ref 120]) rfl ?_
  refine w_cv (H.t rfl) (pc' := 19) (L' := [(0, .ref 120)]) (rest := []) (Ps := []) (L0 := [(0, .ref 120)]) h_m100 (z_at.mk 3 rfl rfl) (Or.inl ⟨rfl, rfl⟩) rfl rfl (by decide) (by decide) rfl rfl rfl rfl rfl rfl (by decide) rfl rfl rfl ?_
  refine w_p h_m96 1 (pc' := 1) (L' := [(0, .ref 120)]) (st' := [.ref 120]) rfl ?_
  refine w_gf H (pc' := 4) (L' := [(0, .ref 120)]) h_m96 (z_at.mk 3 rfl rfl) rfl (u := .int (0 : Int32)) rfl rfl rfl ?_
  refine w_p h_m96 3 (pc' := 49) (L' := []) (st' := [.int (0 : Int32)]) rfl ?_
  refine w_ri h_m96 (z_at.mk 1 rfl rfl) rfl rfl ?_
  show z_W 997 100 19 [(0, .ref 120)] [.int (0 : Int32)] m _
  refine w_p h_m100 2 (pc' := 31) (L' := []) (st' := [.int (0 : Int32)]) rfl ?_
  refine w_ri h_m100 (z_at.mk 1 rfl rfl) rfl rfl ?_
  show z_W 998 75 47 [(4, .int (-1 : Int32)), (0, .ref 118), (1, .ref 120), (2, .int (0 : Int32)), (3, .int (1 : Int32))] [.int (0 : Int32)] m _
  refine w_p h_m75 6 (pc' := 55) (L' := [(2, .int (1 : Int32))]) (st' := [.int (1 : Int32)]) rfl ?_
  refine w_ri h_m75 (z_at.mk 1 rfl rfl) rfl rfl ?_
  show z_W 999 122 35 [(0, .ref 39)] [.int (1 : Int32)] m _
  refine w_p h_m122 2 (pc' := 37) (L' := [(1, .int (1 : Int32)), (0, .ref 39)]) (st' := [.ref 39]) rfl ?_
  refine w_gf H (pc' := 40) (L' := [(1, .int (1 : Int32)), (0, .ref 39)]) h_m122 (z_at.mk 3 rfl rfl) rfl (u := .ref 120) rfl rfl rfl ?_
  refine w_cv (H.t rfl) (pc' := 43) (L' := [(1, .int (1 : Int32)), (0, .ref 39)]) (rest := []) (Ps := []) (L0 := [(0, .ref 120)]) h_m122 (z_at.mk 3 rfl rfl) (Or.inl ⟨rfl, rfl⟩) rfl rfl (by decide) (by decide) rfl rfl rfl rfl rfl rfl (by decide) rfl rfl rfl ?_
  refine w_p h_m93 1 (pc' := 1) (L' := [(0, .ref 120)]) (st' := [.ref 120]) rfl ?_
  refine w_gf H (pc' := 4) (L' := [(0, .ref 120)]) h_m93 (z_at.mk 3 rfl rfl) rfl (u := .int (0 : Int32)) rfl rfl rfl ?_
  refine w_p h_m93 3 (pc' := 13) (L' := []) (st' := [.int (0 : Int32)]) rfl ?_
  refine w_ri h_m93 (z_at.mk 1 rfl rfl) rfl rfl ?_
  show z_W 999 122 43 [(1, .int (1 : Int32)), (0, .ref 39)] [.int (0 : Int32)] m _
  refine w_p h_m122 2 (pc' := 74) (L' := [(0, .ref 39), (1, .int (1 : Int32))]) (st' := [.ref 39]) rfl ?_
  refine w_gf H (pc' := 77) (L' := [(0, .ref 39), (1, .int (1 : Int32))]) h_m122 (z_at.mk 3 rfl rfl) rfl (u := .ref 120) rfl rfl rfl ?_
  refine w_p h_m122 1 (pc' := 78) (L' := [(0, .ref 39), (1, .int (1 : Int32))]) (st' := [.int (1 : Int32), .ref 120]) rfl ?_
  refine w_cv (H.t rfl) (pc' := 81) (L' := [(0, .ref 39), (1, .int (1 : Int32))]) (rest := []) (Ps := [.int (1 : Int32)]) (L0 := [(0, .ref 120), (1, .int (1 : Int32))]) h_m122 (z_at.mk 3 rfl rfl) (Or.inl ⟨rfl, rfl⟩) rfl rfl (by decide) (by decide) rfl rfl rfl rfl rfl rfl (by decide) rfl rfl rfl ?_
  refine w_p h_m94 2 (pc' := 2) (L' := [(0, .ref 120), (1, .int (1 : Int32))]) (st' := [.int (0 : Int32), .ref 120]) rfl ?_
  refine w_pf H (19, 4, [(1, .int (0 : Int32)), (3, .int (0 : Int32)), (2, .int (0 : Int32)), (0, .ref 121)], none) (pc' := 5) (L' := [(0, .ref 120), (1, .int (1 : Int32))]) h_m94 (z_at.mk 3 rfl rfl) rfl (by decide) rfl (Or.inl rfl) rfl rfl rfl ?_
  clear H m; intro m H
  refine w_p h_m94 1 (pc' := 6) (L' := [(0, .ref 120), (1, .int (1 : Int32))]) (st' := [.ref 120]) rfl ?_
  refine w_cv (H.t rfl) (pc' := 9) (L' := [(0, .ref 120), (1, .int (1 : Int32))]) (rest := []) (Ps := []) (L0 := [(0, .ref 120)]) h_m94 (z_at.mk 3 rfl rfl) (Or.inl ⟨rfl, rfl⟩) rfl rfl (by decide) (by decide) rfl rfl rfl rfl rfl rfl (by decide) rfl rfl rfl ?_
  refine w_p h_m93 1 (pc' := 1) (L' := [(0, .ref 120)]) (st' := [.ref 120]) rfl ?_
  refine w_gf H (pc' := 4) (L' := [(0, .ref 120)]) h_m93 (z_at.mk 3 rfl rfl) rfl (u := .int (0 : Int32)) rfl rfl rfl ?_
  refine w_p h_m93 3 (pc' := 13) (L' := []) (st' := [.int (0 : Int32)]) rfl ?_
  refine w_ri h_m93 (z_at.mk 1 rfl rfl) rfl rfl ?_
  show z_W 998 94 9 [(0, .ref 120), (1, .int (1 : Int32))] [.int (0 : Int32)] m _
  refine w_p h_m94 3 (pc' := 19) (L' := [(0, .ref 120), (1, .int (1 : Int32))]) (st' := [.ref 120, .int (-100 : Int32)]) rfl ?_
  refine w_gf H (pc' := 22) (L' := [(0, .ref 120), (1, .int (1 : Int32))]) h_m94 (z_at.mk 3 rfl rfl) rfl (u := .int (0 : Int32)) rfl rfl rfl ?_
  refine w_p h_m94 1 (pc' := 23) (L' := []) (st' := [.int (-100 : Int32)]) rfl ?_
  refine w_ri h_m94 (z_at.mk 1 rfl rfl) rfl rfl ?_
  show z_W 999 122 81 [(0, .ref 39), (1, .int (1 : Int32))] [.int (-100 : Int32)] m _
  refine w_ri h_m122 (z_at.mk 1 rfl rfl) rfl rfl ?_
  show z_W 1000 1000 399 [(0, .ref 0), (1, .ref 39), (2, .ref 143), (3, .int (0 : Int32))] [.int (-100 : Int32)] m _
  refine w_p h_m1000 1 (pc' := 400) (L' := [(0, .ref 0), (1, .ref 39), (2, .ref 143), (3, .int (0 : Int32))]) (st' := [.ref 143, .int (-100 : Int32)]) rfl ?_
  refine w_cv (H.t rfl) (pc' := 403) (L' := [(0, .ref 0), (1, .ref 39), (2, .ref 143), (3, .int (0 : Int32))]) (rest := [.int (-100 : Int32)]) (Ps := []) (L0 := [(0, .ref 143)]) h_m1000 (z_at.mk 3 rfl rfl) (Or.inl ⟨rfl, rfl⟩) rfl rfl (by decide) (by decide) rfl rfl rfl rfl rfl rfl (by decide) rfl rfl rfl ?_
  refine w_p h_m220 6 (pc' := 9) (L' := [(0, .ref 143), (1, .int (0 : Int32))]) (st' := [.ref 143]) rfl ?_
  refine w_gf H (pc' := 12) (L' := [(0, .ref 143), (1, .int (0 : Int32))]) h_m220 (z_at.mk 3 rfl rfl) rfl (u := .ref 160) rfl rfl rfl ?_
  refine w_p h_m220 2 (pc' := 14) (L' := [(0, .ref 143), (1, .int (0 : Int32))]) (st' := [.ref 143, .int (0 : Int32), .ref 160]) rfl ?_
  refine w_gf H (pc' := 17) (L' := [(0, .ref 143), (1, .int (0 : Int32))]) h_m220 (z_at.mk 3 rfl rfl) rfl (u := .ref 144) rfl rfl rfl ?_
  refine w_p h_m220 3 (pc' := 21) (L' := [(0, .ref 143), (1, .int (0 : Int32))]) (st' := [.int (11 : Int32), .ref 144, .int (0 : Int32), .ref 160]) rfl ?_
  refine w_al H (t := 0) (j := 11) (pc' := 22) (L' := [(0, .ref 143), (1, .int (0 : Int32))]) h_m220 (z_at.mk 1 rfl rfl) rfl rfl rfl (u := .int (10 : Int32)) rfl rfl rfl ?_
  refine w_as H (t := 0) (j := 0) (u := .int (10 : Int32)) (0, 7, [(0, .int (10 : Int32))], some (.int (0 : Int32))) (pc' := 23) (L' := [(0, .ref 143), (1, .int (0 : Int32))]) h_m220 (z_at.mk 1 rfl rfl) rfl rfl (w_ui _ _ (by decide)) rfl rfl rfl rfl ?_
  clear H m; intro m H
  refine w_p h_m220 6 (pc' := 9) (L' := [(0, .ref 143), (1, .int (1 : Int32))]) (st' := [.ref 143]) rfl ?_
  refine w_gf H (pc' := 12) (L' := [(0, .ref 143), (1, .int (1 : Int32))]) h_m220 (z_at.mk 3 rfl rfl) rfl (u := .ref 160) rfl rfl rfl ?_
  refine w_p h_m220 2 (pc' := 14) (L' := [(0, .ref 143), (1, .int (1 : Int32))]) (st' := [.ref 143, .int (1 : Int32), .ref 160]) rfl ?_
  refine w_gf H (pc' := 17) (L' := [(0, .ref 143), (1, .int (1 : Int32))]) h_m220 (z_at.mk 3 rfl rfl) rfl (u := .ref 144) rfl rfl rfl ?_
  refine w_p h_m220 3 (pc' := 21) (L' := [(0, .ref 143), (1, .int (1 : Int32))]) (st' := [.int (12 : Int32), .ref 144, .int (1 : Int32), .ref 160]) rfl ?_
  refine w_al H (t := 0) (j := 12) (pc' := 22) (L' := [(0, .ref 143), (1, .int (1 : Int32))]) h_m220 (z_at.mk 1 rfl rfl) rfl rfl rfl (u := .int (40 : Int32)) rfl rfl rfl ?_
  refine w_as H (t := 0) (j := 1) (u := .int (40 : Int32)) (0, 7, [(1, .int (40 : Int32)), (0, .int (10 : Int32))], some (.int (0 : Int32))) (pc' := 23) (L' := [(0, .ref 143), (1, .int (1 : Int32))]) h_m220 (z_at.mk 1 rfl rfl) rfl rfl (w_ui _ _ (by decide)) rfl rfl rfl rfl ?_
  clear H m; intro m H
  refine w_p h_m220 6 (pc' := 9) (L' := [(0, .ref 143), (1, .int (2 : Int32))]) (st' := [.ref 143]) rfl ?_
  refine w_gf H (pc' := 12) (L' := [(0, .ref 143), (1, .int (2 : Int32))]) h_m220 (z_at.mk 3 rfl rfl) rfl (u := .ref 160) rfl rfl rfl ?_
  refine w_p h_m220 2 (pc' := 14) (L' := [(0, .ref 143), (1, .int (2 : Int32))]) (st' := [.ref 143, .int (2 : Int32), .ref 160]) rfl ?_
  refine w_gf H (pc' := 17) (L' := [(0, .ref 143), (1, .int (2 : Int32))]) h_m220 (z_at.mk 3 rfl rfl) rfl (u := .ref 144) rfl rfl rfl ?_
  refine w_p h_m220 3 (pc' := 21) (L' := [(0, .ref 143), (1, .int (2 : Int32))]) (st' := [.int (13 : Int32), .ref 144, .int (2 : Int32), .ref 160]) rfl ?_
  refine w_al H (t := 0) (j := 13) (pc' := 22) (L' := [(0, .ref 143), (1, .int (2 : Int32))]) h_m220 (z_at.mk 1 rfl rfl) rfl rfl rfl (u := .int (12 : Int32)) rfl rfl rfl ?_
  refine w_as H (t := 0) (j := 2) (u := .int (12 : Int32)) (0, 7, [(2, .int (12 : Int32)), (1, .int (40 : Int32)), (0, .int (10 : Int32))], some (.int (0 : Int32))) (pc' := 23) (L' := [(0, .ref 143), (1, .int (2 : Int32))]) h_m220 (z_at.mk 1 rfl rfl) rfl rfl (w_ui _ _ (by decide)) rfl rfl rfl rfl ?_
  clear H m; intro m H
  refine w_p h_m220 6 (pc' := 9) (L' := [(0, .ref 143), (1, .int (3 : Int32))]) (st' := [.ref 143]) rfl ?_
  refine w_gf H (pc' := 12) (L' := [(0, .ref 143), (1, .int (3 : Int32))]) h_m220 (z_at.mk 3 rfl rfl) rfl (u := .ref 160) rfl rfl rfl ?_
  refine w_p h_m220 2 (pc' := 14) (L' := [(0, .ref 143), (1, .int (3 : Int32))]) (st' := [.ref 143, .int (3 : Int32), .ref 160]) rfl ?_
  refine w_gf H (pc' := 17) (L' := [(0, .ref 143), (1, .int (3 : Int32))]) h_m220 (z_at.mk 3 rfl rfl) rfl (u := .ref 144) rfl rfl rfl ?_
  refine w_p h_m220 3 (pc' := 21) (L' := [(0, .ref 143), (1, .int (3 : Int32))]) (st' := [.int (14 : Int32), .ref 144, .int (3 : Int32), .ref 160]) rfl ?_
  refine w_al H (t := 0) (j := 14) (pc' := 22) (L' := [(0, .ref 143), (1, .int (3 : Int32))]) h_m220 (z_at.mk 1 rfl rfl) rfl rfl rfl (u := .int (0 : Int32)) rfl rfl rfl ?_
  refine w_as H (t := 0) (j := 3) (u := .int (0 : Int32)) (0, 7, [(3, .int (0 : Int32)), (2, .int (12 : Int32)), (1, .int (40 : Int32)), (0, .int (10 : Int32))], some (.int (0 : Int32))) (pc' := 23) (L' := [(0, .ref 143), (1, .int (3 : Int32))]) h_m220 (z_at.mk 1 rfl rfl) rfl rfl (w_ui _ _ (by decide)) rfl rfl rfl rfl ?_
  clear H m; intro m H
  refine w_p h_m220 6 (pc' := 9) (L' := [(0, .ref 143), (1, .int (4 : Int32))]) (st' := [.ref 143]) rfl ?_
  refine w_gf H (pc' := 12) (L' := [(0, .ref 143), (1, .int (4 : Int32))]) h_m220 (z_at.mk 3 rfl rfl) rfl (u := .ref 160) rfl rfl rfl ?_
  refine w_p h_m220 2 (pc' := 14) (L' := [(0, .ref 143), (1, .int (4 : Int32))]) (st' := [.ref 143, .int (4 : Int32), .ref 160]) rfl ?_
  refine w_gf H (pc' := 17) (L' := [(0, .ref 143), (1, .int (4 : Int32))]) h_m220 (z_at.mk 3 rfl rfl) rfl (u := .ref 144) rfl rfl rfl ?_
  refine w_p h_m220 3 (pc' := 21) (L' := [(0, .ref 143), (1, .int (4 : Int32))]) (st' := [.int (15 : Int32), .ref 144, .int (4 : Int32), .ref 160]) rfl ?_
  refine w_al H (t := 0) (j := 15) (pc' := 22) (L' := [(0, .ref 143), (1, .int (4 : Int32))]) h_m220 (z_at.mk 1 rfl rfl) rfl rfl rfl (u := .int (1 : Int32)) rfl rfl rfl ?_
  refine w_as H (t := 0) (j := 4) (u := .int (1 : Int32)) (0, 7, [(4, .int (1 : Int32)), (3, .int (0 : Int32)), (2, .int (12 : Int32)), (1, .int (40 : Int32)), (0, .int (10 : Int32))], some (.int (0 : Int32))) (pc' := 23) (L' := [(0, .ref 143), (1, .int (4 : Int32))]) h_m220 (z_at.mk 1 rfl rfl) rfl rfl (w_ui _ _ (by decide)) rfl rfl rfl rfl ?_
  clear H m; intro m H
  refine w_p h_m220 6 (pc' := 9) (L' := [(0, .ref 143), (1, .int (5 : Int32))]) (st' := [.ref 143]) rfl ?_
  refine w_gf H (pc' := 12) (L' := [(0, .ref 143), (1, .int (5 : Int32))]) h_m220 (z_at.mk 3 rfl rfl) rfl (u := .ref 160) rfl rfl rfl ?_
  refine w_p h_m220 2 (pc' := 14) (L' := [(0, .ref 143), (1, .int (5 : Int32))]) (st' := [.ref 143, .int (5 : Int32), .ref 160]) rfl ?_
  refine w_gf H (pc' := 17) (L' := [(0, .ref 143), (1, .int (5 : Int32))]) h_m220 (z_at.mk 3 rfl rfl) rfl (u := .ref 144) rfl rfl rfl ?_
  refine w_p h_m220 3 (pc' := 21) (L' := [(0, .ref 143), (1, .int (5 : Int32))]) (st' := [.int (16 : Int32), .ref 144, .int (5 : Int32), .ref 160]) rfl ?_
  refine w_al H (t := 0) (j := 16) (pc' := 22) (L' := [(0, .ref 143), (1, .int (5 : Int32))]) h_m220 (z_at.mk 1 rfl rfl) rfl rfl rfl (u := .int (1 : Int32)) rfl rfl rfl ?_
  refine w_as H (t := 0) (j := 5) (u := .int (1 : Int32)) (0, 7, [(5, .int (1 : Int32)), (4, .int (1 : Int32)), (3, .int (0 : Int32)), (2, .int (12 : Int32)), (1, .int (40 : Int32)), (0, .int (10 : Int32))], some (.int (0 : Int32))) (pc' := 23) (L' := [(0, .ref 143), (1, .int (5 : Int32))]) h_m220 (z_at.mk 1 rfl rfl) rfl rfl (w_ui _ _ (by decide)) rfl rfl rfl rfl ?_
  clear H m; intro m H
  refine w_p h_m220 6 (pc' := 9) (L' := [(0, .ref 143), (1, .int (6 : Int32))]) (st' := [.ref 143]) rfl ?_
  refine w_gf H (pc' := 12) (L' := [(0, .ref 143), (1, .int (6 : Int32))]) h_m220 (z_at.mk 3 rfl rfl) rfl (u := .ref 160) rfl rfl rfl ?_
  refine w_p h_m220 2 (pc' := 14) (L' := [(0, .ref 143), (1, .int (6 : Int32))]) (st' := [.ref 143, .int (6 : Int32), .ref 160]) rfl ?_
  refine w_gf H (pc' := 17) (L' := [(0, .ref 143), (1, .int (6 : Int32))]) h_m220 (z_at.mk 3 rfl rfl) rfl (u := .ref 144) rfl rfl rfl ?_
  refine w_p h_m220 3 (pc' := 21) (L' := [(0, .ref 143), (1, .int (6 : Int32))]) (st' := [.int (17 : Int32), .ref 144, .int (6 : Int32), .ref 160]) rfl ?_
  refine w_al H (t := 0) (j := 17) (pc' := 22) (L' := [(0, .ref 143), (1, .int (6 : Int32))]) h_m220 (z_at.mk 1 rfl rfl) rfl rfl rfl (u := .int (1024 : Int32)) rfl rfl rfl ?_
  refine w_as H (t := 0) (j := 6) (u := .int (1024 : Int32)) (0, 7, [(6, .int (1024 : Int32)), (5, .int (1 : Int32)), (4, .int (1 : Int32)), (3, .int (0 : Int32)), (2, .int (12 : Int32)), (1, .int (40 : Int32)), (0, .int (10 : Int32))], some (.int (0 : Int32))) (pc' := 23) (L' := [(0, .ref 143), (1, .int (6 : Int32))]) h_m220 (z_at.mk 1 rfl rfl) rfl rfl (w_ui _ _ (by decide)) rfl rfl rfl rfl ?_
  clear H m; intro m H
  refine w_p h_m220 6 (pc' := 30) (L' := [(0, .ref 143), (1, .int (7 : Int32))]) (st' := [.ref 143]) rfl ?_
  refine w_cv (H.t rfl) (pc' := 33) (L' := [(0, .ref 143), (1, .int (7 : Int32))]) (rest := []) (Ps := []) (L0 := [(0, .ref 143)]) h_m220 (z_at.mk 3 rfl rfl) (Or.inl ⟨rfl, rfl⟩) rfl rfl (by decide) (by decide) rfl rfl rfl rfl rfl rfl (by decide) rfl rfl rfl ?_
  refine w_p h_m222 2 (pc' := 2) (L' := [(0, .ref 143)]) (st' := [.int (0 : Int32), .ref 143]) rfl ?_
  refine w_pf H (22, 35, [(21, .int (0 : Int32)), (34, .ref 167), (33, .ref 166), (31, .ref 165), (30, .ref 164), (28, .ref 163), (26, .ref 162), (25, .ref 161), (24, .ref 160), (19, .ref 159), (18, .ref 158), (17, .ref 157), (16, .ref 156), (13, .ref 155), (12, .ref 154), (11, .ref 153), (9, .ref 152), (8, .ref 151), (7, .ref 150), (5, .ref 149), (4, .ref 148), (3, .ref 147), (2, .ref 146), (1, .ref 145), (0, .ref 144), (6, .int (0 : Int32)), (10, .int (0 : Int32)), (14, .int (0 : Int32)), (15, .int (0 : Int32)), (20, .int (0 : Int32)), (22, .int (0 : Int32)), (23, .int (0 : Int32)), (27, .int (0 : Int32)), (29, .int (0 : Int32)), (32, .int (0 : Int32))], none) (pc' := 5) (L' := [(0, .ref 143)]) h_m222 (z_at.mk 3 rfl rfl) rfl (by decide) rfl (Or.inl rfl) rfl rfl rfl ?_
  clear H m; intro m H
  refine w_p h_m222 2 (pc' := 7) (L' := [(0, .ref 143)]) (st' := [.int (-1 : Int32), .ref 143]) rfl ?_
  refine w_pf H (22, 35, [(22, .int (-1 : Int32)), (21, .int (0 : Int32)), (34, .ref 167), (33, .ref 166), (31, .ref 165), (30, .ref 164), (28, .ref 163), (26, .ref 162), (25, .ref 161), (24, .ref 160), (19, .ref 159), (18, .ref 158), (17, .ref 157), (16, .ref 156), (13, .ref 155), (12, .ref 154), (11, .ref 153), (9, .ref 152), (8, .ref 151), (7, .ref 150), (5, .ref 149), (4, .ref 148), (3, .ref 147), (2, .ref 146), (1, .ref 145), (0, .ref 144), (6, .int (0 : Int32)), (10, .int (0 : Int32)), (14, .int (0 : Int32)), (15, .int (0 : Int32)), (20, .int (0 : Int32)), (23, .int (0 : Int32)), (27, .int (0 : Int32)), (29, .int (0 : Int32)), (32, .int (0 : Int32))], none) (pc' := 10) (L' := [(0, .ref 143)]) h_m222 (z_at.mk 3 rfl rfl) rfl (by decide) rfl (Or.inl rfl) rfl rfl rfl ?_
  clear H m; intro m H
  refine w_rv h_m222 (z_at.mk 1 rfl rfl) rfl ?_
  show z_W 999 220 33 [(0, .ref 143), (1, .int (7 : Int32))] [] m _
  refine w_p h_m220 7 (pc' := 42) (L' := [(0, .ref 143), (1, .int (0 : Int32)), (2, .int (1 : Int32))]) (st' := [.ref 143]) rfl ?_
  refine w_cv (H.t rfl) (pc' := 45) (L' := [(0, .ref 143), (1, .int (0 : Int32)), (2, .int (1 : Int32))]) (rest := []) (Ps := []) (L0 := [(0, .ref 143)]) h_m220 (z_at.mk 3 rfl rfl) (Or.inl ⟨rfl, rfl⟩) rfl rfl (by decide) (by decide) rfl rfl rfl rfl rfl rfl (by decide) rfl rfl rfl ?_
  refine w_p h_m219 2 (pc' := 4) (L' := [(0, .ref 143)]) (st' := [.ref 11, .ref 143]) rfl ?_
  refine w_cv (H.t rfl) (pc' := 7) (L' := [(0, .ref 143)]) (rest := []) (Ps := [.ref 11]) (L0 := [(0, .ref 143), (1, .ref 11)]) h_m219 (z_at.mk 3 rfl rfl) (Or.inl ⟨rfl, rfl⟩) rfl rfl (by decide) (by decide) rfl rfl rfl rfl rfl rfl (by decide) rfl rfl rfl ?_
  refine w_p h_m218 1 (pc' := 1) (L' := [(0, .ref 143), (1, .ref 11)]) (st' := [.ref 143]) rfl ?_
  refine w_cv (H.t rfl) (pc' := 4) (L' := [(0, .ref 143), (1, .ref 11)]) (rest := []) (Ps := []) (L0 := [(0, .ref 143)]) h_m218 (z_at.mk 3 rfl rfl) (Or.inl ⟨rfl, rfl⟩) rfl rfl (by decide) (by decide) rfl rfl rfl rfl rfl rfl (by decide) rfl rfl rfl ?_
  refine w_p h_m217 1 (pc' := 1) (L' := [(0, .ref 143)]) (st' := [.ref 143]) rfl ?_
  refine w_gf H (pc' := 4) (L' := [(0, .ref 143)]) h_m217 (z_at.mk 3 rfl rfl) rfl (u := .int (0 : Int32)) rfl rfl rfl ?_
  refine w_p h_m217 3 (pc' := 7) (L' := [(0, .ref 143), (1, .int (0 : Int32))]) (st' := [.ref 143, .int (0 : Int32)]) rfl ?_
  refine w_gf H (pc' := 10) (L' := [(0, .ref 143), (1, .int (0 : Int32))]) h_m217 (z_at.mk 3 rfl rfl) rfl (u := .int (0 : Int32)) rfl rfl rfl ?_
  refine w_p h_m217 2 (pc' := 36) (L' := [(1, .int (0 : Int32))]) (st' := [.int (0 : Int32)]) rfl ?_
  refine w_ri h_m217 (z_at.mk 1 rfl rfl) rfl rfl ?_
  show z_W 997 218 4 [(0, .ref 143), (1, .ref 11)] [.int (0 : Int32)] m _
  refine w_p h_m218 7 (pc' := 13) (L' := [(0, .ref 143), (1, .ref 11), (2, .int (0 : Int32)), (3, .int (0 : Int32)), (4, .int (0 : Int32))]) (st' := [.ref 11, .int (0 : Int32)]) rfl ?_
  refine w_cv (H.te (by decide) rfl).1 (pc' := 16) (L' := [(0, .ref 143), (1, .ref 11), (2, .int (0 : Int32)), (3, .int (0 : Int32)), (4, .int (0 : Int32))]) (rest := [.int (0 : Int32)]) (Ps := []) (L0 := [(0, .ref 11)]) h_m218 (z_at.mk 3 rfl rfl) (Or.inl ⟨rfl, rfl⟩) rfl rfl (by decide) (by decide) rfl rfl rfl rfl rfl rfl (by decide) rfl rfl rfl ?_
  refine w_p h_m293 1 (pc' := 1) (L' := [(0, .ref 11)]) (st' := [.ref 11]) rfl ?_
  refine w_gs H (pc' := 4) (L' := [(0, .ref 11)]) h_m293 (z_at.mk 3 rfl rfl) rfl (by decide) rfl rfl rfl rfl ?_
  refine w_lene H (x := (39 : Int32)) (pc' := 5) (L' := [(0, .ref 11)]) h_m293 (z_at.mk 1 rfl rfl) (by decide) rfl (by decide) rfl rfl rfl ?_
  refine w_p h_m293 1 (pc' := 6) (L' := [(0, .ref 11)]) (st' := [.ref 11, .int (39 : Int32)]) rfl ?_
  refine w_cv (H.te (by decide) rfl).1 (pc' := 9) (L' := [(0, .ref 11)]) (rest := [.int (39 : Int32)]) (Ps := []) (L0 := [(0, .ref 11)]) h_m293 (z_at.mk 3 rfl rfl) (Or.inl ⟨rfl, rfl⟩) rfl rfl (by decide) (by decide) rfl rfl rfl rfl rfl rfl (by decide) rfl rfl rfl ?_
  refine w_p h_m298 3 (pc' := 7) (L' := [(0, .ref 11)]) (st' := [.ref 11]) rfl ?_
  refine w_gs H (pc' := 10) (L' := [(0, .ref 11)]) h_m298 (z_at.mk 3 rfl rfl) rfl (by decide) rfl rfl rfl rfl ?_
  refine w_p h_m298 1 (pc' := 14) (L' := []) (st' := [.int (0 : Int32)]) rfl ?_
  refine w_ri h_m298 (z_at.mk 1 rfl rfl) rfl rfl ?_
  show z_W 996 293 9 [(0, .ref 11)] [.int (0 : Int32), .int (39 : Int32)] m _
  refine w_p h_m293 1 (pc' := 10) (L' := [(0, .ref 11)]) (st' := [.int (39 : Int32)]) rfl ?_
  refine w_ri h_m293 (z_at.mk 1 rfl rfl) rfl rfl ?_
  show z_W 997 218 16 [(0, .ref 143), (1, .ref 11), (2, .int (0 : Int32)), (3, .int (0 : Int32)), (4, .int (0 : Int32))] [.int (39 : Int32), .int (0 : Int32)] m _
  refine w_p h_m218 7 (pc' := 28) (L' := [(0, .ref 143), (1, .ref 11), (2, .int (0 : Int32)), (3, .int (0 : Int32)), (4, .int (0 : Int32)), (5, .int (0 : Int32))]) (st' := [.ref 11, .int (0 : Int32)]) rfl ?_
  refine w_cv (H.te (by decide) rfl).1 (pc' := 31) (L' := [(0, .ref 143), (1, .ref 11), (2, .int (0 : Int32)), (3, .int (0 : Int32)), (4, .int (0 : Int32)), (5, .int (0 : Int32))]) (rest := [.int (0 : Int32)]) (Ps := []) (L0 := [(0, .ref 11)]) h_m218 (z_at.mk 3 rfl rfl) (Or.inl ⟨rfl, rfl⟩) rfl rfl (by decide) (by decide) rfl rfl rfl rfl rfl rfl (by decide) rfl rfl rfl ?_
  refine w_p h_m293 1 (pc' := 1) (L' := [(0, .ref 11)]) (st' := [.ref 11]) rfl ?_
  refine w_gs H (pc' := 4) (L' := [(0, .ref 11)]) h_m293 (z_at.mk 3 rfl rfl) rfl (by decide) rfl rfl rfl rfl ?_
  refine w_lene H (x := (39 : Int32)) (pc' := 5) (L' := [(0, .ref 11)]) h_m293 (z_at.mk 1 rfl rfl) (by decide) rfl (by decide) rfl rfl rfl ?_
  refine w_p h_m293 1 (pc' := 6) (L' := [(0, .ref 11)]) (st' := [.ref 11, .int (39 : Int32)]) rfl ?_
  refine w_cv (H.te (by decide) rfl).1 (pc' := 9) (L' := [(0, .ref 11)]) (rest := [.int (39 : Int32)]) (Ps := []) (L0 := [(0, .ref 11)]) h_m293 (z_at.mk 3 rfl rfl) (Or.inl ⟨rfl, rfl⟩) rfl rfl (by decide) (by decide) rfl rfl rfl rfl rfl rfl (by decide) rfl rfl rfl ?_
  refine w_p h_m298 3 (pc' := 7) (L' := [(0, .ref 11)]) (st' := [.ref 11]) rfl ?_
  refine w_gs H (pc' := 10) (L' := [(0, .ref 11)]) h_m298 (z_at.mk 3 rfl rfl) rfl (by decide) rfl rfl rfl rfl ?_
  refine w_p h_m298 1 (pc' := 14) (L' := []) (st' := [.int (0 : Int32)]) rfl ?_
  refine w_ri h_m298 (z_at.mk 1 rfl rfl) rfl rfl ?_
  show z_W 996 293 9 [(0, .ref 11)] [.int (0 : Int32), .int (39 : Int32)] m _
  refine w_p h_m293 1 (pc' := 10) (L' := [(0, .ref 11)]) (st' := [.int (39 : Int32)]) rfl ?_
  refine w_ri h_m293 (z_at.mk 1 rfl rfl) rfl rfl ?_
  show z_W 997 218 31 [(0, .ref 143), (1, .ref 11), (2, .int (0 : Int32)), (3, .int (0 : Int32)), (4, .int (0 : Int32)), (5, .int (0 : Int32))] [.int (39 : Int32), .int (0 : Int32)] m _
  refine w_p h_m218 5 (pc' := 40) (L' := [(0, .ref 143), (1, .ref 11), (2, .int (0 : Int32)), (3, .int (0 : Int32)), (4, .int (0 : Int32)), (5, .int (0 : Int32))]) (st' := [.int (0 : Int32), .ref 11]) rfl ?_
  refine w_cv (H.te (by decide) rfl).1 (pc' := 43) (L' := [(0, .ref 143), (1, .ref 11), (2, .int (0 : Int32)), (3, .int (0 : Int32)), (4, .int (0 : Int32)), (5, .int (0 : Int32))]) (rest := []) (Ps := [.int (0 : Int32)]) (L0 := [(0, .ref 11), (1, .int (0 : Int32))]) h_m218 (z_at.mk 3 rfl rfl) (Or.inl ⟨rfl, rfl⟩) rfl rfl (by decide) (by decide) rfl rfl rfl rfl rfl rfl (by decide) rfl rfl rfl ?_
  refine w_p h_m294 1 (pc' := 1) (L' := [(0, .ref 11), (1, .int (0 : Int32))]) (st' := [.ref 11]) rfl ?_
  refine w_cv (H.te (by decide) rfl).1 (pc' := 4) (L' := [(0, .ref 11), (1, .int (0 : Int32))]) (rest := []) (Ps := []) (L0 := [(0, .ref 11)]) h_m294 (z_at.mk 3 rfl rfl) (Or.inl ⟨rfl, rfl⟩) rfl rfl (by decide) (by decide) rfl rfl rfl rfl rfl rfl (by decide) rfl rfl rfl ?_
  refine w_p h_m299 3 (pc' := 7) (L' := [(0, .ref 11)]) (st' := [.ref 11]) rfl ?_
  refine w_gs H (pc' := 10) (L' := [(0, .ref 11)]) h_m299 (z_at.mk 3 rfl rfl) rfl (by decide) rfl rfl rfl rfl ?_
  refine w_p h_m299 3 (pc' := 18) (L' := []) (st' := [.int (1 : Int32)]) rfl ?_
  refine w_ri h_m299 (z_at.mk 1 rfl rfl) rfl rfl ?_
  show z_W 996 294 4 [(0, .ref 11), (1, .int (0 : Int32))] [.int (1 : Int32)] m _
  refine w_p h_m294 2 (pc' := 8) (L' := [(0, .ref 11), (1, .int (0 : Int32))]) (st' := [.ref 11]) rfl ?_
  refine w_gs H (pc' := 11) (L' := [(0, .ref 11), (1, .int (0 : Int32))]) h_m294 (z_at.mk 3 rfl rfl) rfl (by decide) rfl rfl rfl rfl ?_
  refine w_p h_m294 1 (pc' := 12) (L' := [(0, .ref 11), (1, .int (0 : Int32))]) (st' := [.int (0 : Int32), .ref 29]) rfl ?_
  refine w_cs (As := [.ref 29, .int (0 : Int32)]) (rest := []) (j := 308) (L0 := [(0, .ref 29), (1, .int (0 : Int32))]) (pc' := 15) (L' := [(0, .ref 11), (1, .int (0 : Int32))]) h_m294 (z_at.mk 3 rfl rfl) (Or.inl ⟨rfl, rfl⟩) rfl rfl rfl rfl rfl ?_
  refine w_p h_m308 2 (pc' := 2) (L' := [(0, .ref 29), (1, .int (0 : Int32))]) (st' := [.ref 29, .int (0 : Int32)]) rfl ?_
  refine w_lene H (x := (39 : Int32)) (pc' := 3) (L' := [(0, .ref 29), (1, .int (0 : Int32))]) h_m308 (z_at.mk 1 rfl rfl) (by decide) rfl (by decide) rfl rfl rfl ?_
  refine w_ci (pc' := 6) (L' := [(0, .ref 29), (1, .int (0 : Int32))]) h_m308 (z_at.mk 3 rfl rfl) rfl (z_cat_le 0 rfl (by decide)) ⟨by decide, by decide⟩ rfl rfl ?_
  refine w_p h_m308 2 (pc' := 8) (L' := [(0, .ref 29), (1, .int (0 : Int32))]) (st' := [.int (0 : Int32), .ref 29]) rfl ?_
  refine w_ae H (j := 0) (pc' := 9) (L' := [(0, .ref 29), (1, .int (0 : Int32))]) h_m308 (z_at.mk 1 rfl rfl) rfl rfl rfl (by decide) rfl (by decide) rfl rfl rfl ?_
  refine w_p h_m308 3 (pc' := 14) (L' := [(0, .ref 29), (1, .int (0 : Int32))]) (st' := [.int (115 : Int32)]) rfl ?_
  refine w_ri h_m308 (z_at.mk 1 rfl rfl) rfl rfl ?_
  show z_W 996 294 15 [(0, .ref 11), (1, .int (0 : Int32))] [.int (115 : Int32)] m _
  refine w_ri h_m294 (z_at.mk 1 rfl rfl) rfl rfl ?_
  show z_W 997 218 43 [(0, .ref 143), (1, .ref 11), (2, .int (0 : Int32)), (3, .int (0 : Int32)), (4, .int (0 : Int32)), (5, .int (0 : Int32))] [.int (115 : Int32)] m _
  refine w_p h_m218 8 (pc' := 28) (L' := [(0, .ref 143), (1, .ref 11), (2, .int (0 : Int32)), (3, .int (0 : Int32)), (4, .int (0 : Int32)), (5, .int (1 : Int32))]) (st' := [.ref 11, .int (1 : Int32)]) rfl ?_
  refine w_cv (H.te (by decide) rfl).1 (pc' := 31) (L' := [(0, .ref 143), (1, .ref 11), (2, .int (0 : Int32)), (3, .int (0 : Int32)), (4, .int (0 : Int32)), (5, .int (1 : Int32))]) (rest := [.int (1 : Int32)]) (Ps := []) (L0 := [(0, .ref 11)]) h_m218 (z_at.mk 3 rfl rfl) (Or.inl ⟨rfl, rfl⟩) rfl rfl (by decide) (by decide) rfl rfl rfl rfl rfl rfl (by decide) rfl rfl rfl ?_
  refine w_p h_m293 1 (pc' := 1) (L' := [(0, .ref 11)]) (st' := [.ref 11]) rfl ?_
  refine w_gs H (pc' := 4) (L' := [(0, .ref 11)]) h_m293 (z_at.mk 3 rfl rfl) rfl (by decide) rfl rfl rfl rfl ?_
  refine w_lene H (x := (39 : Int32)) (pc' := 5) (L' := [(0, .ref 11)]) h_m293 (z_at.mk 1 rfl rfl) (by decide) rfl (by decide) rfl rfl rfl ?_
  refine w_p h_m293 1 (pc' := 6) (L' := [(0, .ref 11)]) (st' := [.ref 11, .int (39 : Int32)]) rfl ?_
  refine w_cv (H.te (by decide) rfl).1 (pc' := 9) (L' := [(0, .ref 11)]) (rest := [.int (39 : Int32)]) (Ps := []) (L0 := [(0, .ref 11)]) h_m293 (z_at.mk 3 rfl rfl) (Or.inl ⟨rfl, rfl⟩) rfl rfl (by decide) (by decide) rfl rfl rfl rfl rfl rfl (by decide) rfl rfl rfl ?_
  refine w_p h_m298 3 (pc' := 7) (L' := [(0, .ref 11)]) (st' := [.ref 11]) rfl ?_
  refine w_gs H (pc' := 10) (L' := [(0, .ref 11)]) h_m298 (z_at.mk 3 rfl rfl) rfl (by decide) rfl rfl rfl rfl ?_
  refine w_p h_m298 1 (pc' := 14) (L' := []) (st' := [.int (0 : Int32)]) rfl ?_
  refine w_ri h_m298 (z_at.mk 1 rfl rfl) rfl rfl ?_
  show z_W 996 293 9 [(0, .ref 11)] [.int (0 : Int32), .int (39 : Int32)] m _
  refine w_p h_m293 1 (pc' := 10) (L' := [(0, .ref 11)]) (st' := [.int (39 : Int32)]) rfl ?_
  refine w_ri h_m293 (z_at.mk 1 rfl rfl) rfl rfl ?_
  show z_W 997 218 31 [(0, .ref 143), (1, .ref 11), (2, .int (0 : Int32)), (3, .int (0 : Int32)), (4, .int (0 : Int32)), (5, .int (1 : Int32))] [.int (39 : Int32), .int (1 : Int32)] m _
  refine w_p h_m218 5 (pc' := 40) (L' := [(0, .ref 143), (1, .ref 11), (2, .int (0 : Int32)), (3, .int (0 : Int32)), (4, .int (0 : Int32)), (5, .int (1 : Int32))]) (st' := [.int (1 : Int32), .ref 11]) rfl ?_
  refine w_cv (H.te (by decide) rfl).1 (pc' := 43) (L' := [(0, .ref 143), (1, .ref 11), (2, .int (0 : Int32)), (3, .int (0 : Int32)), (4, .int (0 : Int32)), (5, .int (1 : Int32))]) (rest := []) (Ps := [.int (1 : Int32)]) (L0 := [(0, .ref 11), (1, .int (1 : Int32))]) h_m218 (z_at.mk 3 rfl rfl) (Or.inl ⟨rfl, rfl⟩) rfl rfl (by decide) (by decide) rfl rfl rfl rfl rfl rfl (by decide) rfl rfl rfl ?_
  refine w_p h_m294 1 (pc' := 1) (L' := [(0, .ref 11), (1, .int (1 : Int32))]) (st' := [.ref 11]) rfl ?_
  refine w_cv (H.te (by decide) rfl).1 (pc' := 4) (L' := [(0, .ref 11), (1, .int (1 : Int32))]) (rest := []) (Ps := []) (L0 := [(0, .ref 11)]) h_m294 (z_at.mk 3 rfl rfl) (Or.inl ⟨rfl, rfl⟩) rfl rfl (by decide) (by decide) rfl rfl rfl rfl rfl rfl (by decide) rfl rfl rfl ?_
  refine w_p h_m299 3 (pc' := 7) (L' := [(0, .ref 11)]) (st' := [.ref 11]) rfl ?_
  refine w_gs H (pc' := 10) (L' := [(0, .ref 11)]) h_m299 (z_at.mk 3 rfl rfl) rfl (by decide) rfl rfl rfl rfl ?_
  refine w_p h_m299 3 (pc' := 18) (L' := []) (st' := [.int (1 : Int32)]) rfl ?_
  refine w_ri h_m299 (z_at.mk 1 rfl rfl) rfl rfl ?_
  show z_W 996 294 4 [(0, .ref 11), (1, .int (1 : Int32))] [.int (1 : Int32)] m _
  refine w_p h_m294 2 (pc' := 8) (L' := [(0, .ref 11), (1, .int (1 : Int32))]) (st' := [.ref 11]) rfl ?_
  refine w_gs H (pc' := 11) (L' := [(0, .ref 11), (1, .int (1 : Int32))]) h_m294 (z_at.mk 3 rfl rfl) rfl (by decide) rfl rfl rfl rfl ?_
  refine w_p h_m294 1 (pc' := 12) (L' := [(0, .ref 11), (1, .int (1 : Int32))]) (st' := [.int (1 : Int32), .ref 29]) rfl ?_
  refine w_cs (As := [.ref 29, .int (1 : Int32)]) (rest := []) (j := 308) (L0 := [(0, .ref 29), (1, .int (1 : Int32))]) (pc' := 15) (L' := [(0, .ref 11), (1, .int (1 : Int32))]) h_m294 (z_at.mk 3 rfl rfl) (Or.inl ⟨rfl, rfl⟩) rfl rfl rfl rfl rfl ?_
  refine w_p h_m308 2 (pc' := 2) (L' := [(0, .ref 29), (1, .int (1 : Int32))]) (st' := [.ref 29, .int (1 : Int32)]) rfl ?_
  refine w_lene H (x := (39 : Int32)) (pc' := 3) (L' := [(0, .ref 29), (1, .int (1 : Int32))]) h_m308 (z_at.mk 1 rfl rfl) (by decide) rfl (by decide) rfl rfl rfl ?_
  refine w_ci (pc' := 6) (L' := [(0, .ref 29), (1, .int (1 : Int32))]) h_m308 (z_at.mk 3 rfl rfl) rfl (z_cat_le 0 rfl (by decide)) ⟨by decide, by decide⟩ rfl rfl ?_
  refine w_p h_m308 2 (pc' := 8) (L' := [(0, .ref 29), (1, .int (1 : Int32))]) (st' := [.int (1 : Int32), .ref 29]) rfl ?_
  refine w_ae H (j := 1) (pc' := 9) (L' := [(0, .ref 29), (1, .int (1 : Int32))]) h_m308 (z_at.mk 1 rfl rfl) rfl rfl rfl (by decide) rfl (by decide) rfl rfl rfl ?_
  refine w_p h_m308 3 (pc' := 14) (L' := [(0, .ref 29), (1, .int (1 : Int32))]) (st' := [.int (101 : Int32)]) rfl ?_
  refine w_ri h_m308 (z_at.mk 1 rfl rfl) rfl rfl ?_
  show z_W 996 294 15 [(0, .ref 11), (1, .int (1 : Int32))] [.int (101 : Int32)] m _
  refine w_ri h_m294 (z_at.mk 1 rfl rfl) rfl rfl ?_
  show z_W 997 218 43 [(0, .ref 143), (1, .ref 11), (2, .int (0 : Int32)), (3, .int (0 : Int32)), (4, .int (0 : Int32)), (5, .int (1 : Int32))] [.int (101 : Int32)] m _
  refine w_p h_m218 8 (pc' := 28) (L' := [(0, .ref 143), (1, .ref 11), (2, .int (0 : Int32)), (3, .int (0 : Int32)), (4, .int (0 : Int32)), (5, .int (2 : Int32))]) (st' := [.ref 11, .int (2 : Int32)]) rfl ?_
  refine w_cv (H.te (by decide) rfl).1 (pc' := 31) (L' := [(0, .ref 143), (1, .ref 11), (2, .int (0 : Int32)), (3, .int (0 : Int32)), (4, .int (0 : Int32)), (5, .int (2 : Int32))]) (rest := [.int (2 : Int32)]) (Ps := []) (L0 := [(0, .ref 11)]) h_m218 (z_at.mk 3 rfl rfl) (Or.inl ⟨rfl, rfl⟩) rfl rfl (by decide) (by decide) rfl rfl rfl rfl rfl rfl (by decide) rfl rfl rfl ?_
  refine w_p h_m293 1 (pc' := 1) (L' := [(0, .ref 11)]) (st' := [.ref 11]) rfl ?_
  refine w_gs H (pc' := 4) (L' := [(0, .ref 11)]) h_m293 (z_at.mk 3 rfl rfl) rfl (by decide) rfl rfl rfl rfl ?_
  refine w_lene H (x := (39 : Int32)) (pc' := 5) (L' := [(0, .ref 11)]) h_m293 (z_at.mk 1 rfl rfl) (by decide) rfl (by decide) rfl rfl rfl ?_
  refine w_p h_m293 1 (pc' := 6) (L' := [(0, .ref 11)]) (st' := [.ref 11, .int (39 : Int32)]) rfl ?_
  refine w_cv (H.te (by decide) rfl).1 (pc' := 9) (L' := [(0, .ref 11)]) (rest := [.int (39 : Int32)]) (Ps := []) (L0 := [(0, .ref 11)]) h_m293 (z_at.mk 3 rfl rfl) (Or.inl ⟨rfl, rfl⟩) rfl rfl (by decide) (by decide) rfl rfl rfl rfl rfl rfl (by decide) rfl rfl rfl ?_
  refine w_p h_m298 3 (pc' := 7) (L' := [(0, .ref 11)]) (st' := [.ref 11]) rfl ?_
  refine w_gs H (pc' := 10) (L' := [(0, .ref 11)]) h_m298 (z_at.mk 3 rfl rfl) rfl (by decide) rfl rfl rfl rfl ?_
  refine w_p h_m298 1 (pc' := 14) (L' := []) (st' := [.int (0 : Int32)]) rfl ?_
  refine w_ri h_m298 (z_at.mk 1 rfl rfl) rfl rfl ?_
  show z_W 996 293 9 [(0, .ref 11)] [.int (0 : Int32), .int (39 : Int32)] m _
  refine w_p h_m293 1 (pc' := 10) (L' := [(0, .ref 11)]) (st' := [.int (39 : Int32)]) rfl ?_
  refine w_ri h_m293 (z_at.mk 1 rfl rfl) rfl rfl ?_
  show z_W 997 218 31 [(0, .ref 143), (1, .ref 11), (2, .int (0 : Int32)), (3, .int (0 : Int32)), (4, .int (0 : Int32)), (5, .int (2 : Int32))] [.int (39 : Int32), .int (2 : Int32)] m _
  refine w_p h_m218 5 (pc' := 40) (L' := [(0, .ref 143), (1, .ref 11), (2, .int (0 : Int32)), (3, .int (0 : Int32)), (4, .int (0 : Int32)), (5, .int (2 : Int32))]) (st' := [.int (2 : Int32), .ref 11]) rfl ?_
  refine w_cv (H.te (by decide) rfl).1 (pc' := 43) (L' := [(0, .ref 143), (1, .ref 11), (2, .int (0 : Int32)), (3, .int (0 : Int32)), (4, .int (0 : Int32)), (5, .int (2 : Int32))]) (rest := []) (Ps := [.int (2 : Int32)]) (L0 := [(0, .ref 11), (1, .int (2 : Int32))]) h_m218 (z_at.mk 3 rfl rfl) (Or.inl ⟨rfl, rfl⟩) rfl rfl (by decide) (by decide) rfl rfl rfl rfl rfl rfl (by decide) rfl rfl rfl ?_
  refine w_p h_m294 1 (pc' := 1) (L' := [(0, .ref 11), (1, .int (2 : Int32))]) (st' := [.ref 11]) rfl ?_
  refine w_cv (H.te (by decide) rfl).1 (pc' := 4) (L' := [(0, .ref 11), (1, .int (2 : Int32))]) (rest := []) (Ps := []) (L0 := [(0, .ref 11)]) h_m294 (z_at.mk 3 rfl rfl) (Or.inl ⟨rfl, rfl⟩) rfl rfl (by decide) (by decide) rfl rfl rfl rfl rfl rfl (by decide) rfl rfl rfl ?_
  refine w_p h_m299 3 (pc' := 7) (L' := [(0, .ref 11)]) (st' := [.ref 11]) rfl ?_
  refine w_gs H (pc' := 10) (L' := [(0, .ref 11)]) h_m299 (z_at.mk 3 rfl rfl) rfl (by decide) rfl rfl rfl rfl ?_
  refine w_p h_m299 3 (pc' := 18) (L' := []) (st' := [.int (1 : Int32)]) rfl ?_
  refine w_ri h_m299 (z_at.mk 1 rfl rfl) rfl rfl ?_
  show z_W 996 294 4 [(0, .ref 11), (1, .int (2 : Int32))] [.int (1 : Int32)] m _
  refine w_p h_m294 2 (pc' := 8) (L' := [(0, .ref 11), (1, .int (2 : Int32))]) (st' := [.ref 11]) rfl ?_
  refine w_gs H (pc' := 11) (L' := [(0, .ref 11), (1, .int (2 : Int32))]) h_m294 (z_at.mk 3 rfl rfl) rfl (by decide) rfl rfl rfl rfl ?_
  refine w_p h_m294 1 (pc' := 12) (L' := [(0, .ref 11), (1, .int (2 : Int32))]) (st' := [.int (2 : Int32), .ref 29]) rfl ?_
  refine w_cs (As := [.ref 29, .int (2 : Int32)]) (rest := []) (j := 308) (L0 := [(0, .ref 29), (1, .int (2 : Int32))]) (pc' := 15) (L' := [(0, .ref 11), (1, .int (2 : Int32))]) h_m294 (z_at.mk 3 rfl rfl) (Or.inl ⟨rfl, rfl⟩) rfl rfl rfl rfl rfl ?_
  refine w_p h_m308 2 (pc' := 2) (L' := [(0, .ref 29), (1, .int (2 : Int32))]) (st' := [.ref 29, .int (2 : Int32)]) rfl ?_
  refine w_lene H (x := (39 : Int32)) (pc' := 3) (L' := [(0, .ref 29), (1, .int (2 : Int32))]) h_m308 (z_at.mk 1 rfl rfl) (by decide) rfl (by decide) rfl rfl rfl ?_
  refine w_ci (pc' := 6) (L' := [(0, .ref 29), (1, .int (2 : Int32))]) h_m308 (z_at.mk 3 rfl rfl) rfl (z_cat_le 0 rfl (by decide)) ⟨by decide, by decide⟩ rfl rfl ?_
  refine w_p h_m308 2 (pc' := 8) (L' := [(0, .ref 29), (1, .int (2 : Int32))]) (st' := [.int (2 : Int32), .ref 29]) rfl ?_
  refine w_ae H (j := 2) (pc' := 9) (L' := [(0, .ref 29), (1, .int (2 : Int32))]) h_m308 (z_at.mk 1 rfl rfl) rfl rfl rfl (by decide) rfl (by decide) rfl rfl rfl ?_
  refine w_p h_m308 3 (pc' := 14) (L' := [(0, .ref 29), (1, .int (2 : Int32))]) (st' := [.int (116 : Int32)]) rfl ?_
  refine w_ri h_m308 (z_at.mk 1 rfl rfl) rfl rfl ?_
  show z_W 996 294 15 [(0, .ref 11), (1, .int (2 : Int32))] [.int (116 : Int32)] m _
  refine w_ri h_m294 (z_at.mk 1 rfl rfl) rfl rfl ?_
  show z_W 997 218 43 [(0, .ref 143), (1, .ref 11), (2, .int (0 : Int32)), (3, .int (0 : Int32)), (4, .int (0 : Int32)), (5, .int (2 : Int32))] [.int (116 : Int32)] m _
  refine w_p h_m218 8 (pc' := 28) (L' := [(0, .ref 143), (1, .ref 11), (2, .int (0 : Int32)), (3, .int (0 : Int32)), (4, .int (0 : Int32)), (5, .int (3 : Int32))]) (st' := [.ref 11, .int (3 : Int32)]) rfl ?_
  refine w_cv (H.te (by decide) rfl).1 (pc' := 31) (L' := [(0, .ref 143), (1, .ref 11), (2, .int (0 : Int32)), (3, .int (0 : Int32)), (4, .int (0 : Int32)), (5, .int (3 : Int32))]) (rest := [.int (3 : Int32)]) (Ps := []) (L0 := [(0, .ref 11)]) h_m218 (z_at.mk 3 rfl rfl) (Or.inl ⟨rfl, rfl⟩) rfl rfl (by decide) (by decide) rfl rfl rfl rfl rfl rfl (by decide) rfl rfl rfl ?_
  refine w_p h_m293 1 (pc' := 1) (L' := [(0, .ref 11)]) (st' := [.ref 11]) rfl ?_
  refine w_gs H (pc' := 4) (L' := [(0, .ref 11)]) h_m293 (z_at.mk 3 rfl rfl) rfl (by decide) rfl rfl rfl rfl ?_
  refine w_lene H (x := (39 : Int32)) (pc' := 5) (L' := [(0, .ref 11)]) h_m293 (z_at.mk 1 rfl rfl) (by decide) rfl (by decide) rfl rfl rfl ?_
  refine w_p h_m293 1 (pc' := 6) (L' := [(0, .ref 11)]) (st' := [.ref 11, .int (39 : Int32)]) rfl ?_
  refine w_cv (H.te (by decide) rfl).1 (pc' := 9) (L' := [(0, .ref 11)]) (rest := [.int (39 : Int32)]) (Ps := []) (L0 := [(0, .ref 11)]) h_m293 (z_at.mk 3 rfl rfl) (Or.inl ⟨rfl, rfl⟩) rfl rfl (by decide) (by decide) rfl rfl rfl rfl rfl rfl (by decide) rfl rfl rfl ?_
  refine w_p h_m298 3 (pc' := 7) (L' := [(0, .ref 11)]) (st' := [.ref 11]) rfl ?_
  refine w_gs H (pc' := 10) (L' := [(0, .ref 11)]) h_m298 (z_at.mk 3 rfl rfl) rfl (by decide) rfl rfl rfl rfl ?_
  refine w_p h_m298 1 (pc' := 14) (L' := []) (st' := [.int (0 : Int32)]) rfl ?_
  refine w_ri h_m298 (z_at.mk 1 rfl rfl) rfl rfl ?_
  show z_W 996 293 9 [(0, .ref 11)] [.int (0 : Int32), .int (39 : Int32)] m _
  refine w_p h_m293 1 (pc' := 10) (L' := [(0, .ref 11)]) (st' := [.int (39 : Int32)]) rfl ?_
  refine w_ri h_m293 (z_at.mk 1 rfl rfl) rfl rfl ?_
  show z_W 997 218 31 [(0, .ref 143), (1, .ref 11), (2, .int (0 : Int32)), (3, .int (0 : Int32)), (4, .int (0 : Int32)), (5, .int (3 : Int32))] [.int (39 : Int32), .int (3 : Int32)] m _
  refine w_p h_m218 5 (pc' := 40) (L' := [(0, .ref 143), (1, .ref 11), (2, .int (0 : Int32)), (3, .int (0 : Int32)), (4, .int (0 : Int32)), (5, .int (3 : Int32))]) (st' := [.int (3 : Int32), .ref 11]) rfl ?_
  refine w_cv (H.te (by decide) rfl).1 (pc' := 43) (L' := [(0, .ref 143), (1, .ref 11), (2, .int (0 : Int32)), (3, .int (0 : Int32)), (4, .int (0 : Int32)), (5, .int (3 : Int32))]) (rest := []) (Ps := [.int (3 : Int32)]) (L0 := [(0, .ref 11), (1, .int (3 : Int32))]) h_m218 (z_at.mk 3 rfl rfl) (Or.inl ⟨rfl, rfl⟩) rfl rfl (by decide) (by decide) rfl rfl rfl rfl rfl rfl (by decide) rfl rfl rfl ?_
  refine w_p h_m294 1 (pc' := 1) (L' := [(0, .ref 11), (1, .int (3 : Int32))]) (st' := [.ref 11]) rfl ?_
  refine w_cv (H.te (by decide) rfl).1 (pc' := 4) (L' := [(0, .ref 11), (1, .int (3 : Int32))]) (rest := []) (Ps := []) (L0 := [(0, .ref 11)]) h_m294 (z_at.mk 3 rfl rfl) (Or.inl ⟨rfl, rfl⟩) rfl rfl (by decide) (by decide) rfl rfl rfl rfl rfl rfl (by decide) rfl rfl rfl ?_
  refine w_p h_m299 3 (pc' := 7) (L' := [(0, .ref 11)]) (st' := [.ref 11]) rfl ?_
  refine w_gs H (pc' := 10) (L' := [(0, .ref 11)]) h_m299 (z_at.mk 3 rfl rfl) rfl (by decide) rfl rfl rfl rfl ?_
  refine w_p h_m299 3 (pc' := 18) (L' := []) (st' := [.int (1 : Int32)]) rfl ?_
  refine w_ri h_m299 (z_at.mk 1 rfl rfl) rfl rfl ?_
  show z_W 996 294 4 [(0, .ref 11), (1, .int (3 : Int32))] [.int (1 : Int32)] m _
  refine w_p h_m294 2 (pc' := 8) (L' := [(0, .ref 11), (1, .int (3 : Int32))]) (st' := [.ref 11]) rfl ?_
  refine w_gs H (pc' := 11) (L' := [(0, .ref 11), (1, .int (3 : Int32))]) h_m294 (z_at.mk 3 rfl rfl) rfl (by decide) rfl rfl rfl rfl ?_
  refine w_p h_m294 1 (pc' := 12) (L' := [(0, .ref 11), (1, .int (3 : Int32))]) (st' := [.int (3 : Int32), .ref 29]) rfl ?_
  refine w_cs (As := [.ref 29, .int (3 : Int32)]) (rest := []) (j := 308) (L0 := [(0, .ref 29), (1, .int (3 : Int32))]) (pc' := 15) (L' := [(0, .ref 11), (1, .int (3 : Int32))]) h_m294 (z_at.mk 3 rfl rfl) (Or.inl ⟨rfl, rfl⟩) rfl rfl rfl rfl rfl ?_
  refine w_p h_m308 2 (pc' := 2) (L' := [(0, .ref 29), (1, .int (3 : Int32))]) (st' := [.ref 29, .int (3 : Int32)]) rfl ?_
  refine w_lene H (x := (39 : Int32)) (pc' := 3) (L' := [(0, .ref 29), (1, .int (3 : Int32))]) h_m308 (z_at.mk 1 rfl rfl) (by decide) rfl (by decide) rfl rfl rfl ?_
  refine w_ci (pc' := 6) (L' := [(0, .ref 29), (1, .int (3 : Int32))]) h_m308 (z_at.mk 3 rfl rfl) rfl (z_cat_le 0 rfl (by decide)) ⟨by decide, by decide⟩ rfl rfl ?_
  refine w_p h_m308 2 (pc' := 8) (L' := [(0, .ref 29), (1, .int (3 : Int32))]) (st' := [.int (3 : Int32), .ref 29]) rfl ?_
  refine w_ae H (j := 3) (pc' := 9) (L' := [(0, .ref 29), (1, .int (3 : Int32))]) h_m308 (z_at.mk 1 rfl rfl) rfl rfl rfl (by decide) rfl (by decide) rfl rfl rfl ?_
  refine w_p h_m308 3 (pc' := 14) (L' := [(0, .ref 29), (1, .int (3 : Int32))]) (st' := [.int (117 : Int32)]) rfl ?_
  refine w_ri h_m308 (z_at.mk 1 rfl rfl) rfl rfl ?_
  show z_W 996 294 15 [(0, .ref 11), (1, .int (3 : Int32))] [.int (117 : Int32)] m _
  refine w_ri h_m294 (z_at.mk 1 rfl rfl) rfl rfl ?_
  show z_W 997 218 43 [(0, .ref 143), (1, .ref 11), (2, .int (0 : Int32)), (3, .int (0 : Int32)), (4, .int (0 : Int32)), (5, .int (3 : Int32))] [.int (117 : Int32)] m _
  refine w_p h_m218 8 (pc' := 28) (L' := [(0, .ref 143), (1, .ref 11), (2, .int (0 : Int32)), (3, .int (0 : Int32)), (4, .int (0 : Int32)), (5, .int (4 : Int32))]) (st' := [.ref 11, .int (4 : Int32)]) rfl ?_
  refine w_cv (H.te (by decide) rfl).1 (pc' := 31) (L' := [(0, .ref 143), (1, .ref 11), (2, .int (0 : Int32)), (3, .int (0 : Int32)), (4, .int (0 : Int32)), (5, .int (4 : Int32))]) (rest := [.int (4 : Int32)]) (Ps := []) (L0 := [(0, .ref 11)]) h_m218 (z_at.mk 3 rfl rfl) (Or.inl ⟨rfl, rfl⟩) rfl rfl (by decide) (by decide) rfl rfl rfl rfl rfl rfl (by decide) rfl rfl rfl ?_
  refine w_p h_m293 1 (pc' := 1) (L' := [(0, .ref 11)]) (st' := [.ref 11]) rfl ?_
  refine w_gs H (pc' := 4) (L' := [(0, .ref 11)]) h_m293 (z_at.mk 3 rfl rfl) rfl (by decide) rfl rfl rfl rfl ?_
  refine w_lene H (x := (39 : Int32)) (pc' := 5) (L' := [(0, .ref 11)]) h_m293 (z_at.mk 1 rfl rfl) (by decide) rfl (by decide) rfl rfl rfl ?_
  refine w_p h_m293 1 (pc' := 6) (L' := [(0, .ref 11)]) (st' := [.ref 11, .int (39 : Int32)]) rfl ?_
  refine w_cv (H.te (by decide) rfl).1 (pc' := 9) (L' := [(0, .ref 11)]) (rest := [.int (39 : Int32)]) (Ps := []) (L0 := [(0, .ref 11)]) h_m293 (z_at.mk 3 rfl rfl) (Or.inl ⟨rfl, rfl⟩) rfl rfl (by decide) (by decide) rfl rfl rfl rfl rfl rfl (by decide) rfl rfl rfl ?_
  refine w_p h_m298 3 (pc' := 7) (L' := [(0, .ref 11)]) (st' := [.ref 11]) rfl ?_
  refine w_gs H (pc' := 10) (L' := [(0, .ref 11)]) h_m298 (z_at.mk 3 rfl rfl) rfl (by decide) rfl rfl rfl rfl ?_
  refine w_p h_m298 1 (pc' := 14) (L' := []) (st' := [.int (0 : Int32)]) rfl ?_
  refine w_ri h_m298 (z_at.mk 1 rfl rfl) rfl rfl ?_
  show z_W 996 293 9 [(0, .ref 11)] [.int (0 : Int32), .int (39 : Int32)] m _
  refine w_p h_m293 1 (pc' := 10) (L' := [(0, .ref 11)]) (st' := [.int (39 : Int32)]) rfl ?_
  refine w_ri h_m293 (z_at.mk 1 rfl rfl) rfl rfl ?_
  show z_W 997 218 31 [(0, .ref 143), (1, .ref 11), (2, .int (0 : Int32)), (3, .int (0 : Int32)), (4, .int (0 : Int32)), (5, .int (4 : Int32))] [.int (39 : Int32), .int (4 : Int32)] m _
  refine w_p h_m218 5 (pc' := 40) (L' := [(0, .ref 143), (1, .ref 11), (2, .int (0 : Int32)), (3, .int (0 : Int32)), (4, .int (0 : Int32)), (5, .int (4 : Int32))]) (st' := [.int (4 : Int32), .ref 11]) rfl ?_
  refine w_cv (H.te (by decide) rfl).1 (pc' := 43) (L' := [(0, .ref 143), (1, .ref 11), (2, .int (0 : Int32)), (3, .int (0 : Int32)), (4, .int (0 : Int32)), (5, .int (4 : Int32))]) (rest := []) (Ps := [.int (4 : Int32)]) (L0 := [(0, .ref 11), (1, .int (4 : Int32))]) h_m218 (z_at.mk 3 rfl rfl) (Or.inl ⟨rfl, rfl⟩) rfl rfl (by decide) (by decide) rfl rfl rfl rfl rfl rfl (by decide) rfl rfl rfl ?_
  refine w_p h_m294 1 (pc' := 1) (L' := [(0, .ref 11), (1, .int (4 : Int32))]) (st' := [.ref 11]) rfl ?_
  refine w_cv (H.te (by decide) rfl).1 (pc' := 4) (L' := [(0, .ref 11), (1, .int (4 : Int32))]) (rest := []) (Ps := []) (L0 := [(0, .ref 11)]) h_m294 (z_at.mk 3 rfl rfl) (Or.inl ⟨rfl, rfl⟩) rfl rfl (by decide) (by decide) rfl rfl rfl rfl rfl rfl (by decide) rfl rfl rfl ?_
  refine w_p h_m299 3 (pc' := 7) (L' := [(0, .ref 11)]) (st' := [.ref 11]) rfl ?_
  refine w_gs H (pc' := 10) (L' := [(0, .ref 11)]) h_m299 (z_at.mk 3 rfl rfl) rfl (by decide) rfl rfl rfl rfl ?_
  refine w_p h_m299 3 (pc' := 18) (L' := []) (st' := [.int (1 : Int32)]) rfl ?_
  refine w_ri h_m299 (z_at.mk 1 rfl rfl) rfl rfl ?_
  show z_W 996 294 4 [(0, .ref 11), (1, .int (4 : Int32))] [.int (1 : Int32)] m _
  refine w_p h_m294 2 (pc' := 8) (L' := [(0, .ref 11), (1, .int (4 : Int32))]) (st' := [.ref 11]) rfl ?_
  refine w_gs H (pc' := 11) (L' := [(0, .ref 11), (1, .int (4 : Int32))]) h_m294 (z_at.mk 3 rfl rfl) rfl (by decide) rfl rfl rfl rfl ?_
  refine w_p h_m294 1 (pc' := 12) (L' := [(0, .ref 11), (1, .int (4 : Int32))]) (st' := [.int (4 : Int32), .ref 29]) rfl ?_
  refine w_cs (As := [.ref 29, .int (4 : Int32)]) (rest := []) (j := 308) (L0 := [(0, .ref 29), (1, .int (4 : Int32))]) (pc' := 15) (L' := [(0, .ref 11), (1, .int (4 : Int32))]) h_m294 (z_at.mk 3 rfl rfl) (Or.inl ⟨rfl, rfl⟩) rfl rfl rfl rfl rfl ?_
  refine w_p h_m308 2 (pc' := 2) (L' := [(0, .ref 29), (1, .int (4 : Int32))]) (st' := [.ref 29, .int (4 : Int32)]) rfl ?_
  refine w_lene H (x := (39 : Int32)) (pc' := 3) (L' := [(0, .ref 29), (1, .int (4 : Int32))]) h_m308 (z_at.mk 1 rfl rfl) (by decide) rfl (by decide) rfl rfl rfl ?_
  refine w_ci (pc' := 6) (L' := [(0, .ref 29), (1, .int (4 : Int32))]) h_m308 (z_at.mk 3 rfl rfl) rfl (z_cat_le 0 rfl (by decide)) ⟨by decide, by decide⟩ rfl rfl ?_
  refine w_p h_m308 2 (pc' := 8) (L' := [(0, .ref 29), (1, .int (4 : Int32))]) (st' := [.int (4 : Int32), .ref 29]) rfl ?_
  refine w_ae H (j := 4) (pc' := 9) (L' := [(0, .ref 29), (1, .int (4 : Int32))]) h_m308 (z_at.mk 1 rfl rfl) rfl rfl rfl (by decide) rfl (by decide) rfl rfl rfl ?_
  refine w_p h_m308 3 (pc' := 14) (L' := [(0, .ref 29), (1, .int (4 : Int32))]) (st' := [.int (112 : Int32)]) rfl ?_
  refine w_ri h_m308 (z_at.mk 1 rfl rfl) rfl rfl ?_
  show z_W 996 294 15 [(0, .ref 11), (1, .int (4 : Int32))] [.int (112 : Int32)] m _
  refine w_ri h_m294 (z_at.mk 1 rfl rfl) rfl rfl ?_
  show z_W 997 218 43 [(0, .ref 143), (1, .ref 11), (2, .int (0 : Int32)), (3, .int (0 : Int32)), (4, .int (0 : Int32)), (5, .int (4 : Int32))] [.int (112 : Int32)] m _
  refine w_p h_m218 8 (pc' := 28) (L' := [(0, .ref 143), (1, .ref 11), (2, .int (0 : Int32)), (3, .int (0 : Int32)), (4, .int (0 : Int32)), (5, .int (5 : Int32))]) (st' := [.ref 11, .int (5 : Int32)]) rfl ?_
  refine w_cv (H.te (by decide) rfl).1 (pc' := 31) (L' := [(0, .ref 143), (1, .ref 11), (2, .int (0 : Int32)), (3, .int (0 : Int32)), (4, .int (0 : Int32)), (5, .int (5 : Int32))]) (rest := [.int (5 : Int32)]) (Ps := []) (L0 := [(0, .ref 11)]) h_m218 (z_at.mk 3 rfl rfl) (Or.inl ⟨rfl, rfl⟩) rfl rfl (by decide) (by decide) rfl rfl rfl rfl rfl rfl (by decide) rfl rfl rfl ?_
  refine w_p h_m293 1 (pc' := 1) (L' := [(0, .ref 11)]) (st' := [.ref 11]) rfl ?_
  refine w_gs H (pc' := 4) (L' := [(0, .ref 11)]) h_m293 (z_at.mk 3 rfl rfl) rfl (by decide) rfl rfl rfl rfl ?_
  refine w_lene H (x := (39 : Int32)) (pc' := 5) (L' := [(0, .ref 11)]) h_m293 (z_at.mk 1 rfl rfl) (by decide) rfl (by decide) rfl rfl rfl ?_
  refine w_p h_m293 1 (pc' := 6) (L' := [(0, .ref 11)]) (st' := [.ref 11, .int (39 : Int32)]) rfl ?_
  refine w_cv (H.te (by decide) rfl).1 (pc' := 9) (L' := [(0, .ref 11)]) (rest := [.int (39 : Int32)]) (Ps := []) (L0 := [(0, .ref 11)]) h_m293 (z_at.mk 3 rfl rfl) (Or.inl ⟨rfl, rfl⟩) rfl rfl (by decide) (by decide) rfl rfl rfl rfl rfl rfl (by decide) rfl rfl rfl ?_
  refine w_p h_m298 3 (pc' := 7) (L' := [(0, .ref 11)]) (st' := [.ref 11]) rfl ?_
  refine w_gs H (pc' := 10) (L' := [(0, .ref 11)]) h_m298 (z_at.mk 3 rfl rfl) rfl (by decide) rfl rfl rfl rfl ?_
  refine w_p h_m298 1 (pc' := 14) (L' := []) (st' := [.int (0 : Int32)]) rfl ?_
  refine w_ri h_m298 (z_at.mk 1 rfl rfl) rfl rfl ?_
  show z_W 996 293 9 [(0, .ref 11)] [.int (0 : Int32), .int (39 : Int32)] m _
  refine w_p h_m293 1 (pc' := 10) (L' := [(0, .ref 11)]) (st' := [.int (39 : Int32)]) rfl ?_
  refine w_ri h_m293 (z_at.mk 1 rfl rfl) rfl rfl ?_
  show z_W 997 218 31 [(0, .ref 143), (1, .ref 11), (2, .int (0 : Int32)), (3, .int (0 : Int32)), (4, .int (0 : Int32)), (5, .int (5 : Int32))] [.int (39 : Int32), .int (5 : Int32)] m _
  refine w_p h_m218 5 (pc' := 40) (L' := [(0, .ref 143), (1, .ref 11), (2, .int (0 : Int32)), (3, .int (0 : Int32)), (4, .int (0 : Int32)), (5, .int (5 : Int32))]) (st' := [.int (5 : Int32), .ref 11]) rfl ?_
  refine w_cv (H.te (by decide) rfl).1 (pc' := 43) (L' := [(0, .ref 143), (1, .ref 11), (2, .int (0 : Int32)), (3, .int (0 : Int32)), (4, .int (0 : Int32)), (5, .int (5 : Int32))]) (rest := []) (Ps := [.int (5 : Int32)]) (L0 := [(0, .ref 11), (1, .int (5 : Int32))]) h_m218 (z_at.mk 3 rfl rfl) (Or.inl ⟨rfl, rfl⟩) rfl rfl (by decide) (by decide) rfl rfl rfl rfl rfl rfl (by decide) rfl rfl rfl ?_
  refine w_p h_m294 1 (pc' := 1) (L' := [(0, .ref 11), (1, .int (5 : Int32))]) (st' := [.ref 11]) rfl ?_
  refine w_cv (H.te (by decide) rfl).1 (pc' := 4) (L' := [(0, .ref 11), (1, .int (5 : Int32))]) (rest := []) (Ps := []) (L0 := [(0, .ref 11)]) h_m294 (z_at.mk 3 rfl rfl) (Or.inl ⟨rfl, rfl⟩) rfl rfl (by decide) (by decide) rfl rfl rfl rfl rfl rfl (by decide) rfl rfl rfl ?_
  refine w_p h_m299 3 (pc' := 7) (L' := [(0, .ref 11)]) (st' := [.ref 11]) rfl ?_
  refine w_gs H (pc' := 10) (L' := [(0, .ref 11)]) h_m299 (z_at.mk 3 rfl rfl) rfl (by decide) rfl rfl rfl rfl ?_
  refine w_p h_m299 3 (pc' := 18) (L' := []) (st' := [.int (1 : Int32)]) rfl ?_
  refine w_ri h_m299 (z_at.mk 1 rfl rfl) rfl rfl ?_
  show z_W 996 294 4 [(0, .ref 11), (1, .int (5 : Int32))] [.int (1 : Int32)] m _
  refine w_p h_m294 2 (pc' := 8) (L' := [(0, .ref 11), (1, .int (5 : Int32))]) (st' := [.ref 11]) rfl ?_
  refine w_gs H (pc' := 11) (L' := [(0, .ref 11), (1, .int (5 : Int32))]) h_m294 (z_at.mk 3 rfl rfl) rfl (by decide) rfl rfl rfl rfl ?_
  refine w_p h_m294 1 (pc' := 12) (L' := [(0, .ref 11), (1, .int (5 : Int32))]) (st' := [.int (5 : Int32), .ref 29]) rfl ?_
  refine w_cs (As := [.ref 29, .int (5 : Int32)]) (rest := []) (j := 308) (L0 := [(0, .ref 29), (1, .int (5 : Int32))]) (pc' := 15) (L' := [(0, .ref 11), (1, .int (5 : Int32))]) h_m294 (z_at.mk 3 rfl rfl) (Or.inl ⟨rfl, rfl⟩) rfl rfl rfl rfl rfl ?_
  refine w_p h_m308 2 (pc' := 2) (L' := [(0, .ref 29), (1, .int (5 : Int32))]) (st' := [.ref 29, .int (5 : Int32)]) rfl ?_
  refine w_lene H (x := (39 : Int32)) (pc' := 3) (L' := [(0, .ref 29), (1, .int (5 : Int32))]) h_m308 (z_at.mk 1 rfl rfl) (by decide) rfl (by decide) rfl rfl rfl ?_
  refine w_ci (pc' := 6) (L' := [(0, .ref 29), (1, .int (5 : Int32))]) h_m308 (z_at.mk 3 rfl rfl) rfl (z_cat_le 0 rfl (by decide)) ⟨by decide, by decide⟩ rfl rfl ?_
  refine w_p h_m308 2 (pc' := 8) (L' := [(0, .ref 29), (1, .int (5 : Int32))]) (st' := [.int (5 : Int32), .ref 29]) rfl ?_
  refine w_ae H (j := 5) (pc' := 9) (L' := [(0, .ref 29), (1, .int (5 : Int32))]) h_m308 (z_at.mk 1 rfl rfl) rfl rfl rfl (by decide) rfl (by decide) rfl rfl rfl ?_
  refine w_p h_m308 3 (pc' := 14) (L' := [(0, .ref 29), (1, .int (5 : Int32))]) (st' := [.int (32 : Int32)]) rfl ?_
  refine w_ri h_m308 (z_at.mk 1 rfl rfl) rfl rfl ?_
  show z_W 996 294 15 [(0, .ref 11), (1, .int (5 : Int32))] [.int (32 : Int32)] m _
  refine w_ri h_m294 (z_at.mk 1 rfl rfl) rfl rfl ?_
  show z_W 997 218 43 [(0, .ref 143), (1, .ref 11), (2, .int (0 : Int32)), (3, .int (0 : Int32)), (4, .int (0 : Int32)), (5, .int (5 : Int32))] [.int (32 : Int32)] m _
  refine w_p h_m218 5 (pc' := 58) (L' := [(0, .ref 143), (1, .ref 11), (2, .int (0 : Int32)), (3, .int (0 : Int32)), (4, .int (0 : Int32)), (5, .int (5 : Int32))]) (st' := [.ref 143, .int (0 : Int32), .int (5 : Int32)]) rfl ?_
  refine w_gf H (pc' := 61) (L' := [(0, .ref 143), (1, .ref 11), (2, .int (0 : Int32)), (3, .int (0 : Int32)), (4, .int (0 : Int32)), (5, .int (5 : Int32))]) h_m218 (z_at.mk 3 rfl rfl) rfl (u := .int (0 : Int32)) rfl rfl rfl ?_
  refine w_p h_m218 23 (pc' := 13) (L' := [(0, .ref 143), (1, .ref 11), (2, .int (0 : Int32)), (3, .int (1 : Int32)), (4, .int (6 : Int32))]) (st' := [.ref 11, .int (6 : Int32)]) rfl ?_
  refine w_cv (H.te (by decide) rfl).1 (pc' := 16) (L' := [(0, .ref 143), (1, .ref 11), (2, .int (0 : Int32)), (3, .int (1 : Int32)), (4, .int (6 : Int32))]) (rest := [.int (6 : Int32)]) (Ps := []) (L0 := [(0, .ref 11)]) h_m218 (z_at.mk 3 rfl rfl) (Or.inl ⟨rfl, rfl⟩) rfl rfl (by decide) (by decide) rfl rfl rfl rfl rfl rfl (by decide) rfl rfl rfl ?_
  refine w_p h_m293 1 (pc' := 1) (L' := [(0, .ref 11)]) (st' := [.ref 11]) rfl ?_
  refine w_gs H (pc' := 4) (L' := [(0, .ref 11)]) h_m293 (z_at.mk 3 rfl rfl) rfl (by decide) rfl rfl rfl rfl ?_
  refine w_lene H (x := (39 : Int32)) (pc' := 5) (L' := [(0, .ref 11)]) h_m293 (z_at.mk 1 rfl rfl) (by decide) rfl (by decide) rfl rfl rfl ?_
  refine w_p h_m293 1 (pc' := 6) (L' := [(0, .ref 11)]) (st' := [.ref 11, .int (39 : Int32)]) rfl ?_
  refine w_cv (H.te (by decide) rfl).1 (pc' := 9) (L' := [(0, .ref 11)]) (rest := [.int (39 : Int32)]) (Ps := []) (L0 := [(0, .ref 11)]) h_m293 (z_at.mk 3 rfl rfl) (Or.inl ⟨rfl, rfl⟩) rfl rfl (by decide) (by decide) rfl rfl rfl rfl rfl rfl (by decide) rfl rfl rfl ?_
  refine w_p h_m298 3 (pc' := 7) (L' := [(0, .ref 11)]) (st' := [.ref 11]) rfl ?_
  refine w_gs H (pc' := 10) (L' := [(0, .ref 11)]) h_m298 (z_at.mk 3 rfl rfl) rfl (by decide) rfl rfl rfl rfl ?_
  refine w_p h_m298 1 (pc' := 14) (L' := []) (st' := [.int (0 : Int32)]) rfl ?_
  refine w_ri h_m298 (z_at.mk 1 rfl rfl) rfl rfl ?_
  show z_W 996 293 9 [(0, .ref 11)] [.int (0 : Int32), .int (39 : Int32)] m _
  refine w_p h_m293 1 (pc' := 10) (L' := [(0, .ref 11)]) (st' := [.int (39 : Int32)]) rfl ?_
  refine w_ri h_m293 (z_at.mk 1 rfl rfl) rfl rfl ?_
  show z_W 997 218 16 [(0, .ref 143), (1, .ref 11), (2, .int (0 : Int32)), (3, .int (1 : Int32)), (4, .int (6 : Int32))] [.int (39 : Int32), .int (6 : Int32)] m _
  refine w_p h_m218 7 (pc' := 28) (L' := [(0, .ref 143), (1, .ref 11), (2, .int (0 : Int32)), (3, .int (1 : Int32)), (4, .int (6 : Int32)), (5, .int (0 : Int32))]) (st' := [.ref 11, .int (6 : Int32)]) rfl ?_
  refine w_cv (H.te (by decide) rfl).1 (pc' := 31) (L' := [(0, .ref 143), (1, .ref 11), (2, .int (0 : Int32)), (3, .int (1 : Int32)), (4, .int (6 : Int32)), (5, .int (0 : Int32))]) (rest := [.int (6 : Int32)]) (Ps := []) (L0 := [(0, .ref 11)]) h_m218 (z_at.mk 3 rfl rfl) (Or.inl ⟨rfl, rfl⟩) rfl rfl (by decide) (by decide) rfl rfl rfl rfl rfl rfl (by decide) rfl rfl rfl ?_
  refine w_p h_m293 1 (pc' := 1) (L' := [(0, .ref 11)]) (st' := [.ref 11]) rfl ?_
  refine w_gs H (pc' := 4) (L' := [(0, .ref 11)]) h_m293 (z_at.mk 3 rfl rfl) rfl (by decide) rfl rfl rfl rfl ?_
  refine w_lene H (x := (39 : Int32)) (pc' := 5) (L' := [(0, .ref 11)]) h_m293 (z_at.mk 1 rfl rfl) (by decide) rfl (by decide) rfl rfl rfl ?_
  refine w_p h_m293 1 (pc' := 6) (L' := [(0, .ref 11)]) (st' := [.ref 11, .int (39 : Int32)]) rfl ?_
  refine w_cv (H.te (by decide) rfl).1 (pc' := 9) (L' := [(0, .ref 11)]) (rest := [.int (39 : Int32)]) (Ps := []) (L0 := [(0, .ref 11)]) h_m293 (z_at.mk 3 rfl rfl) (Or.inl ⟨rfl, rfl⟩) rfl rfl (by decide) (by decide) rfl rfl rfl rfl rfl rfl (by decide) rfl rfl rfl ?_
  refine w_p h_m298 3 (pc' := 7) (L' := [(0, .ref 11)]) (st' := [.ref 11]) rfl ?_
  refine w_gs H (pc' := 10) (L' := [(0, .ref 11)]) h_m298 (z_at.mk 3 rfl rfl) rfl (by decide) rfl rfl rfl rfl ?_
  refine w_p h_m298 1 (pc' := 14) (L' := []) (st' := [.int (0 : Int32)]) rfl ?_
  refine w_ri h_m298 (z_at.mk 1 rfl rfl) rfl rfl ?_
  show z_W 996 293 9 [(0, .ref 11)] [.int (0 : Int32), .int (39 : Int32)] m _
  refine w_p h_m293 1 (pc' := 10) (L' := [(0, .ref 11)]) (st' := [.int (39 : Int32)]) rfl ?_
  refine w_ri h_m293 (z_at.mk 1 rfl rfl) rfl rfl ?_
  show z_W 997 218 31 [(0, .ref 143), (1, .ref 11), (2, .int (0 : Int32)), (3, .int (1 : Int32)), (4, .int (6 : Int32)), (5, .int (0 : Int32))] [.int (39 : Int32), .int (6 : Int32)] m _
  refine w_p h_m218 5 (pc' := 40) (L' := [(0, .ref 143), (1, .ref 11), (2, .int (0 : Int32)), (3, .int (1 : Int32)), (4, .int (6 : Int32)), (5, .int (0 : Int32))]) (st' := [.int (6 : Int32), .ref 11]) rfl ?_
  refine w_cv (H.te (by decide) rfl).1 (pc' := 43) (L' := [(0, .ref 143), (1, .ref 11), (2, .int (0 : Int32)), (3, .int (1 : Int32)), (4, .int (6 : Int32)), (5, .int (0 : Int32))]) (rest := []) (Ps := [.int (6 : Int32)]) (L0 := [(0, .ref 11), (1, .int (6 : Int32))]) h_m218 (z_at.mk 3 rfl rfl) (Or.inl ⟨rfl, rfl⟩) rfl rfl (by decide) (by decide) rfl rfl rfl rfl rfl rfl (by decide) rfl rfl rfl ?_
  refine w_p h_m294 1 (pc' := 1) (L' := [(0, .ref 11), (1, .int (6 : Int32))]) (st' := [.ref 11]) rfl ?_
  refine w_cv (H.te (by decide) rfl).1 (pc' := 4) (L' := [(0, .ref 11), (1, .int (6 : Int32))]) (rest := []) (Ps := []) (L0 := [(0, .ref 11)]) h_m294 (z_at.mk 3 rfl rfl) (Or.inl ⟨rfl, rfl⟩) rfl rfl (by decide) (by decide) rfl rfl rfl rfl rfl rfl (by decide) rfl rfl rfl ?_
  refine w_p h_m299 3 (pc' := 7) (L' := [(0, .ref 11)]) (st' := [.ref 11]) rfl ?_
  refine w_gs H (pc' := 10) (L' := [(0, .ref 11)]) h_m299 (z_at.mk 3 rfl rfl) rfl (by decide) rfl rfl rfl rfl ?_
  refine w_p h_m299 3 (pc' := 18) (L' := []) (st' := [.int (1 : Int32)]) rfl ?_
  refine w_ri h_m299 (z_at.mk 1 rfl rfl) rfl rfl ?_
  show z_W 996 294 4 [(0, .ref 11), (1, .int (6 : Int32))] [.int (1 : Int32)] m _
  refine w_p h_m294 2 (pc' := 8) (L' := [(0, .ref 11), (1, .int (6 : Int32))]) (st' := [.ref 11]) rfl ?_
  refine w_gs H (pc' := 11) (L' := [(0, .ref 11), (1, .int (6 : Int32))]) h_m294 (z_at.mk 3 rfl rfl) rfl (by decide) rfl rfl rfl rfl ?_
  refine w_p h_m294 1 (pc' := 12) (L' := [(0, .ref 11), (1, .int (6 : Int32))]) (st' := [.int (6 : Int32), .ref 29]) rfl ?_
  refine w_cs (As := [.ref 29, .int (6 : Int32)]) (rest := []) (j := 308) (L0 := [(0, .ref 29), (1, .int (6 : Int32))]) (pc' := 15) (L' := [(0, .ref 11), (1, .int (6 : Int32))]) h_m294 (z_at.mk 3 rfl rfl) (Or.inl ⟨rfl, rfl⟩) rfl rfl rfl rfl rfl ?_
  refine w_p h_m308 2 (pc' := 2) (L' := [(0, .ref 29), (1, .int (6 : Int32))]) (st' := [.ref 29, .int (6 : Int32)]) rfl ?_
  refine w_lene H (x := (39 : Int32)) (pc' := 3) (L' := [(0, .ref 29), (1, .int (6 : Int32))]) h_m308 (z_at.mk 1 rfl rfl) (by decide) rfl (by decide) rfl rfl rfl ?_
  refine w_ci (pc' := 6) (L' := [(0, .ref 29), (1, .int (6 : Int32))]) h_m308 (z_at.mk 3 rfl rfl) rfl (z_cat_le 0 rfl (by decide)) ⟨by decide, by decide⟩ rfl rfl ?_
  refine w_p h_m308 2 (pc' := 8) (L' := [(0, .ref 29), (1, .int (6 : Int32))]) (st' := [.int (6 : Int32), .ref 29]) rfl ?_
  refine w_ae H (j := 6) (pc' := 9) (L' := [(0, .ref 29), (1, .int (6 : Int32))]) h_m308 (z_at.mk 1 rfl rfl) rfl rfl rfl (by decide) rfl (by decide) rfl rfl rfl ?_
  refine w_p h_m308 3 (pc' := 14) (L' := [(0, .ref 29), (1, .int (6 : Int32))]) (st' := [.int (114 : Int32)]) rfl ?_
  refine w_ri h_m308 (z_at.mk 1 rfl rfl) rfl rfl ?_
  show z_W 996 294 15 [(0, .ref 11), (1, .int (6 : Int32))] [.int (114 : Int32)] m _
  refine w_ri h_m294 (z_at.mk 1 rfl rfl) rfl rfl ?_
  show z_W 997 218 43 [(0, .ref 143), (1, .ref 11), (2, .int (0 : Int32)), (3, .int (1 : Int32)), (4, .int (6 : Int32)), (5, .int (0 : Int32))] [.int (114 : Int32)] m _
  refine w_p h_m218 8 (pc' := 28) (L' := [(0, .ref 143), (1, .ref 11), (2, .int (0 : Int32)), (3, .int (1 : Int32)), (4, .int (6 : Int32)), (5, .int (1 : Int32))]) (st' := [.ref 11, .int (7 : Int32)]) rfl ?_
  refine w_cv (H.te (by decide) rfl).1 (pc' := 31) (L' := [(0, .ref 143), (1, .ref 11), (2, .int (0 : Int32)), (3, .int (1 : Int32)), (4, .int (6 : Int32)), (5, .int (1 : Int32))]) (rest := [.int (7 : Int32)]) (Ps := []) (L0 := [(0, .ref 11)]) h_m218 (z_at.mk 3 rfl rfl) (Or.inl ⟨rfl, rfl⟩) rfl rfl (by decide) (by decide) rfl rfl rfl rfl rfl rfl (by decide) rfl rfl rfl ?_
  refine w_p h_m293 1 (pc' := 1) (L' := [(0, .ref 11)]) (st' := [.ref 11]) rfl ?_
  refine w_gs H (pc' := 4) (L' := [(0, .ref 11)]) h_m293 (z_at.mk 3 rfl rfl) rfl (by decide) rfl rfl rfl rfl ?_
  refine w_lene H (x := (39 : Int32)) (pc' := 5) (L' := [(0, .ref 11)]) h_m293 (z_at.mk 1 rfl rfl) (by decide) rfl (by decide) rfl rfl rfl ?_
  refine w_p h_m293 1 (pc' := 6) (L' := [(0, .ref 11)]) (st' := [.ref 11, .int (39 : Int32)]) rfl ?_
  refine w_cv (H.te (by decide) rfl).1 (pc' := 9) (L' := [(0, .ref 11)]) (rest := [.int (39 : Int32)]) (Ps := []) (L0 := [(0, .ref 11)]) h_m293 (z_at.mk 3 rfl rfl) (Or.inl ⟨rfl, rfl⟩) rfl rfl (by decide) (by decide) rfl rfl rfl rfl rfl rfl (by decide) rfl rfl rfl ?_
  refine w_p h_m298 3 (pc' := 7) (L' := [(0, .ref 11)]) (st' := [.ref 11]) rfl ?_
  refine w_gs H (pc' := 10) (L' := [(0, .ref 11)]) h_m298 (z_at.mk 3 rfl rfl) rfl (by decide) rfl rfl rfl rfl ?_
  refine w_p h_m298 1 (pc' := 14) (L' := []) (st' := [.int (0 : Int32)]) rfl ?_
  refine w_ri h_m298 (z_at.mk 1 rfl rfl) rfl rfl ?_
  show z_W 996 293 9 [(0, .ref 11)] [.int (0 : Int32), .int (39 : Int32)] m _
  refine w_p h_m293 1 (pc' := 10) (L' := [(0, .ref 11)]) (st' := [.int (39 : Int32)]) rfl ?_
  refine w_ri h_m293 (z_at.mk 1 rfl rfl) rfl rfl ?_
  show z_W 997 218 31 [(0, .ref 143), (1, .ref 11), (2, .int (0 : Int32)), (3, .int (1 : Int32)), (4, .int (6 : Int32)), (5, .int (1 : Int32))] [.int (39 : Int32), .int (7 : Int32)] m _
  refine w_p h_m218 5 (pc' := 40) (L' := [(0, .ref 143), (1, .ref 11), (2, .int (0 : Int32)), (3, .int (1 : Int32)), (4, .int (6 : Int32)), (5, .int (1 : Int32))]) (st' := [.int (7 : Int32), .ref 11]) rfl ?_
  refine w_cv (H.te (by decide) rfl).1 (pc' := 43) (L' := [(0, .ref 143), (1, .ref 11), (2, .int (0 : Int32)), (3, .int (1 : Int32)), (4, .int (6 : Int32)), (5, .int (1 : Int32))]) (rest := []) (Ps := [.int (7 : Int32)]) (L0 := [(0, .ref 11), (1, .int (7 : Int32))]) h_m218 (z_at.mk 3 rfl rfl) (Or.inl ⟨rfl, rfl⟩) rfl rfl (by decide) (by decide) rfl rfl rfl rfl rfl rfl (by decide) rfl rfl rfl ?_
  refine w_p h_m294 1 (pc' := 1) (L' := [(0, .ref 11), (1, .int (7 : Int32))]) (st' := [.ref 11]) rfl ?_
  refine w_cv (H.te (by decide) rfl).1 (pc' := 4) (L' := [(0, .ref 11), (1, .int (7 : Int32))]) (rest := []) (Ps := []) (L0 := [(0, .ref 11)]) h_m294 (z_at.mk 3 rfl rfl) (Or.inl ⟨rfl, rfl⟩) rfl rfl (by decide) (by decide) rfl rfl rfl rfl rfl rfl (by decide) rfl rfl rfl ?_
  refine w_p h_m299 3 (pc' := 7) (L' := [(0, .ref 11)]) (st' := [.ref 11]) rfl ?_
  refine w_gs H (pc' := 10) (L' := [(0, .ref 11)]) h_m299 (z_at.mk 3 rfl rfl) rfl (by decide) rfl rfl rfl rfl ?_
  refine w_p h_m299 3 (pc' := 18) (L' := []) (st' := [.int (1 : Int32)]) rfl ?_
  refine w_ri h_m299 (z_at.mk 1 rfl rfl) rfl rfl ?_
  show z_W 996 294 4 [(0, .ref 11), (1, .int (7 : Int32))] [.int (1 : Int32)] m _
  refine w_p h_m294 2 (pc' := 8) (L' := [(0, .ref 11), (1, .int (7 : Int32))]) (st' := [.ref 11]) rfl ?_
  refine w_gs H (pc' := 11) (L' := [(0, .ref 11), (1, .int (7 : Int32))]) h_m294 (z_at.mk 3 rfl rfl) rfl (by decide) rfl rfl rfl rfl ?_
  refine w_p h_m294 1 (pc' := 12) (L' := [(0, .ref 11), (1, .int (7 : Int32))]) (st' := [.int (7 : Int32), .ref 29]) rfl ?_
  refine w_cs (As := [.ref 29, .int (7 : Int32)]) (rest := []) (j := 308) (L0 := [(0, .ref 29), (1, .int (7 : Int32))]) (pc' := 15) (L' := [(0, .ref 11), (1, .int (7 : Int32))]) h_m294 (z_at.mk 3 rfl rfl) (Or.inl ⟨rfl, rfl⟩) rfl rfl rfl rfl rfl ?_
  refine w_p h_m308 2 (pc' := 2) (L' := [(0, .ref 29), (1, .int (7 : Int32))]) (st' := [.ref 29, .int (7 : Int32)]) rfl ?_
  refine w_lene H (x := (39 : Int32)) (pc' := 3) (L' := [(0, .ref 29), (1, .int (7 : Int32))]) h_m308 (z_at.mk 1 rfl rfl) (by decide) rfl (by decide) rfl rfl rfl ?_
  refine w_ci (pc' := 6) (L' := [(0, .ref 29), (1, .int (7 : Int32))]) h_m308 (z_at.mk 3 rfl rfl) rfl (z_cat_le 0 rfl (by decide)) ⟨by decide, by decide⟩ rfl rfl ?_
  refine w_p h_m308 2 (pc' := 8) (L' := [(0, .ref 29), (1, .int (7 : Int32))]) (st' := [.int (7 : Int32), .ref 29]) rfl ?_
  refine w_ae H (j := 7) (pc' := 9) (L' := [(0, .ref 29), (1, .int (7 : Int32))]) h_m308 (z_at.mk 1 rfl rfl) rfl rfl rfl (by decide) rfl (by decide) rfl rfl rfl ?_
  refine w_p h_m308 3 (pc' := 14) (L' := [(0, .ref 29), (1, .int (7 : Int32))]) (st' := [.int (111 : Int32)]) rfl ?_
  refine w_ri h_m308 (z_at.mk 1 rfl rfl) rfl rfl ?_
  show z_W 996 294 15 [(0, .ref 11), (1, .int (7 : Int32))] [.int (111 : Int32)] m _
  refine w_ri h_m294 (z_at.mk 1 rfl rfl) rfl rfl ?_
  show z_W 997 218 43 [(0, .ref 143), (1, .ref 11), (2, .int (0 : Int32)), (3, .int (1 : Int32)), (4, .int (6 : Int32)), (5, .int (1 : Int32))] [.int (111 : Int32)] m _
  refine w_p h_m218 8 (pc' := 28) (L' := [(0, .ref 143), (1, .ref 11), (2, .int (0 : Int32)), (3, .int (1 : Int32)), (4, .int (6 : Int32)), (5, .int (2 : Int32))]) (st' := [.ref 11, .int (8 : Int32)]) rfl ?_
  refine w_cv (H.te (by decide) rfl).1 (pc' := 31) (L' := [(0, .ref 143), (1, .ref 11), (2, .int (0 : Int32)), (3, .int (1 : Int32)), (4, .int (6 : Int32)), (5, .int (2 : Int32))]) (rest := [.int (8 : Int32)]) (Ps := []) (L0 := [(0, .ref 11)]) h_m218 (z_at.mk 3 rfl rfl) (Or.inl ⟨rfl, rfl⟩) rfl rfl (by decide) (by decide) rfl rfl rfl rfl rfl rfl (by decide) rfl rfl rfl ?_
  refine w_p h_m293 1 (pc' := 1) (L' := [(0, .ref 11)]) (st' := [.ref 11]) rfl ?_
  refine w_gs H (pc' := 4) (L' := [(0, .ref 11)]) h_m293 (z_at.mk 3 rfl rfl) rfl (by decide) rfl rfl rfl rfl ?_
  refine w_lene H (x := (39 : Int32)) (pc' := 5) (L' := [(0, .ref 11)]) h_m293 (z_at.mk 1 rfl rfl) (by decide) rfl (by decide) rfl rfl rfl ?_
  refine w_p h_m293 1 (pc' := 6) (L' := [(0, .ref 11)]) (st' := [.ref 11, .int (39 : Int32)]) rfl ?_
  refine w_cv (H.te (by decide) rfl).1 (pc' := 9) (L' := [(0, .ref 11)]) (rest := [.int (39 : Int32)]) (Ps := []) (L0 := [(0, .ref 11)]) h_m293 (z_at.mk 3 rfl rfl) (Or.inl ⟨rfl, rfl⟩) rfl rfl (by decide) (by decide) rfl rfl rfl rfl rfl rfl (by decide) rfl rfl rfl ?_
  refine w_p h_m298 3 (pc' := 7) (L' := [(0, .ref 11)]) (st' := [.ref 11]) rfl ?_
  refine w_gs H (pc' := 10) (L' := [(0, .ref 11)]) h_m298 (z_at.mk 3 rfl rfl) rfl (by decide) rfl rfl rfl rfl ?_
  refine w_p h_m298 1 (pc' := 14) (L' := []) (st' := [.int (0 : Int32)]) rfl ?_
  refine w_ri h_m298 (z_at.mk 1 rfl rfl) rfl rfl ?_
  show z_W 996 293 9 [(0, .ref 11)] [.int (0 : Int32), .int (39 : Int32)] m _
  refine w_p h_m293 1 (pc' := 10) (L' := [(0, .ref 11)]) (st' := [.int (39 : Int32)]) rfl ?_
  refine w_ri h_m293 (z_at.mk 1 rfl rfl) rfl rfl ?_
  show z_W 997 218 31 [(0, .ref 143), (1, .ref 11), (2, .int (0 : Int32)), (3, .int (1 : Int32)), (4, .int (6 : Int32)), (5, .int (2 : Int32))] [.int (39 : Int32), .int (8 : Int32)] m _
  refine w_p h_m218 5 (pc' := 40) (L' := [(0, .ref 143), (1, .ref 11), (2, .int (0 : Int32)), (3, .int (1 : Int32)), (4, .int (6 : Int32)), (5, .int (2 : Int32))]) (st' := [.int (8 : Int32), .ref 11]) rfl ?_
  refine w_cv (H.te (by decide) rfl).1 (pc' := 43) (L' := [(0, .ref 143), (1, .ref 11), (2, .int (0 : Int32)), (3, .int (1 : Int32)), (4, .int (6 : Int32)), (5, .int (2 : Int32))]) (rest := []) (Ps := [.int (8 : Int32)]) (L0 := [(0, .ref 11), (1, .int (8 : Int32))]) h_m218 (z_at.mk 3 rfl rfl) (Or.inl ⟨rfl, rfl⟩) rfl rfl (by decide) (by decide) rfl rfl rfl rfl rfl rfl (by decide) rfl rfl rfl ?_
  refine w_p h_m294 1 (pc' := 1) (L' := [(0, .ref 11), (1, .int (8 : Int32))]) (st' := [.ref 11]) rfl ?_
  refine w_cv (H.te (by decide) rfl).1 (pc' := 4) (L' := [(0, .ref 11), (1, .int (8 : Int32))]) (rest := []) (Ps := []) (L0 := [(0, .ref 11)]) h_m294 (z_at.mk 3 rfl rfl) (Or.inl ⟨rfl, rfl⟩) rfl rfl (by decide) (by decide) rfl rfl rfl rfl rfl rfl (by decide) rfl rfl rfl ?_
  refine w_p h_m299 3 (pc' := 7) (L' := [(0, .ref 11)]) (st' := [.ref 11]) rfl ?_
  refine w_gs H (pc' := 10) (L' := [(0, .ref 11)]) h_m299 (z_at.mk 3 rfl rfl) rfl (by decide) rfl rfl rfl rfl ?_
  refine w_p h_m299 3 (pc' := 18) (L' := []) (st' := [.int (1 : Int32)]) rfl ?_
  refine w_ri h_m299 (z_at.mk 1 rfl rfl) rfl rfl ?_
  show z_W 996 294 4 [(0, .ref 11), (1, .int (8 : Int32))] [.int (1 : Int32)] m _
  refine w_p h_m294 2 (pc' := 8) (L' := [(0, .ref 11), (1, .int (8 : Int32))]) (st' := [.ref 11]) rfl ?_
  refine w_gs H (pc' := 11) (L' := [(0, .ref 11), (1, .int (8 : Int32))]) h_m294 (z_at.mk 3 rfl rfl) rfl (by decide) rfl rfl rfl rfl ?_
  refine w_p h_m294 1 (pc' := 12) (L' := [(0, .ref 11), (1, .int (8 : Int32))]) (st' := [.int (8 : Int32), .ref 29]) rfl ?_
  refine w_cs (As := [.ref 29, .int (8 : Int32)]) (rest := []) (j := 308) (L0 := [(0, .ref 29), (1, .int (8 : Int32))]) (pc' := 15) (L' := [(0, .ref 11), (1, .int (8 : Int32))]) h_m294 (z_at.mk 3 rfl rfl) (Or.inl ⟨rfl, rfl⟩) rfl rfl rfl rfl rfl ?_
  refine w_p h_m308 2 (pc' := 2) (L' := [(0, .ref 29), (1, .int (8 : Int32))]) (st' := [.ref 29, .int (8 : Int32)]) rfl ?_
  refine w_lene H (x := (39 : Int32)) (pc' := 3) (L' := [(0, .ref 29), (1, .int (8 : Int32))]) h_m308 (z_at.mk 1 rfl rfl) (by decide) rfl (by decide) rfl rfl rfl ?_
  refine w_ci (pc' := 6) (L' := [(0, .ref 29), (1, .int (8 : Int32))]) h_m308 (z_at.mk 3 rfl rfl) rfl (z_cat_le 0 rfl (by decide)) ⟨by decide, by decide⟩ rfl rfl ?_
  refine w_p h_m308 2 (pc' := 8) (L' := [(0, .ref 29), (1, .int (8 : Int32))]) (st' := [.int (8 : Int32), .ref 29]) rfl ?_
  refine w_ae H (j := 8) (pc' := 9) (L' := [(0, .ref 29), (1, .int (8 : Int32))]) h_m308 (z_at.mk 1 rfl rfl) rfl rfl rfl (by decide) rfl (by decide) rfl rfl rfl ?_
  refine w_p h_m308 3 (pc' := 14) (L' := [(0, .ref 29), (1, .int (8 : Int32))]) (st' := [.int (111 : Int32)]) rfl ?_
  refine w_ri h_m308 (z_at.mk 1 rfl rfl) rfl rfl ?_
  show z_W 996 294 15 [(0, .ref 11), (1, .int (8 : Int32))] [.int (111 : Int32)] m _
  refine w_ri h_m294 (z_at.mk 1 rfl rfl) rfl rfl ?_
  show z_W 997 218 43 [(0, .ref 143), (1, .ref 11), (2, .int (0 : Int32)), (3, .int (1 : Int32)), (4, .int (6 : Int32)), (5, .int (2 : Int32))] [.int (111 : Int32)] m _
  refine w_p h_m218 8 (pc' := 28) (L' := [(0, .ref 143), (1, .ref 11), (2, .int (0 : Int32)), (3, .int (1 : Int32)), (4, .int (6 : Int32)), (5, .int (3 : Int32))]) (st' := [.ref 11, .int (9 : Int32)]) rfl ?_
  refine w_cv (H.te (by decide) rfl).1 (pc' := 31) (L' := [(0, .ref 143), (1, .ref 11), (2, .int (0 : Int32)), (3, .int (1 : Int32)), (4, .int (6 : Int32)), (5, .int (3 : Int32))]) (rest := [.int (9 : Int32)]) (Ps := []) (L0 := [(0, .ref 11)]) h_m218 (z_at.mk 3 rfl rfl) (Or.inl ⟨rfl, rfl⟩) rfl rfl (by decide) (by decide) rfl rfl rfl rfl rfl rfl (by decide) rfl rfl rfl ?_
  refine w_p h_m293 1 (pc' := 1) (L' := [(0, .ref 11)]) (st' := [.ref 11]) rfl ?_
  refine w_gs H (pc' := 4) (L' := [(0, .ref 11)]) h_m293 (z_at.mk 3 rfl rfl) rfl (by decide) rfl rfl rfl rfl ?_
  refine w_lene H (x := (39 : Int32)) (pc' := 5) (L' := [(0, .ref 11)]) h_m293 (z_at.mk 1 rfl rfl) (by decide) rfl (by decide) rfl rfl rfl ?_
  refine w_p h_m293 1 (pc' := 6) (L' := [(0, .ref 11)]) (st' := [.ref 11, .int (39 : Int32)]) rfl ?_
  refine w_cv (H.te (by decide) rfl).1 (pc' := 9) (L' := [(0, .ref 11)]) (rest := [.int (39 : Int32)]) (Ps := []) (L0 := [(0, .ref 11)]) h_m293 (z_at.mk 3 rfl rfl) (Or.inl ⟨rfl, rfl⟩) rfl rfl (by decide) (by decide) rfl rfl rfl rfl rfl rfl (by decide) rfl rfl rfl ?_
  refine w_p h_m298 3 (pc' := 7) (L' := [(0, .ref 11)]) (st' := [.ref 11]) rfl ?_
  refine w_gs H (pc' := 10) (L' := [(0, .ref 11)]) h_m298 (z_at.mk 3 rfl rfl) rfl (by decide) rfl rfl rfl rfl ?_
  refine w_p h_m298 1 (pc' := 14) (L' := []) (st' := [.int (0 : Int32)]) rfl ?_
  refine w_ri h_m298 (z_at.mk 1 rfl rfl) rfl rfl ?_
  show z_W 996 293 9 [(0, .ref 11)] [.int (0 : Int32), .int (39 : Int32)] m _
  refine w_p h_m293 1 (pc' := 10) (L' := [(0, .ref 11)]) (st' := [.int (39 : Int32)]) rfl ?_
  refine w_ri h_m293 (z_at.mk 1 rfl rfl) rfl rfl ?_
  show z_W 997 218 31 [(0, .ref 143), (1, .ref 11), (2, .int (0 : Int32)), (3, .int (1 : Int32)), (4, .int (6 : Int32)), (5, .int (3 : Int32))] [.int (39 : Int32), .int (9 : Int32)] m _
  refine w_p h_m218 5 (pc' := 40) (L' := [(0, .ref 143), (1, .ref 11), (2, .int (0 : Int32)), (3, .int (1 : Int32)), (4, .int (6 : Int32)), (5, .int (3 : Int32))]) (st' := [.int (9 : Int32), .ref 11]) rfl ?_
  refine w_cv (H.te (by decide) rfl).1 (pc' := 43) (L' := [(0, .ref 143), (1, .ref 11), (2, .int (0 : Int32)), (3, .int (1 : Int32)), (4, .int (6 : Int32)), (5, .int (3 : Int32))]) (rest := []) (Ps := [.int (9 : Int32)]) (L0 := [(0, .ref 11), (1, .int (9 : Int32))]) h_m218 (z_at.mk 3 rfl rfl) (Or.inl ⟨rfl, rfl⟩) rfl rfl (by decide) (by decide) rfl rfl rfl rfl rfl rfl (by decide) rfl rfl rfl ?_
  refine w_p h_m294 1 (pc' := 1) (L' := [(0, .ref 11), (1, .int (9 : Int32))]) (st' := [.ref 11]) rfl ?_
  refine w_cv (H.te (by decide) rfl).1 (pc' := 4) (L' := [(0, .ref 11), (1, .int (9 : Int32))]) (rest := []) (Ps := []) (L0 := [(0, .ref 11)]) h_m294 (z_at.mk 3 rfl rfl) (Or.inl ⟨rfl, rfl⟩) rfl rfl (by decide) (by decide) rfl rfl rfl rfl rfl rfl (by decide) rfl rfl rfl ?_
  refine w_p h_m299 3 (pc' := 7) (L' := [(0, .ref 11)]) (st' := [.ref 11]) rfl ?_
  refine w_gs H (pc' := 10) (L' := [(0, .ref 11)]) h_m299 (z_at.mk 3 rfl rfl) rfl (by decide) rfl rfl rfl rfl ?_
  refine w_p h_m299 3 (pc' := 18) (L' := []) (st' := [.int (1 : Int32)]) rfl ?_
  refine w_ri h_m299 (z_at.mk 1 rfl rfl) rfl rfl ?_
  show z_W 996 294 4 [(0, .ref 11), (1, .int (9 : Int32))] [.int (1 : Int32)] m _
  refine w_p h_m294 2 (pc' := 8) (L' := [(0, .ref 11), (1, .int (9 : Int32))]) (st' := [.ref 11]) rfl ?_
  refine w_gs H (pc' := 11) (L' := [(0, .ref 11), (1, .int (9 : Int32))]) h_m294 (z_at.mk 3 rfl rfl) rfl (by decide) rfl rfl rfl rfl ?_
  refine w_p h_m294 1 (pc' := 12) (L' := [(0, .ref 11), (1, .int (9 : Int32))]) (st' := [.int (9 : Int32), .ref 29]) rfl ?_
  refine w_cs (As := [.ref 29, .int (9 : Int32)]) (rest := []) (j := 308) (L0 := [(0, .ref 29), (1, .int (9 : Int32))]) (pc' := 15) (L' := [(0, .ref 11), (1, .int (9 : Int32))]) h_m294 (z_at.mk 3 rfl rfl) (Or.inl ⟨rfl, rfl⟩) rfl rfl rfl rfl rfl ?_
  refine w_p h_m308 2 (pc' := 2) (L' := [(0, .ref 29), (1, .int (9 : Int32))]) (st' := [.ref 29, .int (9 : Int32)]) rfl ?_
  refine w_lene H (x := (39 : Int32)) (pc' := 3) (L' := [(0, .ref 29), (1, .int (9 : Int32))]) h_m308 (z_at.mk 1 rfl rfl) (by decide) rfl (by decide) rfl rfl rfl ?_
  refine w_ci (pc' := 6) (L' := [(0, .ref 29), (1, .int (9 : Int32))]) h_m308 (z_at.mk 3 rfl rfl) rfl (z_cat_le 0 rfl (by decide)) ⟨by decide, by decide⟩ rfl rfl ?_
  refine w_p h_m308 2 (pc' := 8) (L' := [(0, .ref 29), (1, .int (9 : Int32))]) (st' := [.int (9 : Int32), .ref 29]) rfl ?_
  refine w_ae H (j := 9) (pc' := 9) (L' := [(0, .ref 29), (1, .int (9 : Int32))]) h_m308 (z_at.mk 1 rfl rfl) rfl rfl rfl (by decide) rfl (by decide) rfl rfl rfl ?_
  refine w_p h_m308 3 (pc' := 14) (L' := [(0, .ref 29), (1, .int (9 : Int32))]) (st' := [.int (109 : Int32)]) rfl ?_
  refine w_ri h_m308 (z_at.mk 1 rfl rfl) rfl rfl ?_
  show z_W 996 294 15 [(0, .ref 11), (1, .int (9 : Int32))] [.int (109 : Int32)] m _
  refine w_ri h_m294 (z_at.mk 1 rfl rfl) rfl rfl ?_
  show z_W 997 218 43 [(0, .ref 143), (1, .ref 11), (2, .int (0 : Int32)), (3, .int (1 : Int32)), (4, .int (6 : Int32)), (5, .int (3 : Int32))] [.int (109 : Int32)] m _
  refine w_p h_m218 8 (pc' := 28) (L' := [(0, .ref 143), (1, .ref 11), (2, .int (0 : Int32)), (3, .int (1 : Int32)), (4, .int (6 : Int32)), (5, .int (4 : Int32))]) (st' := [.ref 11, .int (10 : Int32)]) rfl ?_
  refine w_cv (H.te (by decide) rfl).1 (pc' := 31) (L' := [(0, .ref 143), (1, .ref 11), (2, .int (0 : Int32)), (3, .int (1 : Int32)), (4, .int (6 : Int32)), (5, .int (4 : Int32))]) (rest := [.int (10 : Int32)]) (Ps := []) (L0 := [(0, .ref 11)]) h_m218 (z_at.mk 3 rfl rfl) (Or.inl ⟨rfl, rfl⟩) rfl rfl (by decide) (by decide) rfl rfl rfl rfl rfl rfl (by decide) rfl rfl rfl ?_
  refine w_p h_m293 1 (pc' := 1) (L' := [(0, .ref 11)]) (st' := [.ref 11]) rfl ?_
  refine w_gs H (pc' := 4) (L' := [(0, .ref 11)]) h_m293 (z_at.mk 3 rfl rfl) rfl (by decide) rfl rfl rfl rfl ?_
  refine w_lene H (x := (39 : Int32)) (pc' := 5) (L' := [(0, .ref 11)]) h_m293 (z_at.mk 1 rfl rfl) (by decide) rfl (by decide) rfl rfl rfl ?_
  refine w_p h_m293 1 (pc' := 6) (L' := [(0, .ref 11)]) (st' := [.ref 11, .int (39 : Int32)]) rfl ?_
  refine w_cv (H.te (by decide) rfl).1 (pc' := 9) (L' := [(0, .ref 11)]) (rest := [.int (39 : Int32)]) (Ps := []) (L0 := [(0, .ref 11)]) h_m293 (z_at.mk 3 rfl rfl) (Or.inl ⟨rfl, rfl⟩) rfl rfl (by decide) (by decide) rfl rfl rfl rfl rfl rfl (by decide) rfl rfl rfl ?_
  refine w_p h_m298 3 (pc' := 7) (L' := [(0, .ref 11)]) (st' := [.ref 11]) rfl ?_
  refine w_gs H (pc' := 10) (L' := [(0, .ref 11)]) h_m298 (z_at.mk 3 rfl rfl) rfl (by decide) rfl rfl rfl rfl ?_
  refine w_p h_m298 1 (pc' := 14) (L' := []) (st' := [.int (0 : Int32)]) rfl ?_
  refine w_ri h_m298 (z_at.mk 1 rfl rfl) rfl rfl ?_
  show z_W 996 293 9 [(0, .ref 11)] [.int (0 : Int32), .int (39 : Int32)] m _
  refine w_p h_m293 1 (pc' := 10) (L' := [(0, .ref 11)]) (st' := [.int (39 : Int32)]) rfl ?_
  refine w_ri h_m293 (z_at.mk 1 rfl rfl) rfl rfl ?_
  show z_W 997 218 31 [(0, .ref 143), (1, .ref 11), (2, .int (0 : Int32)), (3, .int (1 : Int32)), (4, .int (6 : Int32)), (5, .int (4 : Int32))] [.int (39 : Int32), .int (10 : Int32)] m _
  refine w_p h_m218 5 (pc' := 40) (L' := [(0, .ref 143), (1, .ref 11), (2, .int (0 : Int32)), (3, .int (1 : Int32)), (4, .int (6 : Int32)), (5, .int (4 : Int32))]) (st' := [.int (10 : Int32), .ref 11]) rfl ?_
  refine w_cv (H.te (by decide) rfl).1 (pc' := 43) (L' := [(0, .ref 143), (1, .ref 11), (2, .int (0 : Int32)), (3, .int (1 : Int32)), (4, .int (6 : Int32)), (5, .int (4 : Int32))]) (rest := []) (Ps := [.int (10 : Int32)]) (L0 := [(0, .ref 11), (1, .int (10 : Int32))]) h_m218 (z_at.mk 3 rfl rfl) (Or.inl ⟨rfl, rfl⟩) rfl rfl (by decide) (by decide) rfl rfl rfl rfl rfl rfl (by decide) rfl rfl rfl ?_
  refine w_p h_m294 1 (pc' := 1) (L' := [(0, .ref 11), (1, .int (10 : Int32))]) (st' := [.ref 11]) rfl ?_
  refine w_cv (H.te (by decide) rfl).1 (pc' := 4) (L' := [(0, .ref 11), (1, .int (10 : Int32))]) (rest := []) (Ps := []) (L0 := [(0, .ref 11)]) h_m294 (z_at.mk 3 rfl rfl) (Or.inl ⟨rfl, rfl⟩) rfl rfl (by decide) (by decide) rfl rfl rfl rfl rfl rfl (by decide) rfl rfl rfl ?_
  refine w_p h_m299 3 (pc' := 7) (L' := [(0, .ref 11)]) (st' := [.ref 11]) rfl ?_
  refine w_gs H (pc' := 10) (L' := [(0, .ref 11)]) h_m299 (z_at.mk 3 rfl rfl) rfl (by decide) rfl rfl rfl rfl ?_
  refine w_p h_m299 3 (pc' := 18) (L' := []) (st' := [.int (1 : Int32)]) rfl ?_
  refine w_ri h_m299 (z_at.mk 1 rfl rfl) rfl rfl ?_
  show z_W 996 294 4 [(0, .ref 11), (1, .int (10 : Int32))] [.int (1 : Int32)] m _
  refine w_p h_m294 2 (pc' := 8) (L' := [(0, .ref 11), (1, .int (10 : Int32))]) (st' := [.ref 11]) rfl ?_
  refine w_gs H (pc' := 11) (L' := [(0, .ref 11), (1, .int (10 : Int32))]) h_m294 (z_at.mk 3 rfl rfl) rfl (by decide) rfl rfl rfl rfl ?_
  refine w_p h_m294 1 (pc' := 12) (L' := [(0, .ref 11), (1, .int (10 : Int32))]) (st' := [.int (10 : Int32), .ref 29]) rfl ?_
  refine w_cs (As := [.ref 29, .int (10 : Int32)]) (rest := []) (j := 308) (L0 := [(0, .ref 29), (1, .int (10 : Int32))]) (pc' := 15) (L' := [(0, .ref 11), (1, .int (10 : Int32))]) h_m294 (z_at.mk 3 rfl rfl) (Or.inl ⟨rfl, rfl⟩) rfl rfl rfl rfl rfl ?_
  refine w_p h_m308 2 (pc' := 2) (L' := [(0, .ref 29), (1, .int (10 : Int32))]) (st' := [.ref 29, .int (10 : Int32)]) rfl ?_
  refine w_lene H (x := (39 : Int32)) (pc' := 3) (L' := [(0, .ref 29), (1, .int (10 : Int32))]) h_m308 (z_at.mk 1 rfl rfl) (by decide) rfl (by decide) rfl rfl rfl ?_
  refine w_ci (pc' := 6) (L' := [(0, .ref 29), (1, .int (10 : Int32))]) h_m308 (z_at.mk 3 rfl rfl) rfl (z_cat_le 0 rfl (by decide)) ⟨by decide, by decide⟩ rfl rfl ?_
  refine w_p h_m308 2 (pc' := 8) (L' := [(0, .ref 29), (1, .int (10 : Int32))]) (st' := [.int (10 : Int32), .ref 29]) rfl ?_
  refine w_ae H (j := 10) (pc' := 9) (L' := [(0, .ref 29), (1, .int (10 : Int32))]) h_m308 (z_at.mk 1 rfl rfl) rfl rfl rfl (by decide) rfl (by decide) rfl rfl rfl ?_
  refine w_p h_m308 3 (pc' := 14) (L' := [(0, .ref 29), (1, .int (10 : Int32))]) (st' := [.int (32 : Int32)]) rfl ?_
  refine w_ri h_m308 (z_at.mk 1 rfl rfl) rfl rfl ?_
  show z_W 996 294 15 [(0, .ref 11), (1, .int (10 : Int32))] [.int (32 : Int32)] m _
  refine w_ri h_m294 (z_at.mk 1 rfl rfl) rfl rfl ?_
  show z_W 997 218 43 [(0, .ref 143), (1, .ref 11), (2, .int (0 : Int32)), (3, .int (1 : Int32)), (4, .int (6 : Int32)), (5, .int (4 : Int32))] [.int (32 : Int32)] m _
  refine w_p h_m218 5 (pc' := 58) (L' := [(0, .ref 143), (1, .ref 11), (2, .int (0 : Int32)), (3, .int (1 : Int32)), (4, .int (6 : Int32)), (5, .int (4 : Int32))]) (st' := [.ref 143, .int (0 : Int32), .int (4 : Int32)]) rfl ?_
  refine w_gf H (pc' := 61) (L' := [(0, .ref 143), (1, .ref 11), (2, .int (0 : Int32)), (3, .int (1 : Int32)), (4, .int (6 : Int32)), (5, .int (4 : Int32))]) h_m218 (z_at.mk 3 rfl rfl) rfl (u := .int (0 : Int32)) rfl rfl rfl ?_
  refine w_p h_m218 23 (pc' := 13) (L' := [(0, .ref 143), (1, .ref 11), (2, .int (0 : Int32)), (3, .int (2 : Int32)), (4, .int (11 : Int32))]) (st' := [.ref 11, .int (11 : Int32)]) rfl ?_
  refine w_cv (H.te (by decide) rfl).1 (pc' := 16) (L' := [(0, .ref 143), (1, .ref 11), (2, .int (0 : Int32)), (3, .int (2 : Int32)), (4, .int (11 : Int32))]) (rest := [.int (11 : Int32)]) (Ps := []) (L0 := [(0, .ref 11)]) h_m218 (z_at.mk 3 rfl rfl) (Or.inl ⟨rfl, rfl⟩) rfl rfl (by decide) (by decide) rfl rfl rfl rfl rfl rfl (by decide) rfl rfl rfl ?_
  refine w_p h_m293 1 (pc' := 1) (L' := [(0, .ref 11)]) (st' := [.ref 11]) rfl ?_
  refine w_gs H (pc' := 4) (L' := [(0, .ref 11)]) h_m293 (z_at.mk 3 rfl rfl) rfl (by decide) rfl rfl rfl rfl ?_
  refine w_lene H (x := (39 : Int32)) (pc' := 5) (L' := [(0, .ref 11)]) h_m293 (z_at.mk 1 rfl rfl) (by decide) rfl (by decide) rfl rfl rfl ?_
  refine w_p h_m293 1 (pc' := 6) (L' := [(0, .ref 11)]) (st' := [.ref 11, .int (39 : Int32)]) rfl ?_
  refine w_cv (H.te (by decide) rfl).1 (pc' := 9) (L' := [(0, .ref 11)]) (rest := [.int (39 : Int32)]) (Ps := []) (L0 := [(0, .ref 11)]) h_m293 (z_at.mk 3 rfl rfl) (Or.inl ⟨rfl, rfl⟩) rfl rfl (by decide) (by decide) rfl rfl rfl rfl rfl rfl (by decide) rfl rfl rfl ?_
  refine w_p h_m298 3 (pc' := 7) (L' := [(0, .ref 11)]) (st' := [.ref 11]) rfl ?_
  refine w_gs H (pc' := 10) (L' := [(0, .ref 11)]) h_m298 (z_at.mk 3 rfl rfl) rfl (by decide) rfl rfl rfl rfl ?_
  refine w_p h_m298 1 (pc' := 14) (L' := []) (st' := [.int (0 : Int32)]) rfl ?_
  refine w_ri h_m298 (z_at.mk 1 rfl rfl) rfl rfl ?_
  show z_W 996 293 9 [(0, .ref 11)] [.int (0 : Int32), .int (39 : Int32)] m _
  refine w_p h_m293 1 (pc' := 10) (L' := [(0, .ref 11)]) (st' := [.int (39 : Int32)]) rfl ?_
  refine w_ri h_m293 (z_at.mk 1 rfl rfl) rfl rfl ?_
  show z_W 997 218 16 [(0, .ref 143), (1, .ref 11), (2, .int (0 : Int32)), (3, .int (2 : Int32)), (4, .int (11 : Int32))] [.int (39 : Int32), .int (11 : Int32)] m _
  refine w_p h_m218 7 (pc' := 28) (L' := [(0, .ref 143), (1, .ref 11), (2, .int (0 : Int32)), (3, .int (2 : Int32)), (4, .int (11 : Int32)), (5, .int (0 : Int32))]) (st' := [.ref 11, .int (11 : Int32)]) rfl ?_
  refine w_cv (H.te (by decide) rfl).1 (pc' := 31) (L' := [(0, .ref 143), (1, .ref 11), (2, .int (0 : Int32)), (3, .int (2 : Int32)), (4, .int (11 : Int32)), (5, .int (0 : Int32))]) (rest := [.int (11 : Int32)]) (Ps := []) (L0 := [(0, .ref 11)]) h_m218 (z_at.mk 3 rfl rfl) (Or.inl ⟨rfl, rfl⟩) rfl rfl (by decide) (by decide) rfl rfl rfl rfl rfl rfl (by decide) rfl rfl rfl ?_
  refine w_p h_m293 1 (pc' := 1) (L' := [(0, .ref 11)]) (st' := [.ref 11]) rfl ?_
  refine w_gs H (pc' := 4) (L' := [(0, .ref 11)]) h_m293 (z_at.mk 3 rfl rfl) rfl (by decide) rfl rfl rfl rfl ?_
  refine w_lene H (x := (39 : Int32)) (pc' := 5) (L' := [(0, .ref 11)]) h_m293 (z_at.mk 1 rfl rfl) (by decide) rfl (by decide) rfl rfl rfl ?_
  refine w_p h_m293 1 (pc' := 6) (L' := [(0, .ref 11)]) (st' := [.ref 11, .int (39 : Int32)]) rfl ?_
  refine w_cv (H.te (by decide) rfl).1 (pc' := 9) (L' := [(0, .ref 11)]) (rest := [.int (39 : Int32)]) (Ps := []) (L0 := [(0, .ref 11)]) h_m293 (z_at.mk 3 rfl rfl) (Or.inl ⟨rfl, rfl⟩) rfl rfl (by decide) (by decide) rfl rfl rfl rfl rfl rfl (by decide) rfl rfl rfl ?_
  refine w_p h_m298 3 (pc' := 7) (L' := [(0, .ref 11)]) (st' := [.ref 11]) rfl ?_
  refine w_gs H (pc' := 10) (L' := [(0, .ref 11)]) h_m298 (z_at.mk 3 rfl rfl) rfl (by decide) rfl rfl rfl rfl ?_
  refine w_p h_m298 1 (pc' := 14) (L' := []) (st' := [.int (0 : Int32)]) rfl ?_
  refine w_ri h_m298 (z_at.mk 1 rfl rfl) rfl rfl ?_
  show z_W 996 293 9 [(0, .ref 11)] [.int (0 : Int32), .int (39 : Int32)] m _
  refine w_p h_m293 1 (pc' := 10) (L' := [(0, .ref 11)]) (st' := [.int (39 : Int32)]) rfl ?_
  refine w_ri h_m293 (z_at.mk 1 rfl rfl) rfl rfl ?_
  show z_W 997 218 31 [(0, .ref 143), (1, .ref 11), (2, .int (0 : Int32)), (3, .int (2 : Int32)), (4, .int (11 : Int32)), (5, .int (0 : Int32))] [.int (39 : Int32), .int (11 : Int32)] m _
  refine w_p h_m218 5 (pc' := 40) (L' := [(0, .ref 143), (1, .ref 11), (2, .int (0 : Int32)), (3, .int (2 : Int32)), (4, .int (11 : Int32)), (5, .int (0 : Int32))]) (st' := [.int (11 : Int32), .ref 11]) rfl ?_
  refine w_cv (H.te (by decide) rfl).1 (pc' := 43) (L' := [(0, .ref 143), (1, .ref 11), (2, .int (0 : Int32)), (3, .int (2 : Int32)), (4, .int (11 : Int32)), (5, .int (0 : Int32))]) (rest := []) (Ps := [.int (11 : Int32)]) (L0 := [(0, .ref 11), (1, .int (11 : Int32))]) h_m218 (z_at.mk 3 rfl rfl) (Or.inl ⟨rfl, rfl⟩) rfl rfl (by decide) (by decide) rfl rfl rfl rfl rfl rfl (by decide) rfl rfl rfl ?_
  refine w_p h_m294 1 (pc' := 1) (L' := [(0, .ref 11), (1, .int (11 : Int32))]) (st' := [.ref 11]) rfl ?_
  refine w_cv (H.te (by decide) rfl).1 (pc' := 4) (L' := [(0, .ref 11), (1, .int (11 : Int32))]) (rest := []) (Ps := []) (L0 := [(0, .ref 11)]) h_m294 (z_at.mk 3 rfl rfl) (Or.inl ⟨rfl, rfl⟩) rfl rfl (by decide) (by decide) rfl rfl rfl rfl rfl rfl (by decide) rfl rfl rfl ?_
  refine w_p h_m299 3 (pc' := 7) (L' := [(0, .ref 11)]) (st' := [.ref 11]) rfl ?_
  refine w_gs H (pc' := 10) (L' := [(0, .ref 11)]) h_m299 (z_at.mk 3 rfl rfl) rfl (by decide) rfl rfl rfl rfl ?_
  refine w_p h_m299 3 (pc' := 18) (L' := []) (st' := [.int (1 : Int32)]) rfl ?_
  refine w_ri h_m299 (z_at.mk 1 rfl rfl) rfl rfl ?_
  show z_W 996 294 4 [(0, .ref 11), (1, .int (11 : Int32))] [.int (1 : Int32)] m _
  refine w_p h_m294 2 (pc' := 8) (L' := [(0, .ref 11), (1, .int (11 : Int32))]) (st' := [.ref 11]) rfl ?_
  refine w_gs H (pc' := 11) (L' := [(0, .ref 11), (1, .int (11 : Int32))]) h_m294 (z_at.mk 3 rfl rfl) rfl (by decide) rfl rfl rfl rfl ?_
  refine w_p h_m294 1 (pc' := 12) (L' := [(0, .ref 11), (1, .int (11 : Int32))]) (st' := [.int (11 : Int32), .ref 29]) rfl ?_
  refine w_cs (As := [.ref 29, .int (11 : Int32)]) (rest := []) (j := 308) (L0 := [(0, .ref 29), (1, .int (11 : Int32))]) (pc' := 15) (L' := [(0, .ref 11), (1, .int (11 : Int32))]) h_m294 (z_at.mk 3 rfl rfl) (Or.inl ⟨rfl, rfl⟩) rfl rfl rfl rfl rfl ?_
  refine w_p h_m308 2 (pc' := 2) (L' := [(0, .ref 29), (1, .int (11 : Int32))]) (st' := [.ref 29, .int (11 : Int32)]) rfl ?_
  refine w_lene H (x := (39 : Int32)) (pc' := 3) (L' := [(0, .ref 29), (1, .int (11 : Int32))]) h_m308 (z_at.mk 1 rfl rfl) (by decide) rfl (by decide) rfl rfl rfl ?_
  refine w_ci (pc' := 6) (L' := [(0, .ref 29), (1, .int (11 : Int32))]) h_m308 (z_at.mk 3 rfl rfl) rfl (z_cat_le 0 rfl (by decide)) ⟨by decide, by decide⟩ rfl rfl ?_
  refine w_p h_m308 2 (pc' := 8) (L' := [(0, .ref 29), (1, .int (11 : Int32))]) (st' := [.int (11 : Int32), .ref 29]) rfl ?_
  refine w_ae H (j := 11) (pc' := 9) (L' := [(0, .ref 29), (1, .int (11 : Int32))]) h_m308 (z_at.mk 1 rfl rfl) rfl rfl rfl (by decide) rfl (by decide) rfl rfl rfl ?_
  refine w_p h_m308 3 (pc' := 14) (L' := [(0, .ref 29), (1, .int (11 : Int32))]) (st' := [.int (109 : Int32)]) rfl ?_
  refine w_ri h_m308 (z_at.mk 1 rfl rfl) rfl rfl ?_
  show z_W 996 294 15 [(0, .ref 11), (1, .int (11 : Int32))] [.int (109 : Int32)] m _
  refine w_ri h_m294 (z_at.mk 1 rfl rfl) rfl rfl ?_
  show z_W 997 218 43 [(0, .ref 143), (1, .ref 11), (2, .int (0 : Int32)), (3, .int (2 : Int32)), (4, .int (11 : Int32)), (5, .int (0 : Int32))] [.int (109 : Int32)] m _
  refine w_p h_m218 8 (pc' := 28) (L' := [(0, .ref 143), (1, .ref 11), (2, .int (0 : Int32)), (3, .int (2 : Int32)), (4, .int (11 : Int32)), (5, .int (1 : Int32))]) (st' := [.ref 11, .int (12 : Int32)]) rfl ?_
  refine w_cv (H.te (by decide) rfl).1 (pc' := 31) (L' := [(0, .ref 143), (1, .ref 11), (2, .int (0 : Int32)), (3, .int (2 : Int32)), (4, .int (11 : Int32)), (5, .int (1 : Int32))]) (rest := [.int (12 : Int32)]) (Ps := []) (L0 := [(0, .ref 11)]) h_m218 (z_at.mk 3 rfl rfl) (Or.inl ⟨rfl, rfl⟩) rfl rfl (by decide) (by decide) rfl rfl rfl rfl rfl rfl (by decide) rfl rfl rfl ?_
  refine w_p h_m293 1 (pc' := 1) (L' := [(0, .ref 11)]) (st' := [.ref 11]) rfl ?_
  refine w_gs H (pc' := 4) (L' := [(0, .ref 11)]) h_m293 (z_at.mk 3 rfl rfl) rfl (by decide) rfl rfl rfl rfl ?_
  refine w_lene H (x := (39 : Int32)) (pc' := 5) (L' := [(0, .ref 11)]) h_m293 (z_at.mk 1 rfl rfl) (by decide) rfl (by decide) rfl rfl rfl ?_
  refine w_p h_m293 1 (pc' := 6) (L' := [(0, .ref 11)]) (st' := [.ref 11, .int (39 : Int32)]) rfl ?_
  refine w_cv (H.te (by decide) rfl).1 (pc' := 9) (L' := [(0, .ref 11)]) (rest := [.int (39 : Int32)]) (Ps := []) (L0 := [(0, .ref 11)]) h_m293 (z_at.mk 3 rfl rfl) (Or.inl ⟨rfl, rfl⟩) rfl rfl (by decide) (by decide) rfl rfl rfl rfl rfl rfl (by decide) rfl rfl rfl ?_
  refine w_p h_m298 3 (pc' := 7) (L' := [(0, .ref 11)]) (st' := [.ref 11]) rfl ?_
  refine w_gs H (pc' := 10) (L' := [(0, .ref 11)]) h_m298 (z_at.mk 3 rfl rfl) rfl (by decide) rfl rfl rfl rfl ?_
  refine w_p h_m298 1 (pc' := 14) (L' := []) (st' := [.int (0 : Int32)]) rfl ?_
  refine w_ri h_m298 (z_at.mk 1 rfl rfl) rfl rfl ?_
  show z_W 996 293 9 [(0, .ref 11)] [.int (0 : Int32), .int (39 : Int32)] m _
  refine w_p h_m293 1 (pc' := 10) (L' := [(0, .ref 11)]) (st' := [.int (39 : Int32)]) rfl ?_
  refine w_ri h_m293 (z_at.mk 1 rfl rfl) rfl rfl ?_
  show z_W 997 218 31 [(0, .ref 143), (1, .ref 11), (2, .int (0 : Int32)), (3, .int (2 : Int32)), (4, .int (11 : Int32)), (5, .int (1 : Int32))] [.int (39 : Int32), .int (12 : Int32)] m _
  refine w_p h_m218 5 (pc' := 40) (L' := [(0, .ref 143), (1, .ref 11), (2, .int (0 : Int32)), (3, .int (2 : Int32)), (4, .int (11 : Int32)), (5, .int (1 : Int32))]) (st' := [.int (12 : Int32), .ref 11]) rfl ?_
  refine w_cv (H.te (by decide) rfl).1 (pc' := 43) (L' := [(0, .ref 143), (1, .ref 11), (2, .int (0 : Int32)), (3, .int (2 : Int32)), (4, .int (11 : Int32)), (5, .int (1 : Int32))]) (rest := []) (Ps := [.int (12 : Int32)]) (L0 := [(0, .ref 11), (1, .int (12 : Int32))]) h_m218 (z_at.mk 3 rfl rfl) (Or.inl ⟨rfl, rfl⟩) rfl rfl (by decide) (by decide) rfl rfl rfl rfl rfl rfl (by decide) rfl rfl rfl ?_
  refine w_p h_m294 1 (pc' := 1) (L' := [(0, .ref 11), (1, .int (12 : Int32))]) (st' := [.ref 11]) rfl ?_
  refine w_cv (H.te (by decide) rfl).1 (pc' := 4) (L' := [(0, .ref 11), (1, .int (12 : Int32))]) (rest := []) (Ps := []) (L0 := [(0, .ref 11)]) h_m294 (z_at.mk 3 rfl rfl) (Or.inl ⟨rfl, rfl⟩) rfl rfl (by decide) (by decide) rfl rfl rfl rfl rfl rfl (by decide) rfl rfl rfl ?_
  refine w_p h_m299 3 (pc' := 7) (L' := [(0, .ref 11)]) (st' := [.ref 11]) rfl ?_
  refine w_gs H (pc' := 10) (L' := [(0, .ref 11)]) h_m299 (z_at.mk 3 rfl rfl) rfl (by decide) rfl rfl rfl rfl ?_
  refine w_p h_m299 3 (pc' := 18) (L' := []) (st' := [.int (1 : Int32)]) rfl ?_
  refine w_ri h_m299 (z_at.mk 1 rfl rfl) rfl rfl ?_
  show z_W 996 294 4 [(0, .ref 11), (1, .int (12 : Int32))] [.int (1 : Int32)] m _
  refine w_p h_m294 2 (pc' := 8) (L' := [(0, .ref 11), (1, .int (12 : Int32))]) (st' := [.ref 11]) rfl ?_
  refine w_gs H (pc' := 11) (L' := [(0, .ref 11), (1, .int (12 : Int32))]) h_m294 (z_at.mk 3 rfl rfl) rfl (by decide) rfl rfl rfl rfl ?_
  refine w_p h_m294 1 (pc' := 12) (L' := [(0, .ref 11), (1, .int (12 : Int32))]) (st' := [.int (12 : Int32), .ref 29]) rfl ?_
  refine w_cs (As := [.ref 29, .int (12 : Int32)]) (rest := []) (j := 308) (L0 := [(0, .ref 29), (1, .int (12 : Int32))]) (pc' := 15) (L' := [(0, .ref 11), (1, .int (12 : Int32))]) h_m294 (z_at.mk 3 rfl rfl) (Or.inl ⟨rfl, rfl⟩) rfl rfl rfl rfl rfl ?_
  refine w_p h_m308 2 (pc' := 2) (L' := [(0, .ref 29), (1, .int (12 : Int32))]) (st' := [.ref 29, .int (12 : Int32)]) rfl ?_
  refine w_lene H (x := (39 : Int32)) (pc' := 3) (L' := [(0, .ref 29), (1, .int (12 : Int32))]) h_m308 (z_at.mk 1 rfl rfl) (by decide) rfl (by decide) rfl rfl rfl ?_
  refine w_ci (pc' := 6) (L' := [(0, .ref 29), (1, .int (12 : Int32))]) h_m308 (z_at.mk 3 rfl rfl) rfl (z_cat_le 0 rfl (by decide)) ⟨by decide, by decide⟩ rfl rfl ?_
  refine w_p h_m308 2 (pc' := 8) (L' := [(0, .ref 29), (1, .int (12 : Int32))]) (st' := [.int (12 : Int32), .ref 29]) rfl ?_
  refine w_ae H (j := 12) (pc' := 9) (L' := [(0, .ref 29), (1, .int (12 : Int32))]) h_m308 (z_at.mk 1 rfl rfl) rfl rfl rfl (by decide) rfl (by decide) rfl rfl rfl ?_
  refine w_p h_m308 3 (pc' := 14) (L' := [(0, .ref 29), (1, .int (12 : Int32))]) (st' := [.int (111 : Int32)]) rfl ?_
  refine w_ri h_m308 (z_at.mk 1 rfl rfl) rfl rfl ?_
  show z_W 996 294 15 [(0, .ref 11), (1, .int (12 : Int32))] [.int (111 : Int32)] m _
  refine w_ri h_m294 (z_at.mk 1 rfl rfl) rfl rfl ?_
  show z_W 997 218 43 [(0, .ref 143), (1, .ref 11), (2, .int (0 : Int32)), (3, .int (2 : Int32)), (4, .int (11 : Int32)), (5, .int (1 : Int32))] [.int (111 : Int32)] m _
  refine w_p h_m218 8 (pc' := 28) (L' := [(0, .ref 143), (1, .ref 11), (2, .int (0 : Int32)), (3, .int (2 : Int32)), (4, .int (11 : Int32)), (5, .int (2 : Int32))]) (st' := [.ref 11, .int (13 : Int32)]) rfl ?_
  refine w_cv (H.te (by decide) rfl).1 (pc' := 31) (L' := [(0, .ref 143), (1, .ref 11), (2, .int (0 : Int32)), (3, .int (2 : Int32)), (4, .int (11 : Int32)), (5, .int (2 : Int32))]) (rest := [.int (13 : Int32)]) (Ps := []) (L0 := [(0, .ref 11)]) h_m218 (z_at.mk 3 rfl rfl) (Or.inl ⟨rfl, rfl⟩) rfl rfl (by decide) (by decide) rfl rfl rfl rfl rfl rfl (by decide) rfl rfl rfl ?_
  refine w_p h_m293 1 (pc' := 1) (L' := [(0, .ref 11)]) (st' := [.ref 11]) rfl ?_
  refine w_gs H (pc' := 4) (L' := [(0, .ref 11)]) h_m293 (z_at.mk 3 rfl rfl) rfl (by decide) rfl rfl rfl rfl ?_
  refine w_lene H (x := (39 : Int32)) (pc' := 5) (L' := [(0, .ref 11)]) h_m293 (z_at.mk 1 rfl rfl) (by decide) rfl (by decide) rfl rfl rfl ?_
  refine w_p h_m293 1 (pc' := 6) (L' := [(0, .ref 11)]) (st' := [.ref 11, .int (39 : Int32)]) rfl ?_
  refine w_cv (H.te (by decide) rfl).1 (pc' := 9) (L' := [(0, .ref 11)]) (rest := [.int (39 : Int32)]) (Ps := []) (L0 := [(0, .ref 11)]) h_m293 (z_at.mk 3 rfl rfl) (Or.inl ⟨rfl, rfl⟩) rfl rfl (by decide) (by decide) rfl rfl rfl rfl rfl rfl (by decide) rfl rfl rfl ?_
  refine w_p h_m298 3 (pc' := 7) (L' := [(0, .ref 11)]) (st' := [.ref 11]) rfl ?_
  refine w_gs H (pc' := 10) (L' := [(0, .ref 11)]) h_m298 (z_at.mk 3 rfl rfl) rfl (by decide) rfl rfl rfl rfl ?_
  refine w_p h_m298 1 (pc' := 14) (L' := []) (st' := [.int (0 : Int32)]) rfl ?_
  refine w_ri h_m298 (z_at.mk 1 rfl rfl) rfl rfl ?_
  show z_W 996 293 9 [(0, .ref 11)] [.int (0 : Int32), .int (39 : Int32)] m _
  refine w_p h_m293 1 (pc' := 10) (L' := [(0, .ref 11)]) (st' := [.int (39 : Int32)]) rfl ?_
  refine w_ri h_m293 (z_at.mk 1 rfl rfl) rfl rfl ?_
  show z_W 997 218 31 [(0, .ref 143), (1, .ref 11), (2, .int (0 : Int32)), (3, .int (2 : Int32)), (4, .int (11 : Int32)), (5, .int (2 : Int32))] [.int (39 : Int32), .int (13 : Int32)] m _
  refine w_p h_m218 5 (pc' := 40) (L' := [(0, .ref 143), (1, .ref 11), (2, .int (0 : Int32)), (3, .int (2 : Int32)), (4, .int (11 : Int32)), (5, .int (2 : Int32))]) (st' := [.int (13 : Int32), .ref 11]) rfl ?_
  refine w_cv (H.te (by decide) rfl).1 (pc' := 43) (L' := [(0, .ref 143), (1, .ref 11), (2, .int (0 : Int32)), (3, .int (2 : Int32)), (4, .int (11 : Int32)), (5, .int (2 : Int32))]) (rest := []) (Ps := [.int (13 : Int32)]) (L0 := [(0, .ref 11), (1, .int (13 : Int32))]) h_m218 (z_at.mk 3 rfl rfl) (Or.inl ⟨rfl, rfl⟩) rfl rfl (by decide) (by decide) rfl rfl rfl rfl rfl rfl (by decide) rfl rfl rfl ?_
  refine w_p h_m294 1 (pc' := 1) (L' := [(0, .ref 11), (1, .int (13 : Int32))]) (st' := [.ref 11]) rfl ?_
  refine w_cv (H.te (by decide) rfl).1 (pc' := 4) (L' := [(0, .ref 11), (1, .int (13 : Int32))]) (rest := []) (Ps := []) (L0 := [(0, .ref 11)]) h_m294 (z_at.mk 3 rfl rfl) (Or.inl ⟨rfl, rfl⟩) rfl rfl (by decide) (by decide) rfl rfl rfl rfl rfl rfl (by decide) rfl rfl rfl ?_
  refine w_p h_m299 3 (pc' := 7) (L' := [(0, .ref 11)]) (st' := [.ref 11]) rfl ?_
  refine w_gs H (pc' := 10) (L' := [(0, .ref 11)]) h_m299 (z_at.mk 3 rfl rfl) rfl (by decide) rfl rfl rfl rfl ?_
  refine w_p h_m299 3 (pc' := 18) (L' := []) (st' := [.int (1 : Int32)]) rfl ?_
  refine w_ri h_m299 (z_at.mk 1 rfl rfl) rfl rfl ?_
  show z_W 996 294 4 [(0, .ref 11), (1, .int (13 : Int32))] [.int (1 : Int32)] m _
  refine w_p h_m294 2 (pc' := 8) (L' := [(0, .ref 11), (1, .int (13 : Int32))]) (st' := [.ref 11]) rfl ?_
  refine w_gs H (pc' := 11) (L' := [(0, .ref 11), (1, .int (13 : Int32))]) h_m294 (z_at.mk 3 rfl rfl) rfl (by decide) rfl rfl rfl rfl ?_
  refine w_p h_m294 1 (pc' := 12) (L' := [(0, .ref 11), (1, .int (13 : Int32))]) (st' := [.int (13 : Int32), .ref 29]) rfl ?_
  refine w_cs (As := [.ref 29, .int (13 : Int32)]) (rest := []) (j := 308) (L0 := [(0, .ref 29), (1, .int (13 : Int32))]) (pc' := 15) (L' := [(0, .ref 11), (1, .int (13 : Int32))]) h_m294 (z_at.mk 3 rfl rfl) (Or.inl ⟨rfl, rfl⟩) rfl rfl rfl rfl rfl ?_
  refine w_p h_m308 2 (pc' := 2) (L' := [(0, .ref 29), (1, .int (13 : Int32))]) (st' := [.ref 29, .int (13 : Int32)]) rfl ?_
  refine w_lene H (x := (39 : Int32)) (pc' := 3) (L' := [(0, .ref 29), (1, .int (13 : Int32))]) h_m308 (z_at.mk 1 rfl rfl) (by decide) rfl (by decide) rfl rfl rfl ?_
  refine w_ci (pc' := 6) (L' := [(0, .ref 29), (1, .int (13 : Int32))]) h_m308 (z_at.mk 3 rfl rfl) rfl (z_cat_le 0 rfl (by decide)) ⟨by decide, by decide⟩ rfl rfl ?_
  refine w_p h_m308 2 (pc' := 8) (L' := [(0, .ref 29), (1, .int (13 : Int32))]) (st' := [.int (13 : Int32), .ref 29]) rfl ?_
  refine w_ae H (j := 13) (pc' := 9) (L' := [(0, .ref 29), (1, .int (13 : Int32))]) h_m308 (z_at.mk 1 rfl rfl) rfl rfl rfl (by decide) rfl (by decide) rfl rfl rfl ?_
  refine w_p h_m308 3 (pc' := 14) (L' := [(0, .ref 29), (1, .int (13 : Int32))]) (st' := [.int (115 : Int32)]) rfl ?_
  refine w_ri h_m308 (z_at.mk 1 rfl rfl) rfl rfl ?_
  show z_W 996 294 15 [(0, .ref 11), (1, .int (13 : Int32))] [.int (115 : Int32)] m _
  refine w_ri h_m294 (z_at.mk 1 rfl rfl) rfl rfl ?_
  show z_W 997 218 43 [(0, .ref 143), (1, .ref 11), (2, .int (0 : Int32)), (3, .int (2 : Int32)), (4, .int (11 : Int32)), (5, .int (2 : Int32))] [.int (115 : Int32)] m _
  refine w_p h_m218 8 (pc' := 28) (L' := [(0, .ref 143), (1, .ref 11), (2, .int (0 : Int32)), (3, .int (2 : Int32)), (4, .int (11 : Int32)), (5, .int (3 : Int32))]) (st' := [.ref 11, .int (14 : Int32)]) rfl ?_
  refine w_cv (H.te (by decide) rfl).1 (pc' := 31) (L' := [(0, .ref 143), (1, .ref 11), (2, .int (0 : Int32)), (3, .int (2 : Int32)), (4, .int (11 : Int32)), (5, .int (3 : Int32))]) (rest := [.int (14 : Int32)]) (Ps := []) (L0 := [(0, .ref 11)]) h_m218 (z_at.mk 3 rfl rfl) (Or.inl ⟨rfl, rfl⟩) rfl rfl (by decide) (by decide) rfl rfl rfl rfl rfl rfl (by decide) rfl rfl rfl ?_
  refine w_p h_m293 1 (pc' := 1) (L' := [(0, .ref 11)]) (st' := [.ref 11]) rfl ?_
  refine w_gs H (pc' := 4) (L' := [(0, .ref 11)]) h_m293 (z_at.mk 3 rfl rfl) rfl (by decide) rfl rfl rfl rfl ?_
  refine w_lene H (x := (39 : Int32)) (pc' := 5) (L' := [(0, .ref 11)]) h_m293 (z_at.mk 1 rfl rfl) (by decide) rfl (by decide) rfl rfl rfl ?_
  refine w_p h_m293 1 (pc' := 6) (L' := [(0, .ref 11)]) (st' := [.ref 11, .int (39 : Int32)]) rfl ?_
  refine w_cv (H.te (by decide) rfl).1 (pc' := 9) (L' := [(0, .ref 11)]) (rest := [.int (39 : Int32)]) (Ps := []) (L0 := [(0, .ref 11)]) h_m293 (z_at.mk 3 rfl rfl) (Or.inl ⟨rfl, rfl⟩) rfl rfl (by decide) (by decide) rfl rfl rfl rfl rfl rfl (by decide) rfl rfl rfl ?_
  refine w_p h_m298 3 (pc' := 7) (L' := [(0, .ref 11)]) (st' := [.ref 11]) rfl ?_
  refine w_gs H (pc' := 10) (L' := [(0, .ref 11)]) h_m298 (z_at.mk 3 rfl rfl) rfl (by decide) rfl rfl rfl rfl ?_
  refine w_p h_m298 1 (pc' := 14) (L' := []) (st' := [.int (0 : Int32)]) rfl ?_
  refine w_ri h_m298 (z_at.mk 1 rfl rfl) rfl rfl ?_
  show z_W 996 293 9 [(0, .ref 11)] [.int (0 : Int32), .int (39 : Int32)] m _
  refine w_p h_m293 1 (pc' := 10) (L' := [(0, .ref 11)]) (st' := [.int (39 : Int32)]) rfl ?_
  refine w_ri h_m293 (z_at.mk 1 rfl rfl) rfl rfl ?_
  show z_W 997 218 31 [(0, .ref 143), (1, .ref 11), (2, .int (0 : Int32)), (3, .int (2 : Int32)), (4, .int (11 : Int32)), (5, .int (3 : Int32))] [.int (39 : Int32), .int (14 : Int32)] m _
  refine w_p h_m218 5 (pc' := 40) (L' := [(0, .ref 143), (1, .ref 11), (2, .int (0 : Int32)), (3, .int (2 : Int32)), (4, .int (11 : Int32)), (5, .int (3 : Int32))]) (st' := [.int (14 : Int32), .ref 11]) rfl ?_
  refine w_cv (H.te (by decide) rfl).1 (pc' := 43) (L' := [(0, .ref 143), (1, .ref 11), (2, .int (0 : Int32)), (3, .int (2 : Int32)), (4, .int (11 : Int32)), (5, .int (3 : Int32))]) (rest := []) (Ps := [.int (14 : Int32)]) (L0 := [(0, .ref 11), (1, .int (14 : Int32))]) h_m218 (z_at.mk 3 rfl rfl) (Or.inl ⟨rfl, rfl⟩) rfl rfl (by decide) (by decide) rfl rfl rfl rfl rfl rfl (by decide) rfl rfl rfl ?_
  refine w_p h_m294 1 (pc' := 1) (L' := [(0, .ref 11), (1, .int (14 : Int32))]) (st' := [.ref 11]) rfl ?_
  refine w_cv (H.te (by decide) rfl).1 (pc' := 4) (L' := [(0, .ref 11), (1, .int (14 : Int32))]) (rest := []) (Ps := []) (L0 := [(0, .ref 11)]) h_m294 (z_at.mk 3 rfl rfl) (Or.inl ⟨rfl, rfl⟩) rfl rfl (by decide) (by decide) rfl rfl rfl rfl rfl rfl (by decide) rfl rfl rfl ?_
  refine w_p h_m299 3 (pc' := 7) (L' := [(0, .ref 11)]) (st' := [.ref 11]) rfl ?_
  refine w_gs H (pc' := 10) (L' := [(0, .ref 11)]) h_m299 (z_at.mk 3 rfl rfl) rfl (by decide) rfl rfl rfl rfl ?_
  refine w_p h_m299 3 (pc' := 18) (L' := []) (st' := [.int (1 : Int32)]) rfl ?_
  refine w_ri h_m299 (z_at.mk 1 rfl rfl) rfl rfl ?_
  show z_W 996 294 4 [(0, .ref 11), (1, .int (14 : Int32))] [.int (1 : Int32)] m _
  refine w_p h_m294 2 (pc' := 8) (L' := [(0, .ref 11), (1, .int (14 : Int32))]) (st' := [.ref 11]) rfl ?_
  refine w_gs H (pc' := 11) (L' := [(0, .ref 11), (1, .int (14 : Int32))]) h_m294 (z_at.mk 3 rfl rfl) rfl (by decide) rfl rfl rfl rfl ?_
  refine w_p h_m294 1 (pc' := 12) (L' := [(0, .ref 11), (1, .int (14 : Int32))]) (st' := [.int (14 : Int32), .ref 29]) rfl ?_
  refine w_cs (As := [.ref 29, .int (14 : Int32)]) (rest := []) (j := 308) (L0 := [(0, .ref 29), (1, .int (14 : Int32))]) (pc' := 15) (L' := [(0, .ref 11), (1, .int (14 : Int32))]) h_m294 (z_at.mk 3 rfl rfl) (Or.inl ⟨rfl, rfl⟩) rfl rfl rfl rfl rfl ?_
  refine w_p h_m308 2 (pc' := 2) (L' := [(0, .ref 29), (1, .int (14 : Int32))]) (st' := [.ref 29, .int (14 : Int32)]) rfl ?_
  refine w_lene H (x := (39 : Int32)) (pc' := 3) (L' := [(0, .ref 29), (1, .int (14 : Int32))]) h_m308 (z_at.mk 1 rfl rfl) (by decide) rfl (by decide) rfl rfl rfl ?_
  refine w_ci (pc' := 6) (L' := [(0, .ref 29), (1, .int (14 : Int32))]) h_m308 (z_at.mk 3 rfl rfl) rfl (z_cat_le 0 rfl (by decide)) ⟨by decide, by decide⟩ rfl rfl ?_
  refine w_p h_m308 2 (pc' := 8) (L' := [(0, .ref 29), (1, .int (14 : Int32))]) (st' := [.int (14 : Int32), .ref 29]) rfl ?_
  refine w_ae H (j := 14) (pc' := 9) (L' := [(0, .ref 29), (1, .int (14 : Int32))]) h_m308 (z_at.mk 1 rfl rfl) rfl rfl rfl (by decide) rfl (by decide) rfl rfl rfl ?_
  refine w_p h_m308 3 (pc' := 14) (L' := [(0, .ref 29), (1, .int (14 : Int32))]) (st' := [.int (116 : Int32)]) rfl ?_
  refine w_ri h_m308 (z_at.mk 1 rfl rfl) rfl rfl ?_
  show z_W 996 294 15 [(0, .ref 11), (1, .int (14 : Int32))] [.int (116 : Int32)] m _
  refine w_ri h_m294 (z_at.mk 1 rfl rfl) rfl rfl ?_
  show z_W 997 218 43 [(0, .ref 143), (1, .ref 11), (2, .int (0 : Int32)), (3, .int (2 : Int32)), (4, .int (11 : Int32)), (5, .int (3 : Int32))] [.int (116 : Int32)] m _
  refine w_p h_m218 8 (pc' := 28) (L' := [(0, .ref 143), (1, .ref 11), (2, .int (0 : Int32)), (3, .int (2 : Int32)), (4, .int (11 : Int32)), (5, .int (4 : Int32))]) (st' := [.ref 11, .int (15 : Int32)]) rfl ?_
  refine w_cv (H.te (by decide) rfl).1 (pc' := 31) (L' := [(0, .ref 143), (1, .ref 11), (2, .int (0 : Int32)), (3, .int (2 : Int32)), (4, .int (11 : Int32)), (5, .int (4 : Int32))]) (rest := [.int (15 : Int32)]) (Ps := []) (L0 := [(0, .ref 11)]) h_m218 (z_at.mk 3 rfl rfl) (Or.inl ⟨rfl, rfl⟩) rfl rfl (by decide) (by decide) rfl rfl rfl rfl rfl rfl (by decide) rfl rfl rfl ?_
  refine w_p h_m293 1 (pc' := 1) (L' := [(0, .ref 11)]) (st' := [.ref 11]) rfl ?_
  refine w_gs H (pc' := 4) (L' := [(0, .ref 11)]) h_m293 (z_at.mk 3 rfl rfl) rfl (by decide) rfl rfl rfl rfl ?_
  refine w_lene H (x := (39 : Int32)) (pc' := 5) (L' := [(0, .ref 11)]) h_m293 (z_at.mk 1 rfl rfl) (by decide) rfl (by decide) rfl rfl rfl ?_
  refine w_p h_m293 1 (pc' := 6) (L' := [(0, .ref 11)]) (st' := [.ref 11, .int (39 : Int32)]) rfl ?_
  refine w_cv (H.te (by decide) rfl).1 (pc' := 9) (L' := [(0, .ref 11)]) (rest := [.int (39 : Int32)]) (Ps := []) (L0 := [(0, .ref 11)]) h_m293 (z_at.mk 3 rfl rfl) (Or.inl ⟨rfl, rfl⟩) rfl rfl (by decide) (by decide) rfl rfl rfl rfl rfl rfl (by decide) rfl rfl rfl ?_
  refine w_p h_m298 3 (pc' := 7) (L' := [(0, .ref 11)]) (st' := [.ref 11]) rfl ?_
  refine w_gs H (pc' := 10) (L' := [(0, .ref 11)]) h_m298 (z_at.mk 3 rfl rfl) rfl (by decide) rfl rfl rfl rfl ?_
  refine w_p h_m298 1 (pc' := 14) (L' := []) (st' := [.int (0 : Int32)]) rfl ?_
  refine w_ri h_m298 (z_at.mk 1 rfl rfl) rfl rfl ?_
  show z_W 996 293 9 [(0, .ref 11)] [.int (0 : Int32), .int (39 : Int32)] m _
  refine w_p h_m293 1 (pc' := 10) (L' := [(0, .ref 11)]) (st' := [.int (39 : Int32)]) rfl ?_
  refine w_ri h_m293 (z_at.mk 1 rfl rfl) rfl rfl ?_
  show z_W 997 218 31 [(0, .ref 143), (1, .ref 11), (2, .int (0 : Int32)), (3, .int (2 : Int32)), (4, .int (11 : Int32)), (5, .int (4 : Int32))] [.int (39 : Int32), .int (15 : Int32)] m _
  refine w_p h_m218 5 (pc' := 40) (L' := [(0, .ref 143), (1, .ref 11), (2, .int (0 : Int32)), (3, .int (2 : Int32)), (4, .int (11 : Int32)), (5, .int (4 : Int32))]) (st' := [.int (15 : Int32), .ref 11]) rfl ?_
  refine w_cv (H.te (by decide) rfl).1 (pc' := 43) (L' := [(0, .ref 143), (1, .ref 11), (2, .int (0 : Int32)), (3, .int (2 : Int32)), (4, .int (11 : Int32)), (5, .int (4 : Int32))]) (rest := []) (Ps := [.int (15 : Int32)]) (L0 := [(0, .ref 11), (1, .int (15 : Int32))]) h_m218 (z_at.mk 3 rfl rfl) (Or.inl ⟨rfl, rfl⟩) rfl rfl (by decide) (by decide) rfl rfl rfl rfl rfl rfl (by decide) rfl rfl rfl ?_
  refine w_p h_m294 1 (pc' := 1) (L' := [(0, .ref 11), (1, .int (15 : Int32))]) (st' := [.ref 11]) rfl ?_
  refine w_cv (H.te (by decide) rfl).1 (pc' := 4) (L' := [(0, .ref 11), (1, .int (15 : Int32))]) (rest := []) (Ps := []) (L0 := [(0, .ref 11)]) h_m294 (z_at.mk 3 rfl rfl) (Or.inl ⟨rfl, rfl⟩) rfl rfl (by decide) (by decide) rfl rfl rfl rfl rfl rfl (by decide) rfl rfl rfl ?_
  refine w_p h_m299 3 (pc' := 7) (L' := [(0, .ref 11)]) (st' := [.ref 11]) rfl ?_
  refine w_gs H (pc' := 10) (L' := [(0, .ref 11)]) h_m299 (z_at.mk 3 rfl rfl) rfl (by decide) rfl rfl rfl rfl ?_
  refine w_p h_m299 3 (pc' := 18) (L' := []) (st' := [.int (1 : Int32)]) rfl ?_
  refine w_ri h_m299 (z_at.mk 1 rfl rfl) rfl rfl ?_
  show z_W 996 294 4 [(0, .ref 11), (1, .int (15 : Int32))] [.int (1 : Int32)] m _
  refine w_p h_m294 2 (pc' := 8) (L' := [(0, .ref 11), (1, .int (15 : Int32))]) (st' := [.ref 11]) rfl ?_
  refine w_gs H (pc' := 11) (L' := [(0, .ref 11), (1, .int (15 : Int32))]) h_m294 (z_at.mk 3 rfl rfl) rfl (by decide) rfl rfl rfl rfl ?_
  refine w_p h_m294 1 (pc' := 12) (L' := [(0, .ref 11), (1, .int (15 : Int32))]) (st' := [.int (15 : Int32), .ref 29]) rfl ?_
  refine w_cs (As := [.ref 29, .int (15 : Int32)]) (rest := []) (j := 308) (L0 := [(0, .ref 29), (1, .int (15 : Int32))]) (pc' := 15) (L' := [(0, .ref 11), (1, .int (15 : Int32))]) h_m294 (z_at.mk 3 rfl rfl) (Or.inl ⟨rfl, rfl⟩) rfl rfl rfl rfl rfl ?_
  refine w_p h_m308 2 (pc' := 2) (L' := [(0, .ref 29), (1, .int (15 : Int32))]) (st' := [.ref 29, .int (15 : Int32)]) rfl ?_
  refine w_lene H (x := (39 : Int32)) (pc' := 3) (L' := [(0, .ref 29), (1, .int (15 : Int32))]) h_m308 (z_at.mk 1 rfl rfl) (by decide) rfl (by decide) rfl rfl rfl ?_
  refine w_ci (pc' := 6) (L' := [(0, .ref 29), (1, .int (15 : Int32))]) h_m308 (z_at.mk 3 rfl rfl) rfl (z_cat_le 0 rfl (by decide)) ⟨by decide, by decide⟩ rfl rfl ?_
  refine w_p h_m308 2 (pc' := 8) (L' := [(0, .ref 29), (1, .int (15 : Int32))]) (st' := [.int (15 : Int32), .ref 29]) rfl ?_
  refine w_ae H (j := 15) (pc' := 9) (L' := [(0, .ref 29), (1, .int (15 : Int32))]) h_m308 (z_at.mk 1 rfl rfl) rfl rfl rfl (by decide) rfl (by decide) rfl rfl rfl ?_
  refine w_p h_m308 3 (pc' := 14) (L' := [(0, .ref 29), (1, .int (15 : Int32))]) (st' := [.int (32 : Int32)]) rfl ?_
  refine w_ri h_m308 (z_at.mk 1 rfl rfl) rfl rfl ?_
  show z_W 996 294 15 [(0, .ref 11), (1, .int (15 : Int32))] [.int (32 : Int32)] m _
  refine w_ri h_m294 (z_at.mk 1 rfl rfl) rfl rfl ?_
  show z_W 997 218 43 [(0, .ref 143), (1, .ref 11), (2, .int (0 : Int32)), (3, .int (2 : Int32)), (4, .int (11 : Int32)), (5, .int (4 : Int32))] [.int (32 : Int32)] m _
  refine w_p h_m218 5 (pc' := 58) (L' := [(0, .ref 143), (1, .ref 11), (2, .int (0 : Int32)), (3, .int (2 : Int32)), (4, .int (11 : Int32)), (5, .int (4 : Int32))]) (st' := [.ref 143, .int (0 : Int32), .int (4 : Int32)]) rfl ?_
  refine w_gf H (pc' := 61) (L' := [(0, .ref 143), (1, .ref 11), (2, .int (0 : Int32)), (3, .int (2 : Int32)), (4, .int (11 : Int32)), (5, .int (4 : Int32))]) h_m218 (z_at.mk 3 rfl rfl) rfl (u := .int (0 : Int32)) rfl rfl rfl ?_
  refine w_p h_m218 23 (pc' := 13) (L' := [(0, .ref 143), (1, .ref 11), (2, .int (0 : Int32)), (3, .int (3 : Int32)), (4, .int (16 : Int32))]) (st' := [.ref 11, .int (16 : Int32)]) rfl ?_
  refine w_cv (H.te (by decide) rfl).1 (pc' := 16) (L' := [(0, .ref 143), (1, .ref 11), (2, .int (0 : Int32)), (3, .int (3 : Int32)), (4, .int (16 : Int32))]) (rest := [.int (16 : Int32)]) (Ps := []) (L0 := [(0, .ref 11)]) h_m218 (z_at.mk 3 rfl rfl) (Or.inl ⟨rfl, rfl⟩) rfl rfl (by decide) (by decide) rfl rfl rfl rfl rfl rfl (by decide) rfl rfl rfl ?_
  refine w_p h_m293 1 (pc' := 1) (L' := [(0, .ref 11)]) (st' := [.ref 11]) rfl ?_
  refine w_gs H (pc' := 4) (L' := [(0, .ref 11)]) h_m293 (z_at.mk 3 rfl rfl) rfl (by decide) rfl rfl rfl rfl ?_
  refine w_lene H (x := (39 : Int32)) (pc' := 5) (L' := [(0, .ref 11)]) h_m293 (z_at.mk 1 rfl rfl) (by decide) rfl (by decide) rfl rfl rfl ?_
  refine w_p h_m293 1 (pc' := 6) (L' := [(0, .ref 11)]) (st' := [.ref 11, .int (39 : Int32)]) rfl ?_
  refine w_cv (H.te (by decide) rfl).1 (pc' := 9) (L' := [(0, .ref 11)]) (rest := [.int (39 : Int32)]) (Ps := []) (L0 := [(0, .ref 11)]) h_m293 (z_at.mk 3 rfl rfl) (Or.inl ⟨rfl, rfl⟩) rfl rfl (by decide) (by decide) rfl rfl rfl rfl rfl rfl (by decide) rfl rfl rfl ?_
  refine w_p h_m298 3 (pc' := 7) (L' := [(0, .ref 11)]) (st' := [.ref 11]) rfl ?_
  refine w_gs H (pc' := 10) (L' := [(0, .ref 11)]) h_m298 (z_at.mk 3 rfl rfl) rfl (by decide) rfl rfl rfl rfl ?_
  refine w_p h_m298 1 (pc' := 14) (L' := []) (st' := [.int (0 : Int32)]) rfl ?_
  refine w_ri h_m298 (z_at.mk 1 rfl rfl) rfl rfl ?_
  show z_W 996 293 9 [(0, .ref 11)] [.int (0 : Int32), .int (39 : Int32)] m _
  refine w_p h_m293 1 (pc' := 10) (L' := [(0, .ref 11)]) (st' := [.int (39 : Int32)]) rfl ?_
  refine w_ri h_m293 (z_at.mk 1 rfl rfl) rfl rfl ?_
  show z_W 997 218 16 [(0, .ref 143), (1, .ref 11), (2, .int (0 : Int32)), (3, .int (3 : Int32)), (4, .int (16 : Int32))] [.int (39 : Int32), .int (16 : Int32)] m _
  refine w_p h_m218 7 (pc' := 28) (L' := [(0, .ref 143), (1, .ref 11), (2, .int (0 : Int32)), (3, .int (3 : Int32)), (4, .int (16 : Int32)), (5, .int (0 : Int32))]) (st' := [.ref 11, .int (16 : Int32)]) rfl ?_
  refine w_cv (H.te (by decide) rfl).1 (pc' := 31) (L' := [(0, .ref 143), (1, .ref 11), (2, .int (0 : Int32)), (3, .int (3 : Int32)), (4, .int (16 : Int32)), (5, .int (0 : Int32))]) (rest := [.int (16 : Int32)]) (Ps := []) (L0 := [(0, .ref 11)]) h_m218 (z_at.mk 3 rfl rfl) (Or.inl ⟨rfl, rfl⟩) rfl rfl (by decide) (by decide) rfl rfl rfl rfl rfl rfl (by decide) rfl rfl rfl ?_
  refine w_p h_m293 1 (pc' := 1) (L' := [(0, .ref 11)]) (st' := [.ref 11]) rfl ?_
  refine w_gs H (pc' := 4) (L' := [(0, .ref 11)]) h_m293 (z_at.mk 3 rfl rfl) rfl (by decide) rfl rfl rfl rfl ?_
  refine w_lene H (x := (39 : Int32)) (pc' := 5) (L' := [(0, .ref 11)]) h_m293 (z_at.mk 1 rfl rfl) (by decide) rfl (by decide) rfl rfl rfl ?_
  refine w_p h_m293 1 (pc' := 6) (L' := [(0, .ref 11)]) (st' := [.ref 11, .int (39 : Int32)]) rfl ?_
  refine w_cv (H.te (by decide) rfl).1 (pc' := 9) (L' := [(0, .ref 11)]) (rest := [.int (39 : Int32)]) (Ps := []) (L0 := [(0, .ref 11)]) h_m293 (z_at.mk 3 rfl rfl) (Or.inl ⟨rfl, rfl⟩) rfl rfl (by decide) (by decide) rfl rfl rfl rfl rfl rfl (by decide) rfl rfl rfl ?_
  refine w_p h_m298 3 (pc' := 7) (L' := [(0, .ref 11)]) (st' := [.ref 11]) rfl ?_
  refine w_gs H (pc' := 10) (L' := [(0, .ref 11)]) h_m298 (z_at.mk 3 rfl rfl) rfl (by decide) rfl rfl rfl rfl ?_
  refine w_p h_m298 1 (pc' := 14) (L' := []) (st' := [.int (0 : Int32)]) rfl ?_
  refine w_ri h_m298 (z_at.mk 1 rfl rfl) rfl rfl ?_
  show z_W 996 293 9 [(0, .ref 11)] [.int (0 : Int32), .int (39 : Int32)] m _
  refine w_p h_m293 1 (pc' := 10) (L' := [(0, .ref 11)]) (st' := [.int (39 : Int32)]) rfl ?_
  refine w_ri h_m293 (z_at.mk 1 rfl rfl) rfl rfl ?_
  show z_W 997 218 31 [(0, .ref 143), (1, .ref 11), (2, .int (0 : Int32)), (3, .int (3 : Int32)), (4, .int (16 : Int32)), (5, .int (0 : Int32))] [.int (39 : Int32), .int (16 : Int32)] m _
  refine w_p h_m218 5 (pc' := 40) (L' := [(0, .ref 143), (1, .ref 11), (2, .int (0 : Int32)), (3, .int (3 : Int32)), (4, .int (16 : Int32)), (5, .int (0 : Int32))]) (st' := [.int (16 : Int32), .ref 11]) rfl ?_
  refine w_cv (H.te (by decide) rfl).1 (pc' := 43) (L' := [(0, .ref 143), (1, .ref 11), (2, .int (0 : Int32)), (3, .int (3 : Int32)), (4, .int (16 : Int32)), (5, .int (0 : Int32))]) (rest := []) (Ps := [.int (16 : Int32)]) (L0 := [(0, .ref 11), (1, .int (16 : Int32))]) h_m218 (z_at.mk 3 rfl rfl) (Or.inl ⟨rfl, rfl⟩) rfl rfl (by decide) (by decide) rfl rfl rfl rfl rfl rfl (by decide) rfl rfl rfl ?_
  refine w_p h_m294 1 (pc' := 1) (L' := [(0, .ref 11), (1, .int (16 : Int32))]) (st' := [.ref 11]) rfl ?_
  refine w_cv (H.te (by decide) rfl).1 (pc' := 4) (L' := [(0, .ref 11), (1, .int (16 : Int32))]) (rest := []) (Ps := []) (L0 := [(0, .ref 11)]) h_m294 (z_at.mk 3 rfl rfl) (Or.inl ⟨rfl, rfl⟩) rfl rfl (by decide) (by decide) rfl rfl rfl rfl rfl rfl (by decide) rfl rfl rfl ?_
  refine w_p h_m299 3 (pc' := 7) (L' := [(0, .ref 11)]) (st' := [.ref 11]) rfl ?_
  refine w_gs H (pc' := 10) (L' := [(0, .ref 11)]) h_m299 (z_at.mk 3 rfl rfl) rfl (by decide) rfl rfl rfl rfl ?_
  refine w_p h_m299 3 (pc' := 18) (L' := []) (st' := [.int (1 : Int32)]) rfl ?_
  refine w_ri h_m299 (z_at.mk 1 rfl rfl) rfl rfl ?_
  show z_W 996 294 4 [(0, .ref 11), (1, .int (16 : Int32))] [.int (1 : Int32)] m _
  refine w_p h_m294 2 (pc' := 8) (L' := [(0, .ref 11), (1, .int (16 : Int32))]) (st' := [.ref 11]) rfl ?_
  refine w_gs H (pc' := 11) (L' := [(0, .ref 11), (1, .int (16 : Int32))]) h_m294 (z_at.mk 3 rfl rfl) rfl (by decide) rfl rfl rfl rfl ?_
  refine w_p h_m294 1 (pc' := 12) (L' := [(0, .ref 11), (1, .int (16 : Int32))]) (st' := [.int (16 : Int32), .ref 29]) rfl ?_
  refine w_cs (As := [.ref 29, .int (16 : Int32)]) (rest := []) (j := 308) (L0 := [(0, .ref 29), (1, .int (16 : Int32))]) (pc' := 15) (L' := [(0, .ref 11), (1, .int (16 : Int32))]) h_m294 (z_at.mk 3 rfl rfl) (Or.inl ⟨rfl, rfl⟩) rfl rfl rfl rfl rfl ?_
  refine w_p h_m308 2 (pc' := 2) (L' := [(0, .ref 29), (1, .int (16 : Int32))]) (st' := [.ref 29, .int (16 : Int32)]) rfl ?_
  refine w_lene H (x := (39 : Int32)) (pc' := 3) (L' := [(0, .ref 29), (1, .int (16 : Int32))]) h_m308 (z_at.mk 1 rfl rfl) (by decide) rfl (by decide) rfl rfl rfl ?_
  refine w_ci (pc' := 6) (L' := [(0, .ref 29), (1, .int (16 : Int32))]) h_m308 (z_at.mk 3 rfl rfl) rfl (z_cat_le 0 rfl (by decide)) ⟨by decide, by decide⟩ rfl rfl ?_
  refine w_p h_m308 2 (pc' := 8) (L' := [(0, .ref 29), (1, .int (16 : Int32))]) (st' := [.int (16 : Int32), .ref 29]) rfl ?_
  refine w_ae H (j := 16) (pc' := 9) (L' := [(0, .ref 29), (1, .int (16 : Int32))]) h_m308 (z_at.mk 1 rfl rfl) rfl rfl rfl (by decide) rfl (by decide) rfl rfl rfl ?_
  refine w_p h_m308 3 (pc' := 14) (L' := [(0, .ref 29), (1, .int (16 : Int32))]) (st' := [.int (119 : Int32)]) rfl ?_
  refine w_ri h_m308 (z_at.mk 1 rfl rfl) rfl rfl ?_
  show z_W 996 294 15 [(0, .ref 11), (1, .int (16 : Int32))] [.int (119 : Int32)] m _
  refine w_ri h_m294 (z_at.mk 1 rfl rfl) rfl rfl ?_
  show z_W 997 218 43 [(0, .ref 143), (1, .ref 11), (2, .int (0 : Int32)), (3, .int (3 : Int32)), (4, .int (16 : Int32)), (5, .int (0 : Int32))] [.int (119 : Int32)] m _
  refine w_p h_m218 8 (pc' := 28) (L' := [(0, .ref 143), (1, .ref 11), (2, .int (0 : Int32)), (3, .int (3 : Int32)), (4, .int (16 : Int32)), (5, .int (1 : Int32))]) (st' := [.ref 11, .int (17 : Int32)]) rfl ?_
  refine w_cv (H.te (by decide) rfl).1 (pc' := 31) (L' := [(0, .ref 143), (1, .ref 11), (2, .int (0 : Int32)), (3, .int (3 : Int32)), (4, .int (16 : Int32)), (5, .int (1 : Int32))]) (rest := [.int (17 : Int32)]) (Ps := []) (L0 := [(0, .ref 11)]) h_m218 (z_at.mk 3 rfl rfl) (Or.inl ⟨rfl, rfl⟩) rfl rfl (by decide) (by decide) rfl rfl rfl rfl rfl rfl (by decide) rfl rfl rfl ?_
  refine w_p h_m293 1 (pc' := 1) (L' := [(0, .ref 11)]) (st' := [.ref 11]) rfl ?_
  refine w_gs H (pc' := 4) (L' := [(0, .ref 11)]) h_m293 (z_at.mk 3 rfl rfl) rfl (by decide) rfl rfl rfl rfl ?_
  refine w_lene H (x := (39 : Int32)) (pc' := 5) (L' := [(0, .ref 11)]) h_m293 (z_at.mk 1 rfl rfl) (by decide) rfl (by decide) rfl rfl rfl ?_
  refine w_p h_m293 1 (pc' := 6) (L' := [(0, .ref 11)]) (st' := [.ref 11, .int (39 : Int32)]) rfl ?_
  refine w_cv (H.te (by decide) rfl).1 (pc' := 9) (L' := [(0, .ref 11)]) (rest := [.int (39 : Int32)]) (Ps := []) (L0 := [(0, .ref 11)]) h_m293 (z_at.mk 3 rfl rfl) (Or.inl ⟨rfl, rfl⟩) rfl rfl (by decide) (by decide) rfl rfl rfl rfl rfl rfl (by decide) rfl rfl rfl ?_
  refine w_p h_m298 3 (pc' := 7) (L' := [(0, .ref 11)]) (st' := [.ref 11]) rfl ?_
  refine w_gs H (pc' := 10) (L' := [(0, .ref 11)]) h_m298 (z_at.mk 3 rfl rfl) rfl (by decide) rfl rfl rfl rfl ?_
  refine w_p h_m298 1 (pc' := 14) (L' := []) (st' := [.int (0 : Int32)]) rfl ?_
  refine w_ri h_m298 (z_at.mk 1 rfl rfl) rfl rfl ?_
  show z_W 996 293 9 [(0, .ref 11)] [.int (0 : Int32), .int (39 : Int32)] m _
  refine w_p h_m293 1 (pc' := 10) (L' := [(0, .ref 11)]) (st' := [.int (39 : Int32)]) rfl ?_
  refine w_ri h_m293 (z_at.mk 1 rfl rfl) rfl rfl ?_
  show z_W 997 218 31 [(0, .ref 143), (1, .ref 11), (2, .int (0 : Int32)), (3, .int (3 : Int32)), (4, .int (16 : Int32)), (5, .int (1 : Int32))] [.int (39 : Int32), .int (17 : Int32)] m _
  refine w_p h_m218 5 (pc' := 40) (L' := [(0, .ref 143), (1, .ref 11), (2, .int (0 : Int32)), (3, .int (3 : Int32)), (4, .int (16 : Int32)), (5, .int (1 : Int32))]) (st' := [.int (17 : Int32), .ref 11]) rfl ?_
  refine w_cv (H.te (by decide) rfl).1 (pc' := 43) (L' := [(0, .ref 143), (1, .ref 11), (2, .int (0 : Int32)), (3, .int (3 : Int32)), (4, .int (16 : Int32)), (5, .int (1 : Int32))]) (rest := []) (Ps := [.int (17 : Int32)]) (L0 := [(0, .ref 11), (1, .int (17 : Int32))]) h_m218 (z_at.mk 3 rfl rfl) (Or.inl ⟨rfl, rfl⟩) rfl rfl (by decide) (by decide) rfl rfl rfl rfl rfl rfl (by decide) rfl rfl rfl ?_
  refine w_p h_m294 1 (pc' := 1) (L' := [(0, .ref 11), (1, .int (17 : Int32))]) (st' := [.ref 11]) rfl ?_
  refine w_cv (H.te (by decide) rfl).1 (pc' := 4) (L' := [(0, .ref 11), (1, .int (17 : Int32))]) (rest := []) (Ps := []) (L0 := [(0, .ref 11)]) h_m294 (z_at.mk 3 rfl rfl) (Or.inl ⟨rfl, rfl⟩) rfl rfl (by decide) (by decide) rfl rfl rfl rfl rfl rfl (by decide) rfl rfl rfl ?_
  refine w_p h_m299 3 (pc' := 7) (L' := [(0, .ref 11)]) (st' := [.ref 11]) rfl ?_
  refine w_gs H (pc' := 10) (L' := [(0, .ref 11)]) h_m299 (z_at.mk 3 rfl rfl) rfl (by decide) rfl rfl rfl rfl ?_
  refine w_p h_m299 3 (pc' := 18) (L' := []) (st' := [.int (1 : Int32)]) rfl ?_
  refine w_ri h_m299 (z_at.mk 1 rfl rfl) rfl rfl ?_
  show z_W 996 294 4 [(0, .ref 11), (1, .int (17 : Int32))] [.int (1 : Int32)] m _
  refine w_p h_m294 2 (pc' := 8) (L' := [(0, .ref 11), (1, .int (17 : Int32))]) (st' := [.ref 11]) rfl ?_
  refine w_gs H (pc' := 11) (L' := [(0, .ref 11), (1, .int (17 : Int32))]) h_m294 (z_at.mk 3 rfl rfl) rfl (by decide) rfl rfl rfl rfl ?_
  refine w_p h_m294 1 (pc' := 12) (L' := [(0, .ref 11), (1, .int (17 : Int32))]) (st' := [.int (17 : Int32), .ref 29]) rfl ?_
  refine w_cs (As := [.ref 29, .int (17 : Int32)]) (rest := []) (j := 308) (L0 := [(0, .ref 29), (1, .int (17 : Int32))]) (pc' := 15) (L' := [(0, .ref 11), (1, .int (17 : Int32))]) h_m294 (z_at.mk 3 rfl rfl) (Or.inl ⟨rfl, rfl⟩) rfl rfl rfl rfl rfl ?_
  refine w_p h_m308 2 (pc' := 2) (L' := [(0, .ref 29), (1, .int (17 : Int32))]) (st' := [.ref 29, .int (17 : Int32)]) rfl ?_
  refine w_lene H (x := (39 : Int32)) (pc' := 3) (L' := [(0, .ref 29), (1, .int (17 : Int32))]) h_m308 (z_at.mk 1 rfl rfl) (by decide) rfl (by decide) rfl rfl rfl ?_
  refine w_ci (pc' := 6) (L' := [(0, .ref 29), (1, .int (17 : Int32))]) h_m308 (z_at.mk 3 rfl rfl) rfl (z_cat_le 0 rfl (by decide)) ⟨by decide, by decide⟩ rfl rfl ?_
  refine w_p h_m308 2 (pc' := 8) (L' := [(0, .ref 29), (1, .int (17 : Int32))]) (st' := [.int (17 : Int32), .ref 29]) rfl ?_
  refine w_ae H (j := 17) (pc' := 9) (L' := [(0, .ref 29), (1, .int (17 : Int32))]) h_m308 (z_at.mk 1 rfl rfl) rfl rfl rfl (by decide) rfl (by decide) rfl rfl rfl ?_
  refine w_p h_m308 3 (pc' := 14) (L' := [(0, .ref 29), (1, .int (17 : Int32))]) (st' := [.int (114 : Int32)]) rfl ?_
  refine w_ri h_m308 (z_at.mk 1 rfl rfl) rfl rfl ?_
  show z_W 996 294 15 [(0, .ref 11), (1, .int (17 : Int32))] [.int (114 : Int32)] m _
  refine w_ri h_m294 (z_at.mk 1 rfl rfl) rfl rfl ?_
  show z_W 997 218 43 [(0, .ref 143), (1, .ref 11), (2, .int (0 : Int32)), (3, .int (3 : Int32)), (4, .int (16 : Int32)), (5, .int (1 : Int32))] [.int (114 : Int32)] m _
  refine w_p h_m218 8 (pc' := 28) (L' := [(0, .ref 143), (1, .ref 11), (2, .int (0 : Int32)), (3, .int (3 : Int32)), (4, .int (16 : Int32)), (5, .int (2 : Int32))]) (st' := [.ref 11, .int (18 : Int32)]) rfl ?_
  refine w_cv (H.te (by decide) rfl).1 (pc' := 31) (L' := [(0, .ref 143), (1, .ref 11), (2, .int (0 : Int32)), (3, .int (3 : Int32)), (4, .int (16 : Int32)), (5, .int (2 : Int32))]) (rest := [.int (18 : Int32)]) (Ps := []) (L0 := [(0, .ref 11)]) h_m218 (z_at.mk 3 rfl rfl) (Or.inl ⟨rfl, rfl⟩) rfl rfl (by decide) (by decide) rfl rfl rfl rfl rfl rfl (by decide) rfl rfl rfl ?_
  refine w_p h_m293 1 (pc' := 1) (L' := [(0, .ref 11)]) (st' := [.ref 11]) rfl ?_
  refine w_gs H (pc' := 4) (L' := [(0, .ref 11)]) h_m293 (z_at.mk 3 rfl rfl) rfl (by decide) rfl rfl rfl rfl ?_
  refine w_lene H (x := (39 : Int32)) (pc' := 5) (L' := [(0, .ref 11)]) h_m293 (z_at.mk 1 rfl rfl) (by decide) rfl (by decide) rfl rfl rfl ?_
  refine w_p h_m293 1 (pc' := 6) (L' := [(0, .ref 11)]) (st' := [.ref 11, .int (39 : Int32)]) rfl ?_
  refine w_cv (H.te (by decide) rfl).1 (pc' := 9) (L' := [(0, .ref 11)]) (rest := [.int (39 : Int32)]) (Ps := []) (L0 := [(0, .ref 11)]) h_m293 (z_at.mk 3 rfl rfl) (Or.inl ⟨rfl, rfl⟩) rfl rfl (by decide) (by decide) rfl rfl rfl rfl rfl rfl (by decide) rfl rfl rfl ?_
  refine w_p h_m298 3 (pc' := 7) (L' := [(0, .ref 11)]) (st' := [.ref 11]) rfl ?_
  refine w_gs H (pc' := 10) (L' := [(0, .ref 11)]) h_m298 (z_at.mk 3 rfl rfl) rfl (by decide) rfl rfl rfl rfl ?_
  refine w_p h_m298 1 (pc' := 14) (L' := []) (st' := [.int (0 : Int32)]) rfl ?_
  refine w_ri h_m298 (z_at.mk 1 rfl rfl) rfl rfl ?_
  show z_W 996 293 9 [(0, .ref 11)] [.int (0 : Int32), .int (39 : Int32)] m _
  refine w_p h_m293 1 (pc' := 10) (L' := [(0, .ref 11)]) (st' := [.int (39 : Int32)]) rfl ?_
  refine w_ri h_m293 (z_at.mk 1 rfl rfl) rfl rfl ?_
  show z_W 997 218 31 [(0, .ref 143), (1, .ref 11), (2, .int (0 : Int32)), (3, .int (3 : Int32)), (4, .int (16 : Int32)), (5, .int (2 : Int32))] [.int (39 : Int32), .int (18 : Int32)] m _
  refine w_p h_m218 5 (pc' := 40) (L' := [(0, .ref 143), (1, .ref 11), (2, .int (0 : Int32)), (3, .int (3 : Int32)), (4, .int (16 : Int32)), (5, .int (2 : Int32))]) (st' := [.int (18 : Int32), .ref 11]) rfl ?_
  refine w_cv (H.te (by decide) rfl).1 (pc' := 43) (L' := [(0, .ref 143), (1, .ref 11), (2, .int (0 : Int32)), (3, .int (3 : Int32)), (4, .int (16 : Int32)), (5, .int (2 : Int32))]) (rest := []) (Ps := [.int (18 : Int32)]) (L0 := [(0, .ref 11), (1, .int (18 : Int32))]) h_m218 (z_at.mk 3 rfl rfl) (Or.inl ⟨rfl, rfl⟩) rfl rfl (by decide) (by decide) rfl rfl rfl rfl rfl rfl (by decide) rfl rfl rfl ?_
  refine w_p h_m294 1 (pc' := 1) (L' := [(0, .ref 11), (1, .int (18 : Int32))]) (st' := [.ref 11]) rfl ?_
  refine w_cv (H.te (by decide) rfl).1 (pc' := 4) (L' := [(0, .ref 11), (1, .int (18 : Int32))]) (rest := []) (Ps := []) (L0 := [(0, .ref 11)]) h_m294 (z_at.mk 3 rfl rfl) (Or.inl ⟨rfl, rfl⟩) rfl rfl (by decide) (by decide) rfl rfl rfl rfl rfl rfl (by decide) rfl rfl rfl ?_
  refine w_p h_m299 3 (pc' := 7) (L' := [(0, .ref 11)]) (st' := [.ref 11]) rfl ?_
  refine w_gs H (pc' := 10) (L' := [(0, .ref 11)]) h_m299 (z_at.mk 3 rfl rfl) rfl (by decide) rfl rfl rfl rfl ?_
  refine w_p h_m299 3 (pc' := 18) (L' := []) (st' := [.int (1 : Int32)]) rfl ?_
  refine w_ri h_m299 (z_at.mk 1 rfl rfl) rfl rfl ?_
  show z_W 996 294 4 [(0, .ref 11), (1, .int (18 : Int32))] [.int (1 : Int32)] m _
  refine w_p h_m294 2 (pc' := 8) (L' := [(0, .ref 11), (1, .int (18 : Int32))]) (st' := [.ref 11]) rfl ?_
  refine w_gs H (pc' := 11) (L' := [(0, .ref 11), (1, .int (18 : Int32))]) h_m294 (z_at.mk 3 rfl rfl) rfl (by decide) rfl rfl rfl rfl ?_
  refine w_p h_m294 1 (pc' := 12) (L' := [(0, .ref 11), (1, .int (18 : Int32))]) (st' := [.int (18 : Int32), .ref 29]) rfl ?_
  refine w_cs (As := [.ref 29, .int (18 : Int32)]) (rest := []) (j := 308) (L0 := [(0, .ref 29), (1, .int (18 : Int32))]) (pc' := 15) (L' := [(0, .ref 11), (1, .int (18 : Int32))]) h_m294 (z_at.mk 3 rfl rfl) (Or.inl ⟨rfl, rfl⟩) rfl rfl rfl rfl rfl ?_
  refine w_p h_m308 2 (pc' := 2) (L' := [(0, .ref 29), (1, .int (18 : Int32))]) (st' := [.ref 29, .int (18 : Int32)]) rfl ?_
  refine w_lene H (x := (39 : Int32)) (pc' := 3) (L' := [(0, .ref 29), (1, .int (18 : Int32))]) h_m308 (z_at.mk 1 rfl rfl) (by decide) rfl (by decide) rfl rfl rfl ?_
  refine w_ci (pc' := 6) (L' := [(0, .ref 29), (1, .int (18 : Int32))]) h_m308 (z_at.mk 3 rfl rfl) rfl (z_cat_le 0 rfl (by decide)) ⟨by decide, by decide⟩ rfl rfl ?_
  refine w_p h_m308 2 (pc' := 8) (L' := [(0, .ref 29), (1, .int (18 : Int32))]) (st' := [.int (18 : Int32), .ref 29]) rfl ?_
  refine w_ae H (j := 18) (pc' := 9) (L' := [(0, .ref 29), (1, .int (18 : Int32))]) h_m308 (z_at.mk 1 rfl rfl) rfl rfl rfl (by decide) rfl (by decide) rfl rfl rfl ?_
  refine w_p h_m308 3 (pc' := 14) (L' := [(0, .ref 29), (1, .int (18 : Int32))]) (st' := [.int (105 : Int32)]) rfl ?_
  refine w_ri h_m308 (z_at.mk 1 rfl rfl) rfl rfl ?_
  show z_W 996 294 15 [(0, .ref 11), (1, .int (18 : Int32))] [.int (105 : Int32)] m _
  refine w_ri h_m294 (z_at.mk 1 rfl rfl) rfl rfl ?_
  show z_W 997 218 43 [(0, .ref 143), (1, .ref 11), (2, .int (0 : Int32)), (3, .int (3 : Int32)), (4, .int (16 : Int32)), (5, .int (2 : Int32))] [.int (105 : Int32)] m _
  refine w_p h_m218 8 (pc' := 28) (L' := [(0, .ref 143), (1, .ref 11), (2, .int (0 : Int32)), (3, .int (3 : Int32)), (4, .int (16 : Int32)), (5, .int (3 : Int32))]) (st' := [.ref 11, .int (19 : Int32)]) rfl ?_
  refine w_cv (H.te (by decide) rfl).1 (pc' := 31) (L' := [(0, .ref 143), (1, .ref 11), (2, .int (0 : Int32)), (3, .int (3 : Int32)), (4, .int (16 : Int32)), (5, .int (3 : Int32))]) (rest := [.int (19 : Int32)]) (Ps := []) (L0 := [(0, .ref 11)]) h_m218 (z_at.mk 3 rfl rfl) (Or.inl ⟨rfl, rfl⟩) rfl rfl (by decide) (by decide) rfl rfl rfl rfl rfl rfl (by decide) rfl rfl rfl ?_
  refine w_p h_m293 1 (pc' := 1) (L' := [(0, .ref 11)]) (st' := [.ref 11]) rfl ?_
  refine w_gs H (pc' := 4) (L' := [(0, .ref 11)]) h_m293 (z_at.mk 3 rfl rfl) rfl (by decide) rfl rfl rfl rfl ?_
  refine w_lene H (x := (39 : Int32)) (pc' := 5) (L' := [(0, .ref 11)]) h_m293 (z_at.mk 1 rfl rfl) (by decide) rfl (by decide) rfl rfl rfl ?_
  refine w_p h_m293 1 (pc' := 6) (L' := [(0, .ref 11)]) (st' := [.ref 11, .int (39 : Int32)]) rfl ?_
  refine w_cv (H.te (by decide) rfl).1 (pc' := 9) (L' := [(0, .ref 11)]) (rest := [.int (39 : Int32)]) (Ps := []) (L0 := [(0, .ref 11)]) h_m293 (z_at.mk 3 rfl rfl) (Or.inl ⟨rfl, rfl⟩) rfl rfl (by decide) (by decide) rfl rfl rfl rfl rfl rfl (by decide) rfl rfl rfl ?_
  refine w_p h_m298 3 (pc' := 7) (L' := [(0, .ref 11)]) (st' := [.ref 11]) rfl ?_
  refine w_gs H (pc' := 10) (L' := [(0, .ref 11)]) h_m298 (z_at.mk 3 rfl rfl) rfl (by decide) rfl rfl rfl rfl ?_
  refine w_p h_m298 1 (pc' := 14) (L' := []) (st' := [.int (0 : Int32)]) rfl ?_
  refine w_ri h_m298 (z_at.mk 1 rfl rfl) rfl rfl ?_
  show z_W 996 293 9 [(0, .ref 11)] [.int (0 : Int32), .int (39 : Int32)] m _
  refine w_p h_m293 1 (pc' := 10) (L' := [(0, .ref 11)]) (st' := [.int (39 : Int32)]) rfl ?_
  refine w_ri h_m293 (z_at.mk 1 rfl rfl) rfl rfl ?_
  show z_W 997 218 31 [(0, .ref 143), (1, .ref 11), (2, .int (0 : Int32)), (3, .int (3 : Int32)), (4, .int (16 : Int32)), (5, .int (3 : Int32))] [.int (39 : Int32), .int (19 : Int32)] m _
  refine w_p h_m218 5 (pc' := 40) (L' := [(0, .ref 143), (1, .ref 11), (2, .int (0 : Int32)), (3, .int (3 : Int32)), (4, .int (16 : Int32)), (5, .int (3 : Int32))]) (st' := [.int (19 : Int32), .ref 11]) rfl ?_
  refine w_cv (H.te (by decide) rfl).1 (pc' := 43) (L' := [(0, .ref 143), (1, .ref 11), (2, .int (0 : Int32)), (3, .int (3 : Int32)), (4, .int (16 : Int32)), (5, .int (3 : Int32))]) (rest := []) (Ps := [.int (19 : Int32)]) (L0 := [(0, .ref 11), (1, .int (19 : Int32))]) h_m218 (z_at.mk 3 rfl rfl) (Or.inl ⟨rfl, rfl⟩) rfl rfl (by decide) (by decide) rfl rfl rfl rfl rfl rfl (by decide) rfl rfl rfl ?_
  refine w_p h_m294 1 (pc' := 1) (L' := [(0, .ref 11), (1, .int (19 : Int32))]) (st' := [.ref 11]) rfl ?_
  refine w_cv (H.te (by decide) rfl).1 (pc' := 4) (L' := [(0, .ref 11), (1, .int (19 : Int32))]) (rest := []) (Ps := []) (L0 := [(0, .ref 11)]) h_m294 (z_at.mk 3 rfl rfl) (Or.inl ⟨rfl, rfl⟩) rfl rfl (by decide) (by decide) rfl rfl rfl rfl rfl rfl (by decide) rfl rfl rfl ?_
  refine w_p h_m299 3 (pc' := 7) (L' := [(0, .ref 11)]) (st' := [.ref 11]) rfl ?_
  refine w_gs H (pc' := 10) (L' := [(0, .ref 11)]) h_m299 (z_at.mk 3 rfl rfl) rfl (by decide) rfl rfl rfl rfl ?_
  refine w_p h_m299 3 (pc' := 18) (L' := []) (st' := [.int (1 : Int32)]) rfl ?_
  refine w_ri h_m299 (z_at.mk 1 rfl rfl) rfl rfl ?_
  show z_W 996 294 4 [(0, .ref 11), (1, .int (19 : Int32))] [.int (1 : Int32)] m _
  refine w_p h_m294 2 (pc' := 8) (L' := [(0, .ref 11), (1, .int (19 : Int32))]) (st' := [.ref 11]) rfl ?_
  refine w_gs H (pc' := 11) (L' := [(0, .ref 11), (1, .int (19 : Int32))]) h_m294 (z_at.mk 3 rfl rfl) rfl (by decide) rfl rfl rfl rfl ?_
  refine w_p h_m294 1 (pc' := 12) (L' := [(0, .ref 11), (1, .int (19 : Int32))]) (st' := [.int (19 : Int32), .ref 29]) rfl ?_
  refine w_cs (As := [.ref 29, .int (19 : Int32)]) (rest := []) (j := 308) (L0 := [(0, .ref 29), (1, .int (19 : Int32))]) (pc' := 15) (L' := [(0, .ref 11), (1, .int (19 : Int32))]) h_m294 (z_at.mk 3 rfl rfl) (Or.inl ⟨rfl, rfl⟩) rfl rfl rfl rfl rfl ?_
  refine w_p h_m308 2 (pc' := 2) (L' := [(0, .ref 29), (1, .int (19 : Int32))]) (st' := [.ref 29, .int (19 : Int32)]) rfl ?_
  refine w_lene H (x := (39 : Int32)) (pc' := 3) (L' := [(0, .ref 29), (1, .int (19 : Int32))]) h_m308 (z_at.mk 1 rfl rfl) (by decide) rfl (by decide) rfl rfl rfl ?_
  refine w_ci (pc' := 6) (L' := [(0, .ref 29), (1, .int (19 : Int32))]) h_m308 (z_at.mk 3 rfl rfl) rfl (z_cat_le 0 rfl (by decide)) ⟨by decide, by decide⟩ rfl rfl ?_
  refine w_p h_m308 2 (pc' := 8) (L' := [(0, .ref 29), (1, .int (19 : Int32))]) (st' := [.int (19 : Int32), .ref 29]) rfl ?_
  refine w_ae H (j := 19) (pc' := 9) (L' := [(0, .ref 29), (1, .int (19 : Int32))]) h_m308 (z_at.mk 1 rfl rfl) rfl rfl rfl (by decide) rfl (by decide) rfl rfl rfl ?_
  refine w_p h_m308 3 (pc' := 14) (L' := [(0, .ref 29), (1, .int (19 : Int32))]) (st' := [.int (116 : Int32)]) rfl ?_
  refine w_ri h_m308 (z_at.mk 1 rfl rfl) rfl rfl ?_
  show z_W 996 294 15 [(0, .ref 11), (1, .int (19 : Int32))] [.int (116 : Int32)] m _
  refine w_ri h_m294 (z_at.mk 1 rfl rfl) rfl rfl ?_
  show z_W 997 218 43 [(0, .ref 143), (1, .ref 11), (2, .int (0 : Int32)), (3, .int (3 : Int32)), (4, .int (16 : Int32)), (5, .int (3 : Int32))] [.int (116 : Int32)] m _
  refine w_p h_m218 8 (pc' := 28) (L' := [(0, .ref 143), (1, .ref 11), (2, .int (0 : Int32)), (3, .int (3 : Int32)), (4, .int (16 : Int32)), (5, .int (4 : Int32))]) (st' := [.ref 11, .int (20 : Int32)]) rfl ?_
  refine w_cv (H.te (by decide) rfl).1 (pc' := 31) (L' := [(0, .ref 143), (1, .ref 11), (2, .int (0 : Int32)), (3, .int (3 : Int32)), (4, .int (16 : Int32)), (5, .int (4 : Int32))]) (rest := [.int (20 : Int32)]) (Ps := []) (L0 := [(0, .ref 11)]) h_m218 (z_at.mk 3 rfl rfl) (Or.inl ⟨rfl, rfl⟩) rfl rfl (by decide) (by decide) rfl rfl rfl rfl rfl rfl (by decide) rfl rfl rfl ?_
  refine w_p h_m293 1 (pc' := 1) (L' := [(0, .ref 11)]) (st' := [.ref 11]) rfl ?_
  refine w_gs H (pc' := 4) (L' := [(0, .ref 11)]) h_m293 (z_at.mk 3 rfl rfl) rfl (by decide) rfl rfl rfl rfl ?_
  refine w_lene H (x := (39 : Int32)) (pc' := 5) (L' := [(0, .ref 11)]) h_m293 (z_at.mk 1 rfl rfl) (by decide) rfl (by decide) rfl rfl rfl ?_
  refine w_p h_m293 1 (pc' := 6) (L' := [(0, .ref 11)]) (st' := [.ref 11, .int (39 : Int32)]) rfl ?_
  refine w_cv (H.te (by decide) rfl).1 (pc' := 9) (L' := [(0, .ref 11)]) (rest := [.int (39 : Int32)]) (Ps := []) (L0 := [(0, .ref 11)]) h_m293 (z_at.mk 3 rfl rfl) (Or.inl ⟨rfl, rfl⟩) rfl rfl (by decide) (by decide) rfl rfl rfl rfl rfl rfl (by decide) rfl rfl rfl ?_
  refine w_p h_m298 3 (pc' := 7) (L' := [(0, .ref 11)]) (st' := [.ref 11]) rfl ?_
  refine w_gs H (pc' := 10) (L' := [(0, .ref 11)]) h_m298 (z_at.mk 3 rfl rfl) rfl (by decide) rfl rfl rfl rfl ?_
  refine w_p h_m298 1 (pc' := 14) (L' := []) (st' := [.int (0 : Int32)]) rfl ?_
  refine w_ri h_m298 (z_at.mk 1 rfl rfl) rfl rfl ?_
  show z_W 996 293 9 [(0, .ref 11)] [.int (0 : Int32), .int (39 : Int32)] m _
  refine w_p h_m293 1 (pc' := 10) (L' := [(0, .ref 11)]) (st' := [.int (39 : Int32)]) rfl ?_
  refine w_ri h_m293 (z_at.mk 1 rfl rfl) rfl rfl ?_
  show z_W 997 218 31 [(0, .ref 143), (1, .ref 11), (2, .int (0 : Int32)), (3, .int (3 : Int32)), (4, .int (16 : Int32)), (5, .int (4 : Int32))] [.int (39 : Int32), .int (20 : Int32)] m _
  refine w_p h_m218 5 (pc' := 40) (L' := [(0, .ref 143), (1, .ref 11), (2, .int (0 : Int32)), (3, .int (3 : Int32)), (4, .int (16 : Int32)), (5, .int (4 : Int32))]) (st' := [.int (20 : Int32), .ref 11]) rfl ?_
  refine w_cv (H.te (by decide) rfl).1 (pc' := 43) (L' := [(0, .ref 143), (1, .ref 11), (2, .int (0 : Int32)), (3, .int (3 : Int32)), (4, .int (16 : Int32)), (5, .int (4 : Int32))]) (rest := []) (Ps := [.int (20 : Int32)]) (L0 := [(0, .ref 11), (1, .int (20 : Int32))]) h_m218 (z_at.mk 3 rfl rfl) (Or.inl ⟨rfl, rfl⟩) rfl rfl (by decide) (by decide) rfl rfl rfl rfl rfl rfl (by decide) rfl rfl rfl ?_
  refine w_p h_m294 1 (pc' := 1) (L' := [(0, .ref 11), (1, .int (20 : Int32))]) (st' := [.ref 11]) rfl ?_
  refine w_cv (H.te (by decide) rfl).1 (pc' := 4) (L' := [(0, .ref 11), (1, .int (20 : Int32))]) (rest := []) (Ps := []) (L0 := [(0, .ref 11)]) h_m294 (z_at.mk 3 rfl rfl) (Or.inl ⟨rfl, rfl⟩) rfl rfl (by decide) (by decide) rfl rfl rfl rfl rfl rfl (by decide) rfl rfl rfl ?_
  refine w_p h_m299 3 (pc' := 7) (L' := [(0, .ref 11)]) (st' := [.ref 11]) rfl ?_
  refine w_gs H (pc' := 10) (L' := [(0, .ref 11)]) h_m299 (z_at.mk 3 rfl rfl) rfl (by decide) rfl rfl rfl rfl ?_
  refine w_p h_m299 3 (pc' := 18) (L' := []) (st' := [.int (1 : Int32)]) rfl ?_
  refine w_ri h_m299 (z_at.mk 1 rfl rfl) rfl rfl ?_
  show z_W 996 294 4 [(0, .ref 11), (1, .int (20 : Int32))] [.int (1 : Int32)] m _
  refine w_p h_m294 2 (pc' := 8) (L' := [(0, .ref 11), (1, .int (20 : Int32))]) (st' := [.ref 11]) rfl ?_
  refine w_gs H (pc' := 11) (L' := [(0, .ref 11), (1, .int (20 : Int32))]) h_m294 (z_at.mk 3 rfl rfl) rfl (by decide) rfl rfl rfl rfl ?_
  refine w_p h_m294 1 (pc' := 12) (L' := [(0, .ref 11), (1, .int (20 : Int32))]) (st' := [.int (20 : Int32), .ref 29]) rfl ?_
  refine w_cs (As := [.ref 29, .int (20 : Int32)]) (rest := []) (j := 308) (L0 := [(0, .ref 29), (1, .int (20 : Int32))]) (pc' := 15) (L' := [(0, .ref 11), (1, .int (20 : Int32))]) h_m294 (z_at.mk 3 rfl rfl) (Or.inl ⟨rfl, rfl⟩) rfl rfl rfl rfl rfl ?_
  refine w_p h_m308 2 (pc' := 2) (L' := [(0, .ref 29), (1, .int (20 : Int32))]) (st' := [.ref 29, .int (20 : Int32)]) rfl ?_
  refine w_lene H (x := (39 : Int32)) (pc' := 3) (L' := [(0, .ref 29), (1, .int (20 : Int32))]) h_m308 (z_at.mk 1 rfl rfl) (by decide) rfl (by decide) rfl rfl rfl ?_
  refine w_ci (pc' := 6) (L' := [(0, .ref 29), (1, .int (20 : Int32))]) h_m308 (z_at.mk 3 rfl rfl) rfl (z_cat_le 0 rfl (by decide)) ⟨by decide, by decide⟩ rfl rfl ?_
  refine w_p h_m308 2 (pc' := 8) (L' := [(0, .ref 29), (1, .int (20 : Int32))]) (st' := [.int (20 : Int32), .ref 29]) rfl ?_
  refine w_ae H (j := 20) (pc' := 9) (L' := [(0, .ref 29), (1, .int (20 : Int32))]) h_m308 (z_at.mk 1 rfl rfl) rfl rfl rfl (by decide) rfl (by decide) rfl rfl rfl ?_
  refine w_p h_m308 3 (pc' := 14) (L' := [(0, .ref 29), (1, .int (20 : Int32))]) (st' := [.int (101 : Int32)]) rfl ?_
  refine w_ri h_m308 (z_at.mk 1 rfl rfl) rfl rfl ?_
  show z_W 996 294 15 [(0, .ref 11), (1, .int (20 : Int32))] [.int (101 : Int32)] m _
  refine w_ri h_m294 (z_at.mk 1 rfl rfl) rfl rfl ?_
  show z_W 997 218 43 [(0, .ref 143), (1, .ref 11), (2, .int (0 : Int32)), (3, .int (3 : Int32)), (4, .int (16 : Int32)), (5, .int (4 : Int32))] [.int (101 : Int32)] m _
  refine w_p h_m218 8 (pc' := 28) (L' := [(0, .ref 143), (1, .ref 11), (2, .int (0 : Int32)), (3, .int (3 : Int32)), (4, .int (16 : Int32)), (5, .int (5 : Int32))]) (st' := [.ref 11, .int (21 : Int32)]) rfl ?_
  refine w_cv (H.te (by decide) rfl).1 (pc' := 31) (L' := [(0, .ref 143), (1, .ref 11), (2, .int (0 : Int32)), (3, .int (3 : Int32)), (4, .int (16 : Int32)), (5, .int (5 : Int32))]) (rest := [.int (21 : Int32)]) (Ps := []) (L0 := [(0, .ref 11)]) h_m218 (z_at.mk 3 rfl rfl) (Or.inl ⟨rfl, rfl⟩) rfl rfl (by decide) (by decide) rfl rfl rfl rfl rfl rfl (by decide) rfl rfl rfl ?_
  refine w_p h_m293 1 (pc' := 1) (L' := [(0, .ref 11)]) (st' := [.ref 11]) rfl ?_
  refine w_gs H (pc' := 4) (L' := [(0, .ref 11)]) h_m293 (z_at.mk 3 rfl rfl) rfl (by decide) rfl rfl rfl rfl ?_
  refine w_lene H (x := (39 : Int32)) (pc' := 5) (L' := [(0, .ref 11)]) h_m293 (z_at.mk 1 rfl rfl) (by decide) rfl (by decide) rfl rfl rfl ?_
  refine w_p h_m293 1 (pc' := 6) (L' := [(0, .ref 11)]) (st' := [.ref 11, .int (39 : Int32)]) rfl ?_
  refine w_cv (H.te (by decide) rfl).1 (pc' := 9) (L' := [(0, .ref 11)]) (rest := [.int (39 : Int32)]) (Ps := []) (L0 := [(0, .ref 11)]) h_m293 (z_at.mk 3 rfl rfl) (Or.inl ⟨rfl, rfl⟩) rfl rfl (by decide) (by decide) rfl rfl rfl rfl rfl rfl (by decide) rfl rfl rfl ?_
  refine w_p h_m298 3 (pc' := 7) (L' := [(0, .ref 11)]) (st' := [.ref 11]) rfl ?_
  refine w_gs H (pc' := 10) (L' := [(0, .ref 11)]) h_m298 (z_at.mk 3 rfl rfl) rfl (by decide) rfl rfl rfl rfl ?_
  refine w_p h_m298 1 (pc' := 14) (L' := []) (st' := [.int (0 : Int32)]) rfl ?_
  refine w_ri h_m298 (z_at.mk 1 rfl rfl) rfl rfl ?_
  show z_W 996 293 9 [(0, .ref 11)] [.int (0 : Int32), .int (39 : Int32)] m _
  refine w_p h_m293 1 (pc' := 10) (L' := [(0, .ref 11)]) (st' := [.int (39 : Int32)]) rfl ?_
  refine w_ri h_m293 (z_at.mk 1 rfl rfl) rfl rfl ?_
  show z_W 997 218 31 [(0, .ref 143), (1, .ref 11), (2, .int (0 : Int32)), (3, .int (3 : Int32)), (4, .int (16 : Int32)), (5, .int (5 : Int32))] [.int (39 : Int32), .int (21 : Int32)] m _
  refine w_p h_m218 5 (pc' := 40) (L' := [(0, .ref 143), (1, .ref 11), (2, .int (0 : Int32)), (3, .int (3 : Int32)), (4, .int (16 : Int32)), (5, .int (5 : Int32))]) (st' := [.int (21 : Int32), .ref 11]) rfl ?_
  refine w_cv (H.te (by decide) rfl).1 (pc' := 43) (L' := [(0, .ref 143), (1, .ref 11), (2, .int (0 : Int32)), (3, .int (3 : Int32)), (4, .int (16 : Int32)), (5, .int (5 : Int32))]) (rest := []) (Ps := [.int (21 : Int32)]) (L0 := [(0, .ref 11), (1, .int (21 : Int32))]) h_m218 (z_at.mk 3 rfl rfl) (Or.inl ⟨rfl, rfl⟩) rfl rfl (by decide) (by decide) rfl rfl rfl rfl rfl rfl (by decide) rfl rfl rfl ?_
  refine w_p h_m294 1 (pc' := 1) (L' := [(0, .ref 11), (1, .int (21 : Int32))]) (st' := [.ref 11]) rfl ?_
  refine w_cv (H.te (by decide) rfl).1 (pc' := 4) (L' := [(0, .ref 11), (1, .int (21 : Int32))]) (rest := []) (Ps := []) (L0 := [(0, .ref 11)]) h_m294 (z_at.mk 3 rfl rfl) (Or.inl ⟨rfl, rfl⟩) rfl rfl (by decide) (by decide) rfl rfl rfl rfl rfl rfl (by decide) rfl rfl rfl ?_
  refine w_p h_m299 3 (pc' := 7) (L' := [(0, .ref 11)]) (st' := [.ref 11]) rfl ?_
  refine w_gs H (pc' := 10) (L' := [(0, .ref 11)]) h_m299 (z_at.mk 3 rfl rfl) rfl (by decide) rfl rfl rfl rfl ?_
  refine w_p h_m299 3 (pc' := 18) (L' := []) (st' := [.int (1 : Int32)]) rfl ?_
  refine w_ri h_m299 (z_at.mk 1 rfl rfl) rfl rfl ?_
  show z_W 996 294 4 [(0, .ref 11), (1, .int (21 : Int32))] [.int (1 : Int32)] m _
  refine w_p h_m294 2 (pc' := 8) (L' := [(0, .ref 11), (1, .int (21 : Int32))]) (st' := [.ref 11]) rfl ?_
  refine w_gs H (pc' := 11) (L' := [(0, .ref 11), (1, .int (21 : Int32))]) h_m294 (z_at.mk 3 rfl rfl) rfl (by decide) rfl rfl rfl rfl ?_
  refine w_p h_m294 1 (pc' := 12) (L' := [(0, .ref 11), (1, .int (21 : Int32))]) (st' := [.int (21 : Int32), .ref 29]) rfl ?_
  refine w_cs (As := [.ref 29, .int (21 : Int32)]) (rest := []) (j := 308) (L0 := [(0, .ref 29), (1, .int (21 : Int32))]) (pc' := 15) (L' := [(0, .ref 11), (1, .int (21 : Int32))]) h_m294 (z_at.mk 3 rfl rfl) (Or.inl ⟨rfl, rfl⟩) rfl rfl rfl rfl rfl ?_
  refine w_p h_m308 2 (pc' := 2) (L' := [(0, .ref 29), (1, .int (21 : Int32))]) (st' := [.ref 29, .int (21 : Int32)]) rfl ?_
  refine w_lene H (x := (39 : Int32)) (pc' := 3) (L' := [(0, .ref 29), (1, .int (21 : Int32))]) h_m308 (z_at.mk 1 rfl rfl) (by decide) rfl (by decide) rfl rfl rfl ?_
  refine w_ci (pc' := 6) (L' := [(0, .ref 29), (1, .int (21 : Int32))]) h_m308 (z_at.mk 3 rfl rfl) rfl (z_cat_le 0 rfl (by decide)) ⟨by decide, by decide⟩ rfl rfl ?_
  refine w_p h_m308 2 (pc' := 8) (L' := [(0, .ref 29), (1, .int (21 : Int32))]) (st' := [.int (21 : Int32), .ref 29]) rfl ?_
  refine w_ae H (j := 21) (pc' := 9) (L' := [(0, .ref 29), (1, .int (21 : Int32))]) h_m308 (z_at.mk 1 rfl rfl) rfl rfl rfl (by decide) rfl (by decide) rfl rfl rfl ?_
  refine w_p h_m308 3 (pc' := 14) (L' := [(0, .ref 29), (1, .int (21 : Int32))]) (st' := [.int (115 : Int32)]) rfl ?_
  refine w_ri h_m308 (z_at.mk 1 rfl rfl) rfl rfl ?_
  show z_W 996 294 15 [(0, .ref 11), (1, .int (21 : Int32))] [.int (115 : Int32)] m _
  refine w_ri h_m294 (z_at.mk 1 rfl rfl) rfl rfl ?_
  show z_W 997 218 43 [(0, .ref 143), (1, .ref 11), (2, .int (0 : Int32)), (3, .int (3 : Int32)), (4, .int (16 : Int32)), (5, .int (5 : Int32))] [.int (115 : Int32)] m _
  refine w_p h_m218 8 (pc' := 28) (L' := [(0, .ref 143), (1, .ref 11), (2, .int (0 : Int32)), (3, .int (3 : Int32)), (4, .int (16 : Int32)), (5, .int (6 : Int32))]) (st' := [.ref 11, .int (22 : Int32)]) rfl ?_
  refine w_cv (H.te (by decide) rfl).1 (pc' := 31) (L' := [(0, .ref 143), (1, .ref 11), (2, .int (0 : Int32)), (3, .int (3 : Int32)), (4, .int (16 : Int32)), (5, .int (6 : Int32))]) (rest := [.int (22 : Int32)]) (Ps := []) (L0 := [(0, .ref 11)]) h_m218 (z_at.mk 3 rfl rfl) (Or.inl ⟨rfl, rfl⟩) rfl rfl (by decide) (by decide) rfl rfl rfl rfl rfl rfl (by decide) rfl rfl rfl ?_
  refine w_p h_m293 1 (pc' := 1) (L' := [(0, .ref 11)]) (st' := [.ref 11]) rfl ?_
  refine w_gs H (pc' := 4) (L' := [(0, .ref 11)]) h_m293 (z_at.mk 3 rfl rfl) rfl (by decide) rfl rfl rfl rfl ?_
  refine w_lene H (x := (39 : Int32)) (pc' := 5) (L' := [(0, .ref 11)]) h_m293 (z_at.mk 1 rfl rfl) (by decide) rfl (by decide) rfl rfl rfl ?_
  refine w_p h_m293 1 (pc' := 6) (L' := [(0, .ref 11)]) (st' := [.ref 11, .int (39 : Int32)]) rfl ?_
  refine w_cv (H.te (by decide) rfl).1 (pc' := 9) (L' := [(0, .ref 11)]) (rest := [.int (39 : Int32)]) (Ps := []) (L0 := [(0, .ref 11)]) h_m293 (z_at.mk 3 rfl rfl) (Or.inl ⟨rfl, rfl⟩) rfl rfl (by decide) (by decide) rfl rfl rfl rfl rfl rfl (by decide) rfl rfl rfl ?_
  refine w_p h_m298 3 (pc' := 7) (L' := [(0, .ref 11)]) (st' := [.ref 11]) rfl ?_
  refine w_gs H (pc' := 10) (L' := [(0, .ref 11)]) h_m298 (z_at.mk 3 rfl rfl) rfl (by decide) rfl rfl rfl rfl ?_
  refine w_p h_m298 1 (pc' := 14) (L' := []) (st' := [.int (0 : Int32)]) rfl ?_
  refine w_ri h_m298 (z_at.mk 1 rfl rfl) rfl rfl ?_
  show z_W 996 293 9 [(0, .ref 11)] [.int (0 : Int32), .int (39 : Int32)] m _
  refine w_p h_m293 1 (pc' := 10) (L' := [(0, .ref 11)]) (st' := [.int (39 : Int32)]) rfl ?_
  refine w_ri h_m293 (z_at.mk 1 rfl rfl) rfl rfl ?_
  show z_W 997 218 31 [(0, .ref 143), (1, .ref 11), (2, .int (0 : Int32)), (3, .int (3 : Int32)), (4, .int (16 : Int32)), (5, .int (6 : Int32))] [.int (39 : Int32), .int (22 : Int32)] m _
  refine w_p h_m218 5 (pc' := 40) (L' := [(0, .ref 143), (1, .ref 11), (2, .int (0 : Int32)), (3, .int (3 : Int32)), (4, .int (16 : Int32)), (5, .int (6 : Int32))]) (st' := [.int (22 : Int32), .ref 11]) rfl ?_
  refine w_cv (H.te (by decide) rfl).1 (pc' := 43) (L' := [(0, .ref 143), (1, .ref 11), (2, .int (0 : Int32)), (3, .int (3 : Int32)), (4, .int (16 : Int32)), (5, .int (6 : Int32))]) (rest := []) (Ps := [.int (22 : Int32)]) (L0 := [(0, .ref 11), (1, .int (22 : Int32))]) h_m218 (z_at.mk 3 rfl rfl) (Or.inl ⟨rfl, rfl⟩) rfl rfl (by decide) (by decide) rfl rfl rfl rfl rfl rfl (by decide) rfl rfl rfl ?_
  refine w_p h_m294 1 (pc' := 1) (L' := [(0, .ref 11), (1, .int (22 : Int32))]) (st' := [.ref 11]) rfl ?_
  refine w_cv (H.te (by decide) rfl).1 (pc' := 4) (L' := [(0, .ref 11), (1, .int (22 : Int32))]) (rest := []) (Ps := []) (L0 := [(0, .ref 11)]) h_m294 (z_at.mk 3 rfl rfl) (Or.inl ⟨rfl, rfl⟩) rfl rfl (by decide) (by decide) rfl rfl rfl rfl rfl rfl (by decide) rfl rfl rfl ?_
  refine w_p h_m299 3 (pc' := 7) (L' := [(0, .ref 11)]) (st' := [.ref 11]) rfl ?_
  refine w_gs H (pc' := 10) (L' := [(0, .ref 11)]) h_m299 (z_at.mk 3 rfl rfl) rfl (by decide) rfl rfl rfl rfl ?_
  refine w_p h_m299 3 (pc' := 18) (L' := []) (st' := [.int (1 : Int32)]) rfl ?_
  refine w_ri h_m299 (z_at.mk 1 rfl rfl) rfl rfl ?_
  show z_W 996 294 4 [(0, .ref 11), (1, .int (22 : Int32))] [.int (1 : Int32)] m _
  refine w_p h_m294 2 (pc' := 8) (L' := [(0, .ref 11), (1, .int (22 : Int32))]) (st' := [.ref 11]) rfl ?_
  refine w_gs H (pc' := 11) (L' := [(0, .ref 11), (1, .int (22 : Int32))]) h_m294 (z_at.mk 3 rfl rfl) rfl (by decide) rfl rfl rfl rfl ?_
  refine w_p h_m294 1 (pc' := 12) (L' := [(0, .ref 11), (1, .int (22 : Int32))]) (st' := [.int (22 : Int32), .ref 29]) rfl ?_
  refine w_cs (As := [.ref 29, .int (22 : Int32)]) (rest := []) (j := 308) (L0 := [(0, .ref 29), (1, .int (22 : Int32))]) (pc' := 15) (L' := [(0, .ref 11), (1, .int (22 : Int32))]) h_m294 (z_at.mk 3 rfl rfl) (Or.inl ⟨rfl, rfl⟩) rfl rfl rfl rfl rfl ?_
  refine w_p h_m308 2 (pc' := 2) (L' := [(0, .ref 29), (1, .int (22 : Int32))]) (st' := [.ref 29, .int (22 : Int32)]) rfl ?_
  refine w_lene H (x := (39 : Int32)) (pc' := 3) (L' := [(0, .ref 29), (1, .int (22 : Int32))]) h_m308 (z_at.mk 1 rfl rfl) (by decide) rfl (by decide) rfl rfl rfl ?_
  refine w_ci (pc' := 6) (L' := [(0, .ref 29), (1, .int (22 : Int32))]) h_m308 (z_at.mk 3 rfl rfl) rfl (z_cat_le 0 rfl (by decide)) ⟨by decide, by decide⟩ rfl rfl ?_
  refine w_p h_m308 2 (pc' := 8) (L' := [(0, .ref 29), (1, .int (22 : Int32))]) (st' := [.int (22 : Int32), .ref 29]) rfl ?_
  refine w_ae H (j := 22) (pc' := 9) (L' := [(0, .ref 29), (1, .int (22 : Int32))]) h_m308 (z_at.mk 1 rfl rfl) rfl rfl rfl (by decide) rfl (by decide) rfl rfl rfl ?_
  refine w_p h_m308 3 (pc' := 14) (L' := [(0, .ref 29), (1, .int (22 : Int32))]) (st' := [.int (32 : Int32)]) rfl ?_
  refine w_ri h_m308 (z_at.mk 1 rfl rfl) rfl rfl ?_
  show z_W 996 294 15 [(0, .ref 11), (1, .int (22 : Int32))] [.int (32 : Int32)] m _
  refine w_ri h_m294 (z_at.mk 1 rfl rfl) rfl rfl ?_
  show z_W 997 218 43 [(0, .ref 143), (1, .ref 11), (2, .int (0 : Int32)), (3, .int (3 : Int32)), (4, .int (16 : Int32)), (5, .int (6 : Int32))] [.int (32 : Int32)] m _
  refine w_p h_m218 5 (pc' := 58) (L' := [(0, .ref 143), (1, .ref 11), (2, .int (0 : Int32)), (3, .int (3 : Int32)), (4, .int (16 : Int32)), (5, .int (6 : Int32))]) (st' := [.ref 143, .int (0 : Int32), .int (6 : Int32)]) rfl ?_
  refine w_gf H (pc' := 61) (L' := [(0, .ref 143), (1, .ref 11), (2, .int (0 : Int32)), (3, .int (3 : Int32)), (4, .int (16 : Int32)), (5, .int (6 : Int32))]) h_m218 (z_at.mk 3 rfl rfl) rfl (u := .int (0 : Int32)) rfl rfl rfl ?_
  refine w_p h_m218 23 (pc' := 13) (L' := [(0, .ref 143), (1, .ref 11), (2, .int (0 : Int32)), (3, .int (4 : Int32)), (4, .int (23 : Int32))]) (st' := [.ref 11, .int (23 : Int32)]) rfl ?_
  refine w_cv (H.te (by decide) rfl).1 (pc' := 16) (L' := [(0, .ref 143), (1, .ref 11), (2, .int (0 : Int32)), (3, .int (4 : Int32)), (4, .int (23 : Int32))]) (rest := [.int (23 : Int32)]) (Ps := []) (L0 := [(0, .ref 11)]) h_m218 (z_at.mk 3 rfl rfl) (Or.inl ⟨rfl, rfl⟩) rfl rfl (by decide) (by decide) rfl rfl rfl rfl rfl rfl (by decide) rfl rfl rfl ?_
  refine w_p h_m293 1 (pc' := 1) (L' := [(0, .ref 11)]) (st' := [.ref 11]) rfl ?_
  refine w_gs H (pc' := 4) (L' := [(0, .ref 11)]) h_m293 (z_at.mk 3 rfl rfl) rfl (by decide) rfl rfl rfl rfl ?_
  refine w_lene H (x := (39 : Int32)) (pc' := 5) (L' := [(0, .ref 11)]) h_m293 (z_at.mk 1 rfl rfl) (by decide) rfl (by decide) rfl rfl rfl ?_
  refine w_p h_m293 1 (pc' := 6) (L' := [(0, .ref 11)]) (st' := [.ref 11, .int (39 : Int32)]) rfl ?_
  refine w_cv (H.te (by decide) rfl).1 (pc' := 9) (L' := [(0, .ref 11)]) (rest := [.int (39 : Int32)]) (Ps := []) (L0 := [(0, .ref 11)]) h_m293 (z_at.mk 3 rfl rfl) (Or.inl ⟨rfl, rfl⟩) rfl rfl (by decide) (by decide) rfl rfl rfl rfl rfl rfl (by decide) rfl rfl rfl ?_
  refine w_p h_m298 3 (pc' := 7) (L' := [(0, .ref 11)]) (st' := [.ref 11]) rfl ?_
  refine w_gs H (pc' := 10) (L' := [(0, .ref 11)]) h_m298 (z_at.mk 3 rfl rfl) rfl (by decide) rfl rfl rfl rfl ?_
  refine w_p h_m298 1 (pc' := 14) (L' := []) (st' := [.int (0 : Int32)]) rfl ?_
  refine w_ri h_m298 (z_at.mk 1 rfl rfl) rfl rfl ?_
  show z_W 996 293 9 [(0, .ref 11)] [.int (0 : Int32), .int (39 : Int32)] m _
  refine w_p h_m293 1 (pc' := 10) (L' := [(0, .ref 11)]) (st' := [.int (39 : Int32)]) rfl ?_
  refine w_ri h_m293 (z_at.mk 1 rfl rfl) rfl rfl ?_
  show z_W 997 218 16 [(0, .ref 143), (1, .ref 11), (2, .int (0 : Int32)), (3, .int (4 : Int32)), (4, .int (23 : Int32))] [.int (39 : Int32), .int (23 : Int32)] m _
  refine w_p h_m218 7 (pc' := 28) (L' := [(0, .ref 143), (1, .ref 11), (2, .int (0 : Int32)), (3, .int (4 : Int32)), (4, .int (23 : Int32)), (5, .int (0 : Int32))]) (st' := [.ref 11, .int (23 : Int32)]) rfl ?_
  refine w_cv (H.te (by decide) rfl).1 (pc' := 31) (L' := [(0, .ref 143), (1, .ref 11), (2, .int (0 : Int32)), (3, .int (4 : Int32)), (4, .int (23 : Int32)), (5, .int (0 : Int32))]) (rest := [.int (23 : Int32)]) (Ps := []) (L0 := [(0, .ref 11)]) h_m218 (z_at.mk 3 rfl rfl) (Or.inl ⟨rfl, rfl⟩) rfl rfl (by decide) (by decide) rfl rfl rfl rfl rfl rfl (by decide) rfl rfl rfl ?_
  refine w_p h_m293 1 (pc' := 1) (L' := [(0, .ref 11)]) (st' := [.ref 11]) rfl ?_
  refine w_gs H (pc' := 4) (L' := [(0, .ref 11)]) h_m293 (z_at.mk 3 rfl rfl) rfl (by decide) rfl rfl rfl rfl ?_
  refine w_lene H (x := (39 : Int32)) (pc' := 5) (L' := [(0, .ref 11)]) h_m293 (z_at.mk 1 rfl rfl) (by decide) rfl (by decide) rfl rfl rfl ?_
  refine w_p h_m293 1 (pc' := 6) (L' := [(0, .ref 11)]) (st' := [.ref 11, .int (39 : Int32)]) rfl ?_
  refine w_cv (H.te (by decide) rfl).1 (pc' := 9) (L' := [(0, .ref 11)]) (rest := [.int (39 : Int32)]) (Ps := []) (L0 := [(0, .ref 11)]) h_m293 (z_at.mk 3 rfl rfl) (Or.inl ⟨rfl, rfl⟩) rfl rfl (by decide) (by decide) rfl rfl rfl rfl rfl rfl (by decide) rfl rfl rfl ?_
  refine w_p h_m298 3 (pc' := 7) (L' := [(0, .ref 11)]) (st' := [.ref 11]) rfl ?_
  refine w_gs H (pc' := 10) (L' := [(0, .ref 11)]) h_m298 (z_at.mk 3 rfl rfl) rfl (by decide) rfl rfl rfl rfl ?_
  refine w_p h_m298 1 (pc' := 14) (L' := []) (st' := [.int (0 : Int32)]) rfl ?_
  refine w_ri h_m298 (z_at.mk 1 rfl rfl) rfl rfl ?_
  show z_W 996 293 9 [(0, .ref 11)] [.int (0 : Int32), .int (39 : Int32)] m _
  refine w_p h_m293 1 (pc' := 10) (L' := [(0, .ref 11)]) (st' := [.int (39 : Int32)]) rfl ?_
  refine w_ri h_m293 (z_at.mk 1 rfl rfl) rfl rfl ?_
  show z_W 997 218 31 [(0, .ref 143), (1, .ref 11), (2, .int (0 : Int32)), (3, .int (4 : Int32)), (4, .int (23 : Int32)), (5, .int (0 : Int32))] [.int (39 : Int32), .int (23 : Int32)] m _
  refine w_p h_m218 5 (pc' := 40) (L' := [(0, .ref 143), (1, .ref 11), (2, .int (0 : Int32)), (3, .int (4 : Int32)), (4, .int (23 : Int32)), (5, .int (0 : Int32))]) (st' := [.int (23 : Int32), .ref 11]) rfl ?_
  refine w_cv (H.te (by decide) rfl).1 (pc' := 43) (L' := [(0, .ref 143), (1, .ref 11), (2, .int (0 : Int32)), (3, .int (4 : Int32)), (4, .int (23 : Int32)), (5, .int (0 : Int32))]) (rest := []) (Ps := [.int (23 : Int32)]) (L0 := [(0, .ref 11), (1, .int (23 : Int32))]) h_m218 (z_at.mk 3 rfl rfl) (Or.inl ⟨rfl, rfl⟩) rfl rfl (by decide) (by decide) rfl rfl rfl rfl rfl rfl (by decide) rfl rfl rfl ?_
  refine w_p h_m294 1 (pc' := 1) (L' := [(0, .ref 11), (1, .int (23 : Int32))]) (st' := [.ref 11]) rfl ?_
  refine w_cv (H.te (by decide) rfl).1 (pc' := 4) (L' := [(0, .ref 11), (1, .int (23 : Int32))]) (rest := []) (Ps := []) (L0 := [(0, .ref 11)]) h_m294 (z_at.mk 3 rfl rfl) (Or.inl ⟨rfl, rfl⟩) rfl rfl (by decide) (by decide) rfl rfl rfl rfl rfl rfl (by decide) rfl rfl rfl ?_
  refine w_p h_m299 3 (pc' := 7) (L' := [(0, .ref 11)]) (st' := [.ref 11]) rfl ?_
  refine w_gs H (pc' := 10) (L' := [(0, .ref 11)]) h_m299 (z_at.mk 3 rfl rfl) rfl (by decide) rfl rfl rfl rfl ?_
  refine w_p h_m299 3 (pc' := 18) (L' := []) (st' := [.int (1 : Int32)]) rfl ?_
  refine w_ri h_m299 (z_at.mk 1 rfl rfl) rfl rfl ?_
  show z_W 996 294 4 [(0, .ref 11), (1, .int (23 : Int32))] [.int (1 : Int32)] m _
  refine w_p h_m294 2 (pc' := 8) (L' := [(0, .ref 11), (1, .int (23 : Int32))]) (st' := [.ref 11]) rfl ?_
  refine w_gs H (pc' := 11) (L' := [(0, .ref 11), (1, .int (23 : Int32))]) h_m294 (z_at.mk 3 rfl rfl) rfl (by decide) rfl rfl rfl rfl ?_
  refine w_p h_m294 1 (pc' := 12) (L' := [(0, .ref 11), (1, .int (23 : Int32))]) (st' := [.int (23 : Int32), .ref 29]) rfl ?_
  refine w_cs (As := [.ref 29, .int (23 : Int32)]) (rest := []) (j := 308) (L0 := [(0, .ref 29), (1, .int (23 : Int32))]) (pc' := 15) (L' := [(0, .ref 11), (1, .int (23 : Int32))]) h_m294 (z_at.mk 3 rfl rfl) (Or.inl ⟨rfl, rfl⟩) rfl rfl rfl rfl rfl ?_
  refine w_p h_m308 2 (pc' := 2) (L' := [(0, .ref 29), (1, .int (23 : Int32))]) (st' := [.ref 29, .int (23 : Int32)]) rfl ?_
  refine w_lene H (x := (39 : Int32)) (pc' := 3) (L' := [(0, .ref 29), (1, .int (23 : Int32))]) h_m308 (z_at.mk 1 rfl rfl) (by decide) rfl (by decide) rfl rfl rfl ?_
  refine w_ci (pc' := 6) (L' := [(0, .ref 29), (1, .int (23 : Int32))]) h_m308 (z_at.mk 3 rfl rfl) rfl (z_cat_le 0 rfl (by decide)) ⟨by decide, by decide⟩ rfl rfl ?_
  refine w_p h_m308 2 (pc' := 8) (L' := [(0, .ref 29), (1, .int (23 : Int32))]) (st' := [.int (23 : Int32), .ref 29]) rfl ?_
  refine w_ae H (j := 23) (pc' := 9) (L' := [(0, .ref 29), (1, .int (23 : Int32))]) h_m308 (z_at.mk 1 rfl rfl) rfl rfl rfl (by decide) rfl (by decide) rfl rfl rfl ?_
  refine w_p h_m308 3 (pc' := 14) (L' := [(0, .ref 29), (1, .int (23 : Int32))]) (st' := [.int (109 : Int32)]) rfl ?_
  refine w_ri h_m308 (z_at.mk 1 rfl rfl) rfl rfl ?_
  show z_W 996 294 15 [(0, .ref 11), (1, .int (23 : Int32))] [.int (109 : Int32)] m _
  refine w_ri h_m294 (z_at.mk 1 rfl rfl) rfl rfl ?_
  show z_W 997 218 43 [(0, .ref 143), (1, .ref 11), (2, .int (0 : Int32)), (3, .int (4 : Int32)), (4, .int (23 : Int32)), (5, .int (0 : Int32))] [.int (109 : Int32)] m _
  refine w_p h_m218 8 (pc' := 28) (L' := [(0, .ref 143), (1, .ref 11), (2, .int (0 : Int32)), (3, .int (4 : Int32)), (4, .int (23 : Int32)), (5, .int (1 : Int32))]) (st' := [.ref 11, .int (24 : Int32)]) rfl ?_
  refine w_cv (H.te (by decide) rfl).1 (pc' := 31) (L' := [(0, .ref 143), (1, .ref 11), (2, .int (0 : Int32)), (3, .int (4 : Int32)), (4, .int (23 : Int32)), (5, .int (1 : Int32))]) (rest := [.int (24 : Int32)]) (Ps := []) (L0 := [(0, .ref 11)]) h_m218 (z_at.mk 3 rfl rfl) (Or.inl ⟨rfl, rfl⟩) rfl rfl (by decide) (by decide) rfl rfl rfl rfl rfl rfl (by decide) rfl rfl rfl ?_
  refine w_p h_m293 1 (pc' := 1) (L' := [(0, .ref 11)]) (st' := [.ref 11]) rfl ?_
  refine w_gs H (pc' := 4) (L' := [(0, .ref 11)]) h_m293 (z_at.mk 3 rfl rfl) rfl (by decide) rfl rfl rfl rfl ?_
  refine w_lene H (x := (39 : Int32)) (pc' := 5) (L' := [(0, .ref 11)]) h_m293 (z_at.mk 1 rfl rfl) (by decide) rfl (by decide) rfl rfl rfl ?_
  refine w_p h_m293 1 (pc' := 6) (L' := [(0, .ref 11)]) (st' := [.ref 11, .int (39 : Int32)]) rfl ?_
  refine w_cv (H.te (by decide) rfl).1 (pc' := 9) (L' := [(0, .ref 11)]) (rest := [.int (39 : Int32)]) (Ps := []) (L0 := [(0, .ref 11)]) h_m293 (z_at.mk 3 rfl rfl) (Or.inl ⟨rfl, rfl⟩) rfl rfl (by decide) (by decide) rfl rfl rfl rfl rfl rfl (by decide) rfl rfl rfl ?_
  refine w_p h_m298 3 (pc' := 7) (L' := [(0, .ref 11)]) (st' := [.ref 11]) rfl ?_
  refine w_gs H (pc' := 10) (L' := [(0, .ref 11)]) h_m298 (z_at.mk 3 rfl rfl) rfl (by decide) rfl rfl rfl rfl ?_
  refine w_p h_m298 1 (pc' := 14) (L' := []) (st' := [.int (0 : Int32)]) rfl ?_
  refine w_ri h_m298 (z_at.mk 1 rfl rfl) rfl rfl ?_
  show z_W 996 293 9 [(0, .ref 11)] [.int (0 : Int32), .int (39 : Int32)] m _
  refine w_p h_m293 1 (pc' := 10) (L' := [(0, .ref 11)]) (st' := [.int (39 : Int32)]) rfl ?_
  refine w_ri h_m293 (z_at.mk 1 rfl rfl) rfl rfl ?_
  show z_W 997 218 31 [(0, .ref 143), (1, .ref 11), (2, .int (0 : Int32)), (3, .int (4 : Int32)), (4, .int (23 : Int32)), (5, .int (1 : Int32))] [.int (39 : Int32), .int (24 : Int32)] m _
  refine w_p h_m218 5 (pc' := 40) (L' := [(0, .ref 143), (1, .ref 11), (2, .int (0 : Int32)), (3, .int (4 : Int32)), (4, .int (23 : Int32)), (5, .int (1 : Int32))]) (st' := [.int (24 : Int32), .ref 11]) rfl ?_
  refine w_cv (H.te (by decide) rfl).1 (pc' := 43) (L' := [(0, .ref 143), (1, .ref 11), (2, .int (0 : Int32)), (3, .int (4 : Int32)), (4, .int (23 : Int32)), (5, .int (1 : Int32))]) (rest := []) (Ps := [.int (24 : Int32)]) (L0 := [(0, .ref 11), (1, .int (24 : Int32))]) h_m218 (z_at.mk 3 rfl rfl) (Or.inl ⟨rfl, rfl⟩) rfl rfl (by decide) (by decide) rfl rfl rfl rfl rfl rfl (by decide) rfl rfl rfl ?_
  refine w_p h_m294 1 (pc' := 1) (L' := [(0, .ref 11), (1, .int (24 : Int32))]) (st' := [.ref 11]) rfl ?_
  refine w_cv (H.te (by decide) rfl).1 (pc' := 4) (L' := [(0, .ref 11), (1, .int (24 : Int32))]) (rest := []) (Ps := []) (L0 := [(0, .ref 11)]) h_m294 (z_at.mk 3 rfl rfl) (Or.inl ⟨rfl, rfl⟩) rfl rfl (by decide) (by decide) rfl rfl rfl rfl rfl rfl (by decide) rfl rfl rfl ?_
  refine w_p h_m299 3 (pc' := 7) (L' := [(0, .ref 11)]) (st' := [.ref 11]) rfl ?_
  refine w_gs H (pc' := 10) (L' := [(0, .ref 11)]) h_m299 (z_at.mk 3 rfl rfl) rfl (by decide) rfl rfl rfl rfl ?_
  refine w_p h_m299 3 (pc' := 18) (L' := []) (st' := [.int (1 : Int32)]) rfl ?_
  refine w_ri h_m299 (z_at.mk 1 rfl rfl) rfl rfl ?_
  show z_W 996 294 4 [(0, .ref 11), (1, .int (24 : Int32))] [.int (1 : Int32)] m _
  refine w_p h_m294 2 (pc' := 8) (L' := [(0, .ref 11), (1, .int (24 : Int32))]) (st' := [.ref 11]) rfl ?_
  refine w_gs H (pc' := 11) (L' := [(0, .ref 11), (1, .int (24 : Int32))]) h_m294 (z_at.mk 3 rfl rfl) rfl (by decide) rfl rfl rfl rfl ?_
  refine w_p h_m294 1 (pc' := 12) (L' := [(0, .ref 11), (1, .int (24 : Int32))]) (st' := [.int (24 : Int32), .ref 29]) rfl ?_
  refine w_cs (As := [.ref 29, .int (24 : Int32)]) (rest := []) (j := 308) (L0 := [(0, .ref 29), (1, .int (24 : Int32))]) (pc' := 15) (L' := [(0, .ref 11), (1, .int (24 : Int32))]) h_m294 (z_at.mk 3 rfl rfl) (Or.inl ⟨rfl, rfl⟩) rfl rfl rfl rfl rfl ?_
  refine w_p h_m308 2 (pc' := 2) (L' := [(0, .ref 29), (1, .int (24 : Int32))]) (st' := [.ref 29, .int (24 : Int32)]) rfl ?_
  refine w_lene H (x := (39 : Int32)) (pc' := 3) (L' := [(0, .ref 29), (1, .int (24 : Int32))]) h_m308 (z_at.mk 1 rfl rfl) (by decide) rfl (by decide) rfl rfl rfl ?_
  refine w_ci (pc' := 6) (L' := [(0, .ref 29), (1, .int (24 : Int32))]) h_m308 (z_at.mk 3 rfl rfl) rfl (z_cat_le 0 rfl (by decide)) ⟨by decide, by decide⟩ rfl rfl ?_
  refine w_p h_m308 2 (pc' := 8) (L' := [(0, .ref 29), (1, .int (24 : Int32))]) (st' := [.int (24 : Int32), .ref 29]) rfl ?_
  refine w_ae H (j := 24) (pc' := 9) (L' := [(0, .ref 29), (1, .int (24 : Int32))]) h_m308 (z_at.mk 1 rfl rfl) rfl rfl rfl (by decide) rfl (by decide) rfl rfl rfl ?_
  refine w_p h_m308 3 (pc' := 14) (L' := [(0, .ref 29), (1, .int (24 : Int32))]) (st' := [.int (101 : Int32)]) rfl ?_
  refine w_ri h_m308 (z_at.mk 1 rfl rfl) rfl rfl ?_
  show z_W 996 294 15 [(0, .ref 11), (1, .int (24 : Int32))] [.int (101 : Int32)] m _
  refine w_ri h_m294 (z_at.mk 1 rfl rfl) rfl rfl ?_
  show z_W 997 218 43 [(0, .ref 143), (1, .ref 11), (2, .int (0 : Int32)), (3, .int (4 : Int32)), (4, .int (23 : Int32)), (5, .int (1 : Int32))] [.int (101 : Int32)] m _
  refine w_p h_m218 8 (pc' := 28) (L' := [(0, .ref 143), (1, .ref 11), (2, .int (0 : Int32)), (3, .int (4 : Int32)), (4, .int (23 : Int32)), (5, .int (2 : Int32))]) (st' := [.ref 11, .int (25 : Int32)]) rfl ?_
  refine w_cv (H.te (by decide) rfl).1 (pc' := 31) (L' := [(0, .ref 143), (1, .ref 11), (2, .int (0 : Int32)), (3, .int (4 : Int32)), (4, .int (23 : Int32)), (5, .int (2 : Int32))]) (rest := [.int (25 : Int32)]) (Ps := []) (L0 := [(0, .ref 11)]) h_m218 (z_at.mk 3 rfl rfl) (Or.inl ⟨rfl, rfl⟩) rfl rfl (by decide) (by decide) rfl rfl rfl rfl rfl rfl (by decide) rfl rfl rfl ?_
  refine w_p h_m293 1 (pc' := 1) (L' := [(0, .ref 11)]) (st' := [.ref 11]) rfl ?_
  refine w_gs H (pc' := 4) (L' := [(0, .ref 11)]) h_m293 (z_at.mk 3 rfl rfl) rfl (by decide) rfl rfl rfl rfl ?_
  refine w_lene H (x := (39 : Int32)) (pc' := 5) (L' := [(0, .ref 11)]) h_m293 (z_at.mk 1 rfl rfl) (by decide) rfl (by decide) rfl rfl rfl ?_
  refine w_p h_m293 1 (pc' := 6) (L' := [(0, .ref 11)]) (st' := [.ref 11, .int (39 : Int32)]) rfl ?_
  refine w_cv (H.te (by decide) rfl).1 (pc' := 9) (L' := [(0, .ref 11)]) (rest := [.int (39 : Int32)]) (Ps := []) (L0 := [(0, .ref 11)]) h_m293 (z_at.mk 3 rfl rfl) (Or.inl ⟨rfl, rfl⟩) rfl rfl (by decide) (by decide) rfl rfl rfl rfl rfl rfl (by decide) rfl rfl rfl ?_
  refine w_p h_m298 3 (pc' := 7) (L' := [(0, .ref 11)]) (st' := [.ref 11]) rfl ?_
  refine w_gs H (pc' := 10) (L' := [(0, .ref 11)]) h_m298 (z_at.mk 3 rfl rfl) rfl (by decide) rfl rfl rfl rfl ?_
  refine w_p h_m298 1 (pc' := 14) (L' := []) (st' := [.int (0 : Int32)]) rfl ?_
  refine w_ri h_m298 (z_at.mk 1 rfl rfl) rfl rfl ?_
  show z_W 996 293 9 [(0, .ref 11)] [.int (0 : Int32), .int (39 : Int32)] m _
  refine w_p h_m293 1 (pc' := 10) (L' := [(0, .ref 11)]) (st' := [.int (39 : Int32)]) rfl ?_
  refine w_ri h_m293 (z_at.mk 1 rfl rfl) rfl rfl ?_
  show z_W 997 218 31 [(0, .ref 143), (1, .ref 11), (2, .int (0 : Int32)), (3, .int (4 : Int32)), (4, .int (23 : Int32)), (5, .int (2 : Int32))] [.int (39 : Int32), .int (25 : Int32)] m _
  refine w_p h_m218 5 (pc' := 40) (L' := [(0, .ref 143), (1, .ref 11), (2, .int (0 : Int32)), (3, .int (4 : Int32)), (4, .int (23 : Int32)), (5, .int (2 : Int32))]) (st' := [.int (25 : Int32), .ref 11]) rfl ?_
  refine w_cv (H.te (by decide) rfl).1 (pc' := 43) (L' := [(0, .ref 143), (1, .ref 11), (2, .int (0 : Int32)), (3, .int (4 : Int32)), (4, .int (23 : Int32)), (5, .int (2 : Int32))]) (rest := []) (Ps := [.int (25 : Int32)]) (L0 := [(0, .ref 11), (1, .int (25 : Int32))]) h_m218 (z_at.mk 3 rfl rfl) (Or.inl ⟨rfl, rfl⟩) rfl rfl (by decide) (by decide) rfl rfl rfl rfl rfl rfl (by decide) rfl rfl rfl ?_
  refine w_p h_m294 1 (pc' := 1) (L' := [(0, .ref 11), (1, .int (25 : Int32))]) (st' := [.ref 11]) rfl ?_
  refine w_cv (H.te (by decide) rfl).1 (pc' := 4) (L' := [(0, .ref 11), (1, .int (25 : Int32))]) (rest := []) (Ps := []) (L0 := [(0, .ref 11)]) h_m294 (z_at.mk 3 rfl rfl) (Or.inl ⟨rfl, rfl⟩) rfl rfl (by decide) (by decide) rfl rfl rfl rfl rfl rfl (by decide) rfl rfl rfl ?_
  refine w_p h_m299 3 (pc' := 7) (L' := [(0, .ref 11)]) (st' := [.ref 11]) rfl ?_
  refine w_gs H (pc' := 10) (L' := [(0, .ref 11)]) h_m299 (z_at.mk 3 rfl rfl) rfl (by decide) rfl rfl rfl rfl ?_
  refine w_p h_m299 3 (pc' := 18) (L' := []) (st' := [.int (1 : Int32)]) rfl ?_
  refine w_ri h_m299 (z_at.mk 1 rfl rfl) rfl rfl ?_
  show z_W 996 294 4 [(0, .ref 11), (1, .int (25 : Int32))] [.int (1 : Int32)] m _
  refine w_p h_m294 2 (pc' := 8) (L' := [(0, .ref 11), (1, .int (25 : Int32))]) (st' := [.ref 11]) rfl ?_
  refine w_gs H (pc' := 11) (L' := [(0, .ref 11), (1, .int (25 : Int32))]) h_m294 (z_at.mk 3 rfl rfl) rfl (by decide) rfl rfl rfl rfl ?_
  refine w_p h_m294 1 (pc' := 12) (L' := [(0, .ref 11), (1, .int (25 : Int32))]) (st' := [.int (25 : Int32), .ref 29]) rfl ?_
  refine w_cs (As := [.ref 29, .int (25 : Int32)]) (rest := []) (j := 308) (L0 := [(0, .ref 29), (1, .int (25 : Int32))]) (pc' := 15) (L' := [(0, .ref 11), (1, .int (25 : Int32))]) h_m294 (z_at.mk 3 rfl rfl) (Or.inl ⟨rfl, rfl⟩) rfl rfl rfl rfl rfl ?_
  refine w_p h_m308 2 (pc' := 2) (L' := [(0, .ref 29), (1, .int (25 : Int32))]) (st' := [.ref 29, .int (25 : Int32)]) rfl ?_
  refine w_lene H (x := (39 : Int32)) (pc' := 3) (L' := [(0, .ref 29), (1, .int (25 : Int32))]) h_m308 (z_at.mk 1 rfl rfl) (by decide) rfl (by decide) rfl rfl rfl ?_
  refine w_ci (pc' := 6) (L' := [(0, .ref 29), (1, .int (25 : Int32))]) h_m308 (z_at.mk 3 rfl rfl) rfl (z_cat_le 0 rfl (by decide)) ⟨by decide, by decide⟩ rfl rfl ?_
  refine w_p h_m308 2 (pc' := 8) (L' := [(0, .ref 29), (1, .int (25 : Int32))]) (st' := [.int (25 : Int32), .ref 29]) rfl ?_
  refine w_ae H (j := 25) (pc' := 9) (L' := [(0, .ref 29), (1, .int (25 : Int32))]) h_m308 (z_at.mk 1 rfl rfl) rfl rfl rfl (by decide) rfl (by decide) rfl rfl rfl ?_
  refine w_p h_m308 3 (pc' := 14) (L' := [(0, .ref 29), (1, .int (25 : Int32))]) (st' := [.int (114 : Int32)]) rfl ?_
  refine w_ri h_m308 (z_at.mk 1 rfl rfl) rfl rfl ?_
  show z_W 996 294 15 [(0, .ref 11), (1, .int (25 : Int32))] [.int (114 : Int32)] m _
  refine w_ri h_m294 (z_at.mk 1 rfl rfl) rfl rfl ?_
  show z_W 997 218 43 [(0, .ref 143), (1, .ref 11), (2, .int (0 : Int32)), (3, .int (4 : Int32)), (4, .int (23 : Int32)), (5, .int (2 : Int32))] [.int (114 : Int32)] m _
  refine w_p h_m218 8 (pc' := 28) (L' := [(0, .ref 143), (1, .ref 11), (2, .int (0 : Int32)), (3, .int (4 : Int32)), (4, .int (23 : Int32)), (5, .int (3 : Int32))]) (st' := [.ref 11, .int (26 : Int32)]) rfl ?_
  refine w_cv (H.te (by decide) rfl).1 (pc' := 31) (L' := [(0, .ref 143), (1, .ref 11), (2, .int (0 : Int32)), (3, .int (4 : Int32)), (4, .int (23 : Int32)), (5, .int (3 : Int32))]) (rest := [.int (26 : Int32)]) (Ps := []) (L0 := [(0, .ref 11)]) h_m218 (z_at.mk 3 rfl rfl) (Or.inl ⟨rfl, rfl⟩) rfl rfl (by decide) (by decide) rfl rfl rfl rfl rfl rfl (by decide) rfl rfl rfl ?_
  refine w_p h_m293 1 (pc' := 1) (L' := [(0, .ref 11)]) (st' := [.ref 11]) rfl ?_
  refine w_gs H (pc' := 4) (L' := [(0, .ref 11)]) h_m293 (z_at.mk 3 rfl rfl) rfl (by decide) rfl rfl rfl rfl ?_
  refine w_lene H (x := (39 : Int32)) (pc' := 5) (L' := [(0, .ref 11)]) h_m293 (z_at.mk 1 rfl rfl) (by decide) rfl (by decide) rfl rfl rfl ?_
  refine w_p h_m293 1 (pc' := 6) (L' := [(0, .ref 11)]) (st' := [.ref 11, .int (39 : Int32)]) rfl ?_
  refine w_cv (H.te (by decide) rfl).1 (pc' := 9) (L' := [(0, .ref 11)]) (rest := [.int (39 : Int32)]) (Ps := []) (L0 := [(0, .ref 11)]) h_m293 (z_at.mk 3 rfl rfl) (Or.inl ⟨rfl, rfl⟩) rfl rfl (by decide) (by decide) rfl rfl rfl rfl rfl rfl (by decide) rfl rfl rfl ?_
  refine w_p h_m298 3 (pc' := 7) (L' := [(0, .ref 11)]) (st' := [.ref 11]) rfl ?_
  refine w_gs H (pc' := 10) (L' := [(0, .ref 11)]) h_m298 (z_at.mk 3 rfl rfl) rfl (by decide) rfl rfl rfl rfl ?_
  refine w_p h_m298 1 (pc' := 14) (L' := []) (st' := [.int (0 : Int32)]) rfl ?_
  refine w_ri h_m298 (z_at.mk 1 rfl rfl) rfl rfl ?_
  show z_W 996 293 9 [(0, .ref 11)] [.int (0 : Int32), .int (39 : Int32)] m _
  refine w_p h_m293 1 (pc' := 10) (L' := [(0, .ref 11)]) (st' := [.int (39 : Int32)]) rfl ?_
  refine w_ri h_m293 (z_at.mk 1 rfl rfl) rfl rfl ?_
  show z_W 997 218 31 [(0, .ref 143), (1, .ref 11), (2, .int (0 : Int32)), (3, .int (4 : Int32)), (4, .int (23 : Int32)), (5, .int (3 : Int32))] [.int (39 : Int32), .int (26 : Int32)] m _
  refine w_p h_m218 5 (pc' := 40) (L' := [(0, .ref 143), (1, .ref 11), (2, .int (0 : Int32)), (3, .int (4 : Int32)), (4, .int (23 : Int32)), (5, .int (3 : Int32))]) (st' := [.int (26 : Int32), .ref 11]) rfl ?_
  refine w_cv (H.te (by decide) rfl).1 (pc' := 43) (L' := [(0, .ref 143), (1, .ref 11), (2, .int (0 : Int32)), (3, .int (4 : Int32)), (4, .int (23 : Int32)), (5, .int (3 : Int32))]) (rest := []) (Ps := [.int (26 : Int32)]) (L0 := [(0, .ref 11), (1, .int (26 : Int32))]) h_m218 (z_at.mk 3 rfl rfl) (Or.inl ⟨rfl, rfl⟩) rfl rfl (by decide) (by decide) rfl rfl rfl rfl rfl rfl (by decide) rfl rfl rfl ?_
  refine w_p h_m294 1 (pc' := 1) (L' := [(0, .ref 11), (1, .int (26 : Int32))]) (st' := [.ref 11]) rfl ?_
  refine w_cv (H.te (by decide) rfl).1 (pc' := 4) (L' := [(0, .ref 11), (1, .int (26 : Int32))]) (rest := []) (Ps := []) (L0 := [(0, .ref 11)]) h_m294 (z_at.mk 3 rfl rfl) (Or.inl ⟨rfl, rfl⟩) rfl rfl (by decide) (by decide) rfl rfl rfl rfl rfl rfl (by decide) rfl rfl rfl ?_
  refine w_p h_m299 3 (pc' := 7) (L' := [(0, .ref 11)]) (st' := [.ref 11]) rfl ?_
  refine w_gs H (pc' := 10) (L' := [(0, .ref 11)]) h_m299 (z_at.mk 3 rfl rfl) rfl (by decide) rfl rfl rfl rfl ?_
  refine w_p h_m299 3 (pc' := 18) (L' := []) (st' := [.int (1 : Int32)]) rfl ?_
  refine w_ri h_m299 (z_at.mk 1 rfl rfl) rfl rfl ?_
  show z_W 996 294 4 [(0, .ref 11), (1, .int (26 : Int32))] [.int (1 : Int32)] m _
  refine w_p h_m294 2 (pc' := 8) (L' := [(0, .ref 11), (1, .int (26 : Int32))]) (st' := [.ref 11]) rfl ?_
  refine w_gs H (pc' := 11) (L' := [(0, .ref 11), (1, .int (26 : Int32))]) h_m294 (z_at.mk 3 rfl rfl) rfl (by decide) rfl rfl rfl rfl ?_
  refine w_p h_m294 1 (pc' := 12) (L' := [(0, .ref 11), (1, .int (26 : Int32))]) (st' := [.int (26 : Int32), .ref 29]) rfl ?_
  refine w_cs (As := [.ref 29, .int (26 : Int32)]) (rest := []) (j := 308) (L0 := [(0, .ref 29), (1, .int (26 : Int32))]) (pc' := 15) (L' := [(0, .ref 11), (1, .int (26 : Int32))]) h_m294 (z_at.mk 3 rfl rfl) (Or.inl ⟨rfl, rfl⟩) rfl rfl rfl rfl rfl ?_
  refine w_p h_m308 2 (pc' := 2) (L' := [(0, .ref 29), (1, .int (26 : Int32))]) (st' := [.ref 29, .int (26 : Int32)]) rfl ?_
  refine w_lene H (x := (39 : Int32)) (pc' := 3) (L' := [(0, .ref 29), (1, .int (26 : Int32))]) h_m308 (z_at.mk 1 rfl rfl) (by decide) rfl (by decide) rfl rfl rfl ?_
  refine w_ci (pc' := 6) (L' := [(0, .ref 29), (1, .int (26 : Int32))]) h_m308 (z_at.mk 3 rfl rfl) rfl (z_cat_le 0 rfl (by decide)) ⟨by decide, by decide⟩ rfl rfl ?_
  refine w_p h_m308 2 (pc' := 8) (L' := [(0, .ref 29), (1, .int (26 : Int32))]) (st' := [.int (26 : Int32), .ref 29]) rfl ?_
  refine w_ae H (j := 26) (pc' := 9) (L' := [(0, .ref 29), (1, .int (26 : Int32))]) h_m308 (z_at.mk 1 rfl rfl) rfl rfl rfl (by decide) rfl (by decide) rfl rfl rfl ?_
  refine w_p h_m308 3 (pc' := 14) (L' := [(0, .ref 29), (1, .int (26 : Int32))]) (st' := [.int (103 : Int32)]) rfl ?_
  refine w_ri h_m308 (z_at.mk 1 rfl rfl) rfl rfl ?_
  show z_W 996 294 15 [(0, .ref 11), (1, .int (26 : Int32))] [.int (103 : Int32)] m _
  refine w_ri h_m294 (z_at.mk 1 rfl rfl) rfl rfl ?_
  show z_W 997 218 43 [(0, .ref 143), (1, .ref 11), (2, .int (0 : Int32)), (3, .int (4 : Int32)), (4, .int (23 : Int32)), (5, .int (3 : Int32))] [.int (103 : Int32)] m _
  refine w_p h_m218 8 (pc' := 28) (L' := [(0, .ref 143), (1, .ref 11), (2, .int (0 : Int32)), (3, .int (4 : Int32)), (4, .int (23 : Int32)), (5, .int (4 : Int32))]) (st' := [.ref 11, .int (27 : Int32)]) rfl ?_
  refine w_cv (H.te (by decide) rfl).1 (pc' := 31) (L' := [(0, .ref 143), (1, .ref 11), (2, .int (0 : Int32)), (3, .int (4 : Int32)), (4, .int (23 : Int32)), (5, .int (4 : Int32))]) (rest := [.int (27 : Int32)]) (Ps := []) (L0 := [(0, .ref 11)]) h_m218 (z_at.mk 3 rfl rfl) (Or.inl ⟨rfl, rfl⟩) rfl rfl (by decide) (by decide) rfl rfl rfl rfl rfl rfl (by decide) rfl rfl rfl ?_
  refine w_p h_m293 1 (pc' := 1) (L' := [(0, .ref 11)]) (st' := [.ref 11]) rfl ?_
  refine w_gs H (pc' := 4) (L' := [(0, .ref 11)]) h_m293 (z_at.mk 3 rfl rfl) rfl (by decide) rfl rfl rfl rfl ?_
  refine w_lene H (x := (39 : Int32)) (pc' := 5) (L' := [(0, .ref 11)]) h_m293 (z_at.mk 1 rfl rfl) (by decide) rfl (by decide) rfl rfl rfl ?_
  refine w_p h_m293 1 (pc' := 6) (L' := [(0, .ref 11)]) (st' := [.ref 11, .int (39 : Int32)]) rfl ?_
  refine w_cv (H.te (by decide) rfl).1 (pc' := 9) (L' := [(0, .ref 11)]) (rest := [.int (39 : Int32)]) (Ps := []) (L0 := [(0, .ref 11)]) h_m293 (z_at.mk 3 rfl rfl) (Or.inl ⟨rfl, rfl⟩) rfl rfl (by decide) (by decide) rfl rfl rfl rfl rfl rfl (by decide) rfl rfl rfl ?_
  refine w_p h_m298 3 (pc' := 7) (L' := [(0, .ref 11)]) (st' := [.ref 11]) rfl ?_
  refine w_gs H (pc' := 10) (L' := [(0, .ref 11)]) h_m298 (z_at.mk 3 rfl rfl) rfl (by decide) rfl rfl rfl rfl ?_
  refine w_p h_m298 1 (pc' := 14) (L' := []) (st' := [.int (0 : Int32)]) rfl ?_
  refine w_ri h_m298 (z_at.mk 1 rfl rfl) rfl rfl ?_
  show z_W 996 293 9 [(0, .ref 11)] [.int (0 : Int32), .int (39 : Int32)] m _
  refine w_p h_m293 1 (pc' := 10) (L' := [(0, .ref 11)]) (st' := [.int (39 : Int32)]) rfl ?_
  refine w_ri h_m293 (z_at.mk 1 rfl rfl) rfl rfl ?_
  show z_W 997 218 31 [(0, .ref 143), (1, .ref 11), (2, .int (0 : Int32)), (3, .int (4 : Int32)), (4, .int (23 : Int32)), (5, .int (4 : Int32))] [.int (39 : Int32), .int (27 : Int32)] m _
  refine w_p h_m218 5 (pc' := 40) (L' := [(0, .ref 143), (1, .ref 11), (2, .int (0 : Int32)), (3, .int (4 : Int32)), (4, .int (23 : Int32)), (5, .int (4 : Int32))]) (st' := [.int (27 : Int32), .ref 11]) rfl ?_
  refine w_cv (H.te (by decide) rfl).1 (pc' := 43) (L' := [(0, .ref 143), (1, .ref 11), (2, .int (0 : Int32)), (3, .int (4 : Int32)), (4, .int (23 : Int32)), (5, .int (4 : Int32))]) (rest := []) (Ps := [.int (27 : Int32)]) (L0 := [(0, .ref 11), (1, .int (27 : Int32))]) h_m218 (z_at.mk 3 rfl rfl) (Or.inl ⟨rfl, rfl⟩) rfl rfl (by decide) (by decide) rfl rfl rfl rfl rfl rfl (by decide) rfl rfl rfl ?_
  refine w_p h_m294 1 (pc' := 1) (L' := [(0, .ref 11), (1, .int (27 : Int32))]) (st' := [.ref 11]) rfl ?_
  refine w_cv (H.te (by decide) rfl).1 (pc' := 4) (L' := [(0, .ref 11), (1, .int (27 : Int32))]) (rest := []) (Ps := []) (L0 := [(0, .ref 11)]) h_m294 (z_at.mk 3 rfl rfl) (Or.inl ⟨rfl, rfl⟩) rfl rfl (by decide) (by decide) rfl rfl rfl rfl rfl rfl (by decide) rfl rfl rfl ?_
  refine w_p h_m299 3 (pc' := 7) (L' := [(0, .ref 11)]) (st' := [.ref 11]) rfl ?_
  refine w_gs H (pc' := 10) (L' := [(0, .ref 11)]) h_m299 (z_at.mk 3 rfl rfl) rfl (by decide) rfl rfl rfl rfl ?_
  refine w_p h_m299 3 (pc' := 18) (L' := []) (st' := [.int (1 : Int32)]) rfl ?_
  refine w_ri h_m299 (z_at.mk 1 rfl rfl) rfl rfl ?_
  show z_W 996 294 4 [(0, .ref 11), (1, .int (27 : Int32))] [.int (1 : Int32)] m _
  refine w_p h_m294 2 (pc' := 8) (L' := [(0, .ref 11), (1, .int (27 : Int32))]) (st' := [.ref 11]) rfl ?_
  refine w_gs H (pc' := 11) (L' := [(0, .ref 11), (1, .int (27 : Int32))]) h_m294 (z_at.mk 3 rfl rfl) rfl (by decide) rfl rfl rfl rfl ?_
  refine w_p h_m294 1 (pc' := 12) (L' := [(0, .ref 11), (1, .int (27 : Int32))]) (st' := [.int (27 : Int32), .ref 29]) rfl ?_
  refine w_cs (As := [.ref 29, .int (27 : Int32)]) (rest := []) (j := 308) (L0 := [(0, .ref 29), (1, .int (27 : Int32))]) (pc' := 15) (L' := [(0, .ref 11), (1, .int (27 : Int32))]) h_m294 (z_at.mk 3 rfl rfl) (Or.inl ⟨rfl, rfl⟩) rfl rfl rfl rfl rfl ?_
  refine w_p h_m308 2 (pc' := 2) (L' := [(0, .ref 29), (1, .int (27 : Int32))]) (st' := [.ref 29, .int (27 : Int32)]) rfl ?_
  refine w_lene H (x := (39 : Int32)) (pc' := 3) (L' := [(0, .ref 29), (1, .int (27 : Int32))]) h_m308 (z_at.mk 1 rfl rfl) (by decide) rfl (by decide) rfl rfl rfl ?_
  refine w_ci (pc' := 6) (L' := [(0, .ref 29), (1, .int (27 : Int32))]) h_m308 (z_at.mk 3 rfl rfl) rfl (z_cat_le 0 rfl (by decide)) ⟨by decide, by decide⟩ rfl rfl ?_
  refine w_p h_m308 2 (pc' := 8) (L' := [(0, .ref 29), (1, .int (27 : Int32))]) (st' := [.int (27 : Int32), .ref 29]) rfl ?_
  refine w_ae H (j := 27) (pc' := 9) (L' := [(0, .ref 29), (1, .int (27 : Int32))]) h_m308 (z_at.mk 1 rfl rfl) rfl rfl rfl (by decide) rfl (by decide) rfl rfl rfl ?_
  refine w_p h_m308 3 (pc' := 14) (L' := [(0, .ref 29), (1, .int (27 : Int32))]) (st' := [.int (101 : Int32)]) rfl ?_
  refine w_ri h_m308 (z_at.mk 1 rfl rfl) rfl rfl ?_
  show z_W 996 294 15 [(0, .ref 11), (1, .int (27 : Int32))] [.int (101 : Int32)] m _
  refine w_ri h_m294 (z_at.mk 1 rfl rfl) rfl rfl ?_
  show z_W 997 218 43 [(0, .ref 143), (1, .ref 11), (2, .int (0 : Int32)), (3, .int (4 : Int32)), (4, .int (23 : Int32)), (5, .int (4 : Int32))] [.int (101 : Int32)] m _
  refine w_p h_m218 8 (pc' := 28) (L' := [(0, .ref 143), (1, .ref 11), (2, .int (0 : Int32)), (3, .int (4 : Int32)), (4, .int (23 : Int32)), (5, .int (5 : Int32))]) (st' := [.ref 11, .int (28 : Int32)]) rfl ?_
  refine w_cv (H.te (by decide) rfl).1 (pc' := 31) (L' := [(0, .ref 143), (1, .ref 11), (2, .int (0 : Int32)), (3, .int (4 : Int32)), (4, .int (23 : Int32)), (5, .int (5 : Int32))]) (rest := [.int (28 : Int32)]) (Ps := []) (L0 := [(0, .ref 11)]) h_m218 (z_at.mk 3 rfl rfl) (Or.inl ⟨rfl, rfl⟩) rfl rfl (by decide) (by decide) rfl rfl rfl rfl rfl rfl (by decide) rfl rfl rfl ?_
  refine w_p h_m293 1 (pc' := 1) (L' := [(0, .ref 11)]) (st' := [.ref 11]) rfl ?_
  refine w_gs H (pc' := 4) (L' := [(0, .ref 11)]) h_m293 (z_at.mk 3 rfl rfl) rfl (by decide) rfl rfl rfl rfl ?_
  refine w_lene H (x := (39 : Int32)) (pc' := 5) (L' := [(0, .ref 11)]) h_m293 (z_at.mk 1 rfl rfl) (by decide) rfl (by decide) rfl rfl rfl ?_
  refine w_p h_m293 1 (pc' := 6) (L' := [(0, .ref 11)]) (st' := [.ref 11, .int (39 : Int32)]) rfl ?_
  refine w_cv (H.te (by decide) rfl).1 (pc' := 9) (L' := [(0, .ref 11)]) (rest := [.int (39 : Int32)]) (Ps := []) (L0 := [(0, .ref 11)]) h_m293 (z_at.mk 3 rfl rfl) (Or.inl ⟨rfl, rfl⟩) rfl rfl (by decide) (by decide) rfl rfl rfl rfl rfl rfl (by decide) rfl rfl rfl ?_
  refine w_p h_m298 3 (pc' := 7) (L' := [(0, .ref 11)]) (st' := [.ref 11]) rfl ?_
  refine w_gs H (pc' := 10) (L' := [(0, .ref 11)]) h_m298 (z_at.mk 3 rfl rfl) rfl (by decide) rfl rfl rfl rfl ?_
  refine w_p h_m298 1 (pc' := 14) (L' := []) (st' := [.int (0 : Int32)]) rfl ?_
  refine w_ri h_m298 (z_at.mk 1 rfl rfl) rfl rfl ?_
  show z_W 996 293 9 [(0, .ref 11)] [.int (0 : Int32), .int (39 : Int32)] m _
  refine w_p h_m293 1 (pc' := 10) (L' := [(0, .ref 11)]) (st' := [.int (39 : Int32)]) rfl ?_
  refine w_ri h_m293 (z_at.mk 1 rfl rfl) rfl rfl ?_
  show z_W 997 218 31 [(0, .ref 143), (1, .ref 11), (2, .int (0 : Int32)), (3, .int (4 : Int32)), (4, .int (23 : Int32)), (5, .int (5 : Int32))] [.int (39 : Int32), .int (28 : Int32)] m _
  refine w_p h_m218 5 (pc' := 40) (L' := [(0, .ref 143), (1, .ref 11), (2, .int (0 : Int32)), (3, .int (4 : Int32)), (4, .int (23 : Int32)), (5, .int (5 : Int32))]) (st' := [.int (28 : Int32), .ref 11]) rfl ?_
  refine w_cv (H.te (by decide) rfl).1 (pc' := 43) (L' := [(0, .ref 143), (1, .ref 11), (2, .int (0 : Int32)), (3, .int (4 : Int32)), (4, .int (23 : Int32)), (5, .int (5 : Int32))]) (rest := []) (Ps := [.int (28 : Int32)]) (L0 := [(0, .ref 11), (1, .int (28 : Int32))]) h_m218 (z_at.mk 3 rfl rfl) (Or.inl ⟨rfl, rfl⟩) rfl rfl (by decide) (by decide) rfl rfl rfl rfl rfl rfl (by decide) rfl rfl rfl ?_
  refine w_p h_m294 1 (pc' := 1) (L' := [(0, .ref 11), (1, .int (28 : Int32))]) (st' := [.ref 11]) rfl ?_
  refine w_cv (H.te (by decide) rfl).1 (pc' := 4) (L' := [(0, .ref 11), (1, .int (28 : Int32))]) (rest := []) (Ps := []) (L0 := [(0, .ref 11)]) h_m294 (z_at.mk 3 rfl rfl) (Or.inl ⟨rfl, rfl⟩) rfl rfl (by decide) (by decide) rfl rfl rfl rfl rfl rfl (by decide) rfl rfl rfl ?_
  refine w_p h_m299 3 (pc' := 7) (L' := [(0, .ref 11)]) (st' := [.ref 11]) rfl ?_
  refine w_gs H (pc' := 10) (L' := [(0, .ref 11)]) h_m299 (z_at.mk 3 rfl rfl) rfl (by decide) rfl rfl rfl rfl ?_
  refine w_p h_m299 3 (pc' := 18) (L' := []) (st' := [.int (1 : Int32)]) rfl ?_
  refine w_ri h_m299 (z_at.mk 1 rfl rfl) rfl rfl ?_
  show z_W 996 294 4 [(0, .ref 11), (1, .int (28 : Int32))] [.int (1 : Int32)] m _
  refine w_p h_m294 2 (pc' := 8) (L' := [(0, .ref 11), (1, .int (28 : Int32))]) (st' := [.ref 11]) rfl ?_
  refine w_gs H (pc' := 11) (L' := [(0, .ref 11), (1, .int (28 : Int32))]) h_m294 (z_at.mk 3 rfl rfl) rfl (by decide) rfl rfl rfl rfl ?_
  refine w_p h_m294 1 (pc' := 12) (L' := [(0, .ref 11), (1, .int (28 : Int32))]) (st' := [.int (28 : Int32), .ref 29]) rfl ?_
  refine w_cs (As := [.ref 29, .int (28 : Int32)]) (rest := []) (j := 308) (L0 := [(0, .ref 29), (1, .int (28 : Int32))]) (pc' := 15) (L' := [(0, .ref 11), (1, .int (28 : Int32))]) h_m294 (z_at.mk 3 rfl rfl) (Or.inl ⟨rfl, rfl⟩) rfl rfl rfl rfl rfl ?_
  refine w_p h_m308 2 (pc' := 2) (L' := [(0, .ref 29), (1, .int (28 : Int32))]) (st' := [.ref 29, .int (28 : Int32)]) rfl ?_
  refine w_lene H (x := (39 : Int32)) (pc' := 3) (L' := [(0, .ref 29), (1, .int (28 : Int32))]) h_m308 (z_at.mk 1 rfl rfl) (by decide) rfl (by decide) rfl rfl rfl ?_
  refine w_ci (pc' := 6) (L' := [(0, .ref 29), (1, .int (28 : Int32))]) h_m308 (z_at.mk 3 rfl rfl) rfl (z_cat_le 0 rfl (by decide)) ⟨by decide, by decide⟩ rfl rfl ?_
  refine w_p h_m308 2 (pc' := 8) (L' := [(0, .ref 29), (1, .int (28 : Int32))]) (st' := [.int (28 : Int32), .ref 29]) rfl ?_
  refine w_ae H (j := 28) (pc' := 9) (L' := [(0, .ref 29), (1, .int (28 : Int32))]) h_m308 (z_at.mk 1 rfl rfl) rfl rfl rfl (by decide) rfl (by decide) rfl rfl rfl ?_
  refine w_p h_m308 3 (pc' := 14) (L' := [(0, .ref 29), (1, .int (28 : Int32))]) (st' := [.int (32 : Int32)]) rfl ?_
  refine w_ri h_m308 (z_at.mk 1 rfl rfl) rfl rfl ?_
  show z_W 996 294 15 [(0, .ref 11), (1, .int (28 : Int32))] [.int (32 : Int32)] m _
  refine w_ri h_m294 (z_at.mk 1 rfl rfl) rfl rfl ?_
  show z_W 997 218 43 [(0, .ref 143), (1, .ref 11), (2, .int (0 : Int32)), (3, .int (4 : Int32)), (4, .int (23 : Int32)), (5, .int (5 : Int32))] [.int (32 : Int32)] m _
  refine w_p h_m218 5 (pc' := 58) (L' := [(0, .ref 143), (1, .ref 11), (2, .int (0 : Int32)), (3, .int (4 : Int32)), (4, .int (23 : Int32)), (5, .int (5 : Int32))]) (st' := [.ref 143, .int (0 : Int32), .int (5 : Int32)]) rfl ?_
  refine w_gf H (pc' := 61) (L' := [(0, .ref 143), (1, .ref 11), (2, .int (0 : Int32)), (3, .int (4 : Int32)), (4, .int (23 : Int32)), (5, .int (5 : Int32))]) h_m218 (z_at.mk 3 rfl rfl) rfl (u := .int (0 : Int32)) rfl rfl rfl ?_
  refine w_p h_m218 23 (pc' := 13) (L' := [(0, .ref 143), (1, .ref 11), (2, .int (0 : Int32)), (3, .int (5 : Int32)), (4, .int (29 : Int32))]) (st' := [.ref 11, .int (29 : Int32)]) rfl ?_
  refine w_cv (H.te (by decide) rfl).1 (pc' := 16) (L' := [(0, .ref 143), (1, .ref 11), (2, .int (0 : Int32)), (3, .int (5 : Int32)), (4, .int (29 : Int32))]) (rest := [.int (29 : Int32)]) (Ps := []) (L0 := [(0, .ref 11)]) h_m218 (z_at.mk 3 rfl rfl) (Or.inl ⟨rfl, rfl⟩) rfl rfl (by decide) (by decide) rfl rfl rfl rfl rfl rfl (by decide) rfl rfl rfl ?_
  refine w_p h_m293 1 (pc' := 1) (L' := [(0, .ref 11)]) (st' := [.ref 11]) rfl ?_
  refine w_gs H (pc' := 4) (L' := [(0, .ref 11)]) h_m293 (z_at.mk 3 rfl rfl) rfl (by decide) rfl rfl rfl rfl ?_
  refine w_lene H (x := (39 : Int32)) (pc' := 5) (L' := [(0, .ref 11)]) h_m293 (z_at.mk 1 rfl rfl) (by decide) rfl (by decide) rfl rfl rfl ?_
  refine w_p h_m293 1 (pc' := 6) (L' := [(0, .ref 11)]) (st' := [.ref 11, .int (39 : Int32)]) rfl ?_
  refine w_cv (H.te (by decide) rfl).1 (pc' := 9) (L' := [(0, .ref 11)]) (rest := [.int (39 : Int32)]) (Ps := []) (L0 := [(0, .ref 11)]) h_m293 (z_at.mk 3 rfl rfl) (Or.inl ⟨rfl, rfl⟩) rfl rfl (by decide) (by decide) rfl rfl rfl rfl rfl rfl (by decide) rfl rfl rfl ?_
  refine w_p h_m298 3 (pc' := 7) (L' := [(0, .ref 11)]) (st' := [.ref 11]) rfl ?_
  refine w_gs H (pc' := 10) (L' := [(0, .ref 11)]) h_m298 (z_at.mk 3 rfl rfl) rfl (by decide) rfl rfl rfl rfl ?_
  refine w_p h_m298 1 (pc' := 14) (L' := []) (st' := [.int (0 : Int32)]) rfl ?_
  refine w_ri h_m298 (z_at.mk 1 rfl rfl) rfl rfl ?_
  show z_W 996 293 9 [(0, .ref 11)] [.int (0 : Int32), .int (39 : Int32)] m _
  refine w_p h_m293 1 (pc' := 10) (L' := [(0, .ref 11)]) (st' := [.int (39 : Int32)]) rfl ?_
  refine w_ri h_m293 (z_at.mk 1 rfl rfl) rfl rfl ?_
  show z_W 997 218 16 [(0, .ref 143), (1, .ref 11), (2, .int (0 : Int32)), (3, .int (5 : Int32)), (4, .int (29 : Int32))] [.int (39 : Int32), .int (29 : Int32)] m _
  refine w_p h_m218 7 (pc' := 28) (L' := [(0, .ref 143), (1, .ref 11), (2, .int (0 : Int32)), (3, .int (5 : Int32)), (4, .int (29 : Int32)), (5, .int (0 : Int32))]) (st' := [.ref 11, .int (29 : Int32)]) rfl ?_
  refine w_cv (H.te (by decide) rfl).1 (pc' := 31) (L' := [(0, .ref 143), (1, .ref 11), (2, .int (0 : Int32)), (3, .int (5 : Int32)), (4, .int (29 : Int32)), (5, .int (0 : Int32))]) (rest := [.int (29 : Int32)]) (Ps := []) (L0 := [(0, .ref 11)]) h_m218 (z_at.mk 3 rfl rfl) (Or.inl ⟨rfl, rfl⟩) rfl rfl (by decide) (by decide) rfl rfl rfl rfl rfl rfl (by decide) rfl rfl rfl ?_
  refine w_p h_m293 1 (pc' := 1) (L' := [(0, .ref 11)]) (st' := [.ref 11]) rfl ?_
  refine w_gs H (pc' := 4) (L' := [(0, .ref 11)]) h_m293 (z_at.mk 3 rfl rfl) rfl (by decide) rfl rfl rfl rfl ?_
  refine w_lene H (x := (39 : Int32)) (pc' := 5) (L' := [(0, .ref 11)]) h_m293 (z_at.mk 1 rfl rfl) (by decide) rfl (by decide) rfl rfl rfl ?_
  refine w_p h_m293 1 (pc' := 6) (L' := [(0, .ref 11)]) (st' := [.ref 11, .int (39 : Int32)]) rfl ?_
  refine w_cv (H.te (by decide) rfl).1 (pc' := 9) (L' := [(0, .ref 11)]) (rest := [.int (39 : Int32)]) (Ps := []) (L0 := [(0, .ref 11)]) h_m293 (z_at.mk 3 rfl rfl) (Or.inl ⟨rfl, rfl⟩) rfl rfl (by decide) (by decide) rfl rfl rfl rfl rfl rfl (by decide) rfl rfl rfl ?_
  refine w_p h_m298 3 (pc' := 7) (L' := [(0, .ref 11)]) (st' := [.ref 11]) rfl ?_
  refine w_gs H (pc' := 10) (L' := [(0, .ref 11)]) h_m298 (z_at.mk 3 rfl rfl) rfl (by decide) rfl rfl rfl rfl ?_
  refine w_p h_m298 1 (pc' := 14) (L' := []) (st' := [.int (0 : Int32)]) rfl ?_
  refine w_ri h_m298 (z_at.mk 1 rfl rfl) rfl rfl ?_
  show z_W 996 293 9 [(0, .ref 11)] [.int (0 : Int32), .int (39 : Int32)] m _
  refine w_p h_m293 1 (pc' := 10) (L' := [(0, .ref 11)]) (st' := [.int (39 : Int32)]) rfl ?_
  refine w_ri h_m293 (z_at.mk 1 rfl rfl) rfl rfl ?_
  show z_W 997 218 31 [(0, .ref 143), (1, .ref 11), (2, .int (0 : Int32)), (3, .int (5 : Int32)), (4, .int (29 : Int32)), (5, .int (0 : Int32))] [.int (39 : Int32), .int (29 : Int32)] m _
  refine w_p h_m218 5 (pc' := 40) (L' := [(0, .ref 143), (1, .ref 11), (2, .int (0 : Int32)), (3, .int (5 : Int32)), (4, .int (29 : Int32)), (5, .int (0 : Int32))]) (st' := [.int (29 : Int32), .ref 11]) rfl ?_
  refine w_cv (H.te (by decide) rfl).1 (pc' := 43) (L' := [(0, .ref 143), (1, .ref 11), (2, .int (0 : Int32)), (3, .int (5 : Int32)), (4, .int (29 : Int32)), (5, .int (0 : Int32))]) (rest := []) (Ps := [.int (29 : Int32)]) (L0 := [(0, .ref 11), (1, .int (29 : Int32))]) h_m218 (z_at.mk 3 rfl rfl) (Or.inl ⟨rfl, rfl⟩) rfl rfl (by decide) (by decide) rfl rfl rfl rfl rfl rfl (by decide) rfl rfl rfl ?_
  refine w_p h_m294 1 (pc' := 1) (L' := [(0, .ref 11), (1, .int (29 : Int32))]) (st' := [.ref 11]) rfl ?_
  refine w_cv (H.te (by decide) rfl).1 (pc' := 4) (L' := [(0, .ref 11), (1, .int (29 : Int32))]) (rest := []) (Ps := []) (L0 := [(0, .ref 11)]) h_m294 (z_at.mk 3 rfl rfl) (Or.inl ⟨rfl, rfl⟩) rfl rfl (by decide) (by decide) rfl rfl rfl rfl rfl rfl (by decide) rfl rfl rfl ?_
  refine w_p h_m299 3 (pc' := 7) (L' := [(0, .ref 11)]) (st' := [.ref 11]) rfl ?_
  refine w_gs H (pc' := 10) (L' := [(0, .ref 11)]) h_m299 (z_at.mk 3 rfl rfl) rfl (by decide) rfl rfl rfl rfl ?_
  refine w_p h_m299 3 (pc' := 18) (L' := []) (st' := [.int (1 : Int32)]) rfl ?_
  refine w_ri h_m299 (z_at.mk 1 rfl rfl) rfl rfl ?_
  show z_W 996 294 4 [(0, .ref 11), (1, .int (29 : Int32))] [.int (1 : Int32)] m _
  refine w_p h_m294 2 (pc' := 8) (L' := [(0, .ref 11), (1, .int (29 : Int32))]) (st' := [.ref 11]) rfl ?_
  refine w_gs H (pc' := 11) (L' := [(0, .ref 11), (1, .int (29 : Int32))]) h_m294 (z_at.mk 3 rfl rfl) rfl (by decide) rfl rfl rfl rfl ?_
  refine w_p h_m294 1 (pc' := 12) (L' := [(0, .ref 11), (1, .int (29 : Int32))]) (st' := [.int (29 : Int32), .ref 29]) rfl ?_
  refine w_cs (As := [.ref 29, .int (29 : Int32)]) (rest := []) (j := 308) (L0 := [(0, .ref 29), (1, .int (29 : Int32))]) (pc' := 15) (L' := [(0, .ref 11), (1, .int (29 : Int32))]) h_m294 (z_at.mk 3 rfl rfl) (Or.inl ⟨rfl, rfl⟩) rfl rfl rfl rfl rfl ?_
  refine w_p h_m308 2 (pc' := 2) (L' := [(0, .ref 29), (1, .int (29 : Int32))]) (st' := [.ref 29, .int (29 : Int32)]) rfl ?_
  refine w_lene H (x := (39 : Int32)) (pc' := 3) (L' := [(0, .ref 29), (1, .int (29 : Int32))]) h_m308 (z_at.mk 1 rfl rfl) (by decide) rfl (by decide) rfl rfl rfl ?_
  refine w_ci (pc' := 6) (L' := [(0, .ref 29), (1, .int (29 : Int32))]) h_m308 (z_at.mk 3 rfl rfl) rfl (z_cat_le 0 rfl (by decide)) ⟨by decide, by decide⟩ rfl rfl ?_
  refine w_p h_m308 2 (pc' := 8) (L' := [(0, .ref 29), (1, .int (29 : Int32))]) (st' := [.int (29 : Int32), .ref 29]) rfl ?_
  refine w_ae H (j := 29) (pc' := 9) (L' := [(0, .ref 29), (1, .int (29 : Int32))]) h_m308 (z_at.mk 1 rfl rfl) rfl rfl rfl (by decide) rfl (by decide) rfl rfl rfl ?_
  refine w_p h_m308 3 (pc' := 14) (L' := [(0, .ref 29), (1, .int (29 : Int32))]) (st' := [.int (115 : Int32)]) rfl ?_
  refine w_ri h_m308 (z_at.mk 1 rfl rfl) rfl rfl ?_
  show z_W 996 294 15 [(0, .ref 11), (1, .int (29 : Int32))] [.int (115 : Int32)] m _
  refine w_ri h_m294 (z_at.mk 1 rfl rfl) rfl rfl ?_
  show z_W 997 218 43 [(0, .ref 143), (1, .ref 11), (2, .int (0 : Int32)), (3, .int (5 : Int32)), (4, .int (29 : Int32)), (5, .int (0 : Int32))] [.int (115 : Int32)] m _
  refine w_p h_m218 8 (pc' := 28) (L' := [(0, .ref 143), (1, .ref 11), (2, .int (0 : Int32)), (3, .int (5 : Int32)), (4, .int (29 : Int32)), (5, .int (1 : Int32))]) (st' := [.ref 11, .int (30 : Int32)]) rfl ?_
  refine w_cv (H.te (by decide) rfl).1 (pc' := 31) (L' := [(0, .ref 143), (1, .ref 11), (2, .int (0 : Int32)), (3, .int (5 : Int32)), (4, .int (29 : Int32)), (5, .int (1 : Int32))]) (rest := [.int (30 : Int32)]) (Ps := []) (L0 := [(0, .ref 11)]) h_m218 (z_at.mk 3 rfl rfl) (Or.inl ⟨rfl, rfl⟩) rfl rfl (by decide) (by decide) rfl rfl rfl rfl rfl rfl (by decide) rfl rfl rfl ?_
  refine w_p h_m293 1 (pc' := 1) (L' := [(0, .ref 11)]) (st' := [.ref 11]) rfl ?_
  refine w_gs H (pc' := 4) (L' := [(0, .ref 11)]) h_m293 (z_at.mk 3 rfl rfl) rfl (by decide) rfl rfl rfl rfl ?_
  refine w_lene H (x := (39 : Int32)) (pc' := 5) (L' := [(0, .ref 11)]) h_m293 (z_at.mk 1 rfl rfl) (by decide) rfl (by decide) rfl rfl rfl ?_
  refine w_p h_m293 1 (pc' := 6) (L' := [(0, .ref 11)]) (st' := [.ref 11, .int (39 : Int32)]) rfl ?_
  refine w_cv (H.te (by decide) rfl).1 (pc' := 9) (L' := [(0, .ref 11)]) (rest := [.int (39 : Int32)]) (Ps := []) (L0 := [(0, .ref 11)]) h_m293 (z_at.mk 3 rfl rfl) (Or.inl ⟨rfl, rfl⟩) rfl rfl (by decide) (by decide) rfl rfl rfl rfl rfl rfl (by decide) rfl rfl rfl ?_
  refine w_p h_m298 3 (pc' := 7) (L' := [(0, .ref 11)]) (st' := [.ref 11]) rfl ?_
  refine w_gs H (pc' := 10) (L' := [(0, .ref 11)]) h_m298 (z_at.mk 3 rfl rfl) rfl (by decide) rfl rfl rfl rfl ?_
  refine w_p h_m298 1 (pc' := 14) (L' := []) (st' := [.int (0 : Int32)]) rfl ?_
  refine w_ri h_m298 (z_at.mk 1 rfl rfl) rfl rfl ?_
  show z_W 996 293 9 [(0, .ref 11)] [.int (0 : Int32), .int (39 : Int32)] m _
  refine w_p h_m293 1 (pc' := 10) (L' := [(0, .ref 11)]) (st' := [.int (39 : Int32)]) rfl ?_
  refine w_ri h_m293 (z_at.mk 1 rfl rfl) rfl rfl ?_
  show z_W 997 218 31 [(0, .ref 143), (1, .ref 11), (2, .int (0 : Int32)), (3, .int (5 : Int32)), (4, .int (29 : Int32)), (5, .int (1 : Int32))] [.int (39 : Int32), .int (30 : Int32)] m _
  refine w_p h_m218 5 (pc' := 40) (L' := [(0, .ref 143), (1, .ref 11), (2, .int (0 : Int32)), (3, .int (5 : Int32)), (4, .int (29 : Int32)), (5, .int (1 : Int32))]) (st' := [.int (30 : Int32), .ref 11]) rfl ?_
  refine w_cv (H.te (by decide) rfl).1 (pc' := 43) (L' := [(0, .ref 143), (1, .ref 11), (2, .int (0 : Int32)), (3, .int (5 : Int32)), (4, .int (29 : Int32)), (5, .int (1 : Int32))]) (rest := []) (Ps := [.int (30 : Int32)]) (L0 := [(0, .ref 11), (1, .int (30 : Int32))]) h_m218 (z_at.mk 3 rfl rfl) (Or.inl ⟨rfl, rfl⟩) rfl rfl (by decide) (by decide) rfl rfl rfl rfl rfl rfl (by decide) rfl rfl rfl ?_
  refine w_p h_m294 1 (pc' := 1) (L' := [(0, .ref 11), (1, .int (30 : Int32))]) (st' := [.ref 11]) rfl ?_
  refine w_cv (H.te (by decide) rfl).1 (pc' := 4) (L' := [(0, .ref 11), (1, .int (30 : Int32))]) (rest := []) (Ps := []) (L0 := [(0, .ref 11)]) h_m294 (z_at.mk 3 rfl rfl) (Or.inl ⟨rfl, rfl⟩) rfl rfl (by decide) (by decide) rfl rfl rfl rfl rfl rfl (by decide) rfl rfl rfl ?_
  refine w_p h_m299 3 (pc' := 7) (L' := [(0, .ref 11)]) (st' := [.ref 11]) rfl ?_
  refine w_gs H (pc' := 10) (L' := [(0, .ref 11)]) h_m299 (z_at.mk 3 rfl rfl) rfl (by decide) rfl rfl rfl rfl ?_
  refine w_p h_m299 3 (pc' := 18) (L' := []) (st' := [.int (1 : Int32)]) rfl ?_
  refine w_ri h_m299 (z_at.mk 1 rfl rfl) rfl rfl ?_
  show z_W 996 294 4 [(0, .ref 11), (1, .int (30 : Int32))] [.int (1 : Int32)] m _
  refine w_p h_m294 2 (pc' := 8) (L' := [(0, .ref 11), (1, .int (30 : Int32))]) (st' := [.ref 11]) rfl ?_
  refine w_gs H (pc' := 11) (L' := [(0, .ref 11), (1, .int (30 : Int32))]) h_m294 (z_at.mk 3 rfl rfl) rfl (by decide) rfl rfl rfl rfl ?_
  refine w_p h_m294 1 (pc' := 12) (L' := [(0, .ref 11), (1, .int (30 : Int32))]) (st' := [.int (30 : Int32), .ref 29]) rfl ?_
  refine w_cs (As := [.ref 29, .int (30 : Int32)]) (rest := []) (j := 308) (L0 := [(0, .ref 29), (1, .int (30 : Int32))]) (pc' := 15) (L' := [(0, .ref 11), (1, .int (30 : Int32))]) h_m294 (z_at.mk 3 rfl rfl) (Or.inl ⟨rfl, rfl⟩) rfl rfl rfl rfl rfl ?_
  refine w_p h_m308 2 (pc' := 2) (L' := [(0, .ref 29), (1, .int (30 : Int32))]) (st' := [.ref 29, .int (30 : Int32)]) rfl ?_
  refine w_lene H (x := (39 : Int32)) (pc' := 3) (L' := [(0, .ref 29), (1, .int (30 : Int32))]) h_m308 (z_at.mk 1 rfl rfl) (by decide) rfl (by decide) rfl rfl rfl ?_
  refine w_ci (pc' := 6) (L' := [(0, .ref 29), (1, .int (30 : Int32))]) h_m308 (z_at.mk 3 rfl rfl) rfl (z_cat_le 0 rfl (by decide)) ⟨by decide, by decide⟩ rfl rfl ?_
  refine w_p h_m308 2 (pc' := 8) (L' := [(0, .ref 29), (1, .int (30 : Int32))]) (st' := [.int (30 : Int32), .ref 29]) rfl ?_
  refine w_ae H (j := 30) (pc' := 9) (L' := [(0, .ref 29), (1, .int (30 : Int32))]) h_m308 (z_at.mk 1 rfl rfl) rfl rfl rfl (by decide) rfl (by decide) rfl rfl rfl ?_
  refine w_p h_m308 3 (pc' := 14) (L' := [(0, .ref 29), (1, .int (30 : Int32))]) (st' := [.int (104 : Int32)]) rfl ?_
  refine w_ri h_m308 (z_at.mk 1 rfl rfl) rfl rfl ?_
  show z_W 996 294 15 [(0, .ref 11), (1, .int (30 : Int32))] [.int (104 : Int32)] m _
  refine w_ri h_m294 (z_at.mk 1 rfl rfl) rfl rfl ?_
  show z_W 997 218 43 [(0, .ref 143), (1, .ref 11), (2, .int (0 : Int32)), (3, .int (5 : Int32)), (4, .int (29 : Int32)), (5, .int (1 : Int32))] [.int (104 : Int32)] m _
  refine w_p h_m218 8 (pc' := 28) (L' := [(0, .ref 143), (1, .ref 11), (2, .int (0 : Int32)), (3, .int (5 : Int32)), (4, .int (29 : Int32)), (5, .int (2 : Int32))]) (st' := [.ref 11, .int (31 : Int32)]) rfl ?_
  refine w_cv (H.te (by decide) rfl).1 (pc' := 31) (L' := [(0, .ref 143), (1, .ref 11), (2, .int (0 : Int32)), (3, .int (5 : Int32)), (4, .int (29 : Int32)), (5, .int (2 : Int32))]) (rest := [.int (31 : Int32)]) (Ps := []) (L0 := [(0, .ref 11)]) h_m218 (z_at.mk 3 rfl rfl) (Or.inl ⟨rfl, rfl⟩) rfl rfl (by decide) (by decide) rfl rfl rfl rfl rfl rfl (by decide) rfl rfl rfl ?_
  refine w_p h_m293 1 (pc' := 1) (L' := [(0, .ref 11)]) (st' := [.ref 11]) rfl ?_
  refine w_gs H (pc' := 4) (L' := [(0, .ref 11)]) h_m293 (z_at.mk 3 rfl rfl) rfl (by decide) rfl rfl rfl rfl ?_
  refine w_lene H (x := (39 : Int32)) (pc' := 5) (L' := [(0, .ref 11)]) h_m293 (z_at.mk 1 rfl rfl) (by decide) rfl (by decide) rfl rfl rfl ?_
  refine w_p h_m293 1 (pc' := 6) (L' := [(0, .ref 11)]) (st' := [.ref 11, .int (39 : Int32)]) rfl ?_
  refine w_cv (H.te (by decide) rfl).1 (pc' := 9) (L' := [(0, .ref 11)]) (rest := [.int (39 : Int32)]) (Ps := []) (L0 := [(0, .ref 11)]) h_m293 (z_at.mk 3 rfl rfl) (Or.inl ⟨rfl, rfl⟩) rfl rfl (by decide) (by decide) rfl rfl rfl rfl rfl rfl (by decide) rfl rfl rfl ?_
  refine w_p h_m298 3 (pc' := 7) (L' := [(0, .ref 11)]) (st' := [.ref 11]) rfl ?_
  refine w_gs H (pc' := 10) (L' := [(0, .ref 11)]) h_m298 (z_at.mk 3 rfl rfl) rfl (by decide) rfl rfl rfl rfl ?_
  refine w_p h_m298 1 (pc' := 14) (L' := []) (st' := [.int (0 : Int32)]) rfl ?_
  refine w_ri h_m298 (z_at.mk 1 rfl rfl) rfl rfl ?_
  show z_W 996 293 9 [(0, .ref 11)] [.int (0 : Int32), .int (39 : Int32)] m _
  refine w_p h_m293 1 (pc' := 10) (L' := [(0, .ref 11)]) (st' := [.int (39 : Int32)]) rfl ?_
  refine w_ri h_m293 (z_at.mk 1 rfl rfl) rfl rfl ?_
  show z_W 997 218 31 [(0, .ref 143), (1, .ref 11), (2, .int (0 : Int32)), (3, .int (5 : Int32)), (4, .int (29 : Int32)), (5, .int (2 : Int32))] [.int (39 : Int32), .int (31 : Int32)] m _
  refine w_p h_m218 5 (pc' := 40) (L' := [(0, .ref 143), (1, .ref 11), (2, .int (0 : Int32)), (3, .int (5 : Int32)), (4, .int (29 : Int32)), (5, .int (2 : Int32))]) (st' := [.int (31 : Int32), .ref 11]) rfl ?_
  refine w_cv (H.te (by decide) rfl).1 (pc' := 43) (L' := [(0, .ref 143), (1, .ref 11), (2, .int (0 : Int32)), (3, .int (5 : Int32)), (4, .int (29 : Int32)), (5, .int (2 : Int32))]) (rest := []) (Ps := [.int (31 : Int32)]) (L0 := [(0, .ref 11), (1, .int (31 : Int32))]) h_m218 (z_at.mk 3 rfl rfl) (Or.inl ⟨rfl, rfl⟩) rfl rfl (by decide) (by decide) rfl rfl rfl rfl rfl rfl (by decide) rfl rfl rfl ?_
  refine w_p h_m294 1 (pc' := 1) (L' := [(0, .ref 11), (1, .int (31 : Int32))]) (st' := [.ref 11]) rfl ?_
  refine w_cv (H.te (by decide) rfl).1 (pc' := 4) (L' := [(0, .ref 11), (1, .int (31 : Int32))]) (rest := []) (Ps := []) (L0 := [(0, .ref 11)]) h_m294 (z_at.mk 3 rfl rfl) (Or.inl ⟨rfl, rfl⟩) rfl rfl (by decide) (by decide) rfl rfl rfl rfl rfl rfl (by decide) rfl rfl rfl ?_
  refine w_p h_m299 3 (pc' := 7) (L' := [(0, .ref 11)]) (st' := [.ref 11]) rfl ?_
  refine w_gs H (pc' := 10) (L' := [(0, .ref 11)]) h_m299 (z_at.mk 3 rfl rfl) rfl (by decide) rfl rfl rfl rfl ?_
  refine w_p h_m299 3 (pc' := 18) (L' := []) (st' := [.int (1 : Int32)]) rfl ?_
  refine w_ri h_m299 (z_at.mk 1 rfl rfl) rfl rfl ?_
  show z_W 996 294 4 [(0, .ref 11), (1, .int (31 : Int32))] [.int (1 : Int32)] m _
  refine w_p h_m294 2 (pc' := 8) (L' := [(0, .ref 11), (1, .int (31 : Int32))]) (st' := [.ref 11]) rfl ?_
  refine w_gs H (pc' := 11) (L' := [(0, .ref 11), (1, .int (31 : Int32))]) h_m294 (z_at.mk 3 rfl rfl) rfl (by decide) rfl rfl rfl rfl ?_
  refine w_p h_m294 1 (pc' := 12) (L' := [(0, .ref 11), (1, .int (31 : Int32))]) (st' := [.int (31 : Int32), .ref 29]) rfl ?_
  refine w_cs (As := [.ref 29, .int (31 : Int32)]) (rest := []) (j := 308) (L0 := [(0, .ref 29), (1, .int (31 : Int32))]) (pc' := 15) (L' := [(0, .ref 11), (1, .int (31 : Int32))]) h_m294 (z_at.mk 3 rfl rfl) (Or.inl ⟨rfl, rfl⟩) rfl rfl rfl rfl rfl ?_
  refine w_p h_m308 2 (pc' := 2) (L' := [(0, .ref 29), (1, .int (31 : Int32))]) (st' := [.ref 29, .int (31 : Int32)]) rfl ?_
  refine w_lene H (x := (39 : Int32)) (pc' := 3) (L' := [(0, .ref 29), (1, .int (31 : Int32))]) h_m308 (z_at.mk 1 rfl rfl) (by decide) rfl (by decide) rfl rfl rfl ?_
  refine w_ci (pc' := 6) (L' := [(0, .ref 29), (1, .int (31 : Int32))]) h_m308 (z_at.mk 3 rfl rfl) rfl (z_cat_le 0 rfl (by decide)) ⟨by decide, by decide⟩ rfl rfl ?_
  refine w_p h_m308 2 (pc' := 8) (L' := [(0, .ref 29), (1, .int (31 : Int32))]) (st' := [.int (31 : Int32), .ref 29]) rfl ?_
  refine w_ae H (j := 31) (pc' := 9) (L' := [(0, .ref 29), (1, .int (31 : Int32))]) h_m308 (z_at.mk 1 rfl rfl) rfl rfl rfl (by decide) rfl (by decide) rfl rfl rfl ?_
  refine w_p h_m308 3 (pc' := 14) (L' := [(0, .ref 29), (1, .int (31 : Int32))]) (st' := [.int (114 : Int32)]) rfl ?_
  refine w_ri h_m308 (z_at.mk 1 rfl rfl) rfl rfl ?_
  show z_W 996 294 15 [(0, .ref 11), (1, .int (31 : Int32))] [.int (114 : Int32)] m _
  refine w_ri h_m294 (z_at.mk 1 rfl rfl) rfl rfl ?_
  show z_W 997 218 43 [(0, .ref 143), (1, .ref 11), (2, .int (0 : Int32)), (3, .int (5 : Int32)), (4, .int (29 : Int32)), (5, .int (2 : Int32))] [.int (114 : Int32)] m _
  refine w_p h_m218 8 (pc' := 28) (L' := [(0, .ref 143), (1, .ref 11), (2, .int (0 : Int32)), (3, .int (5 : Int32)), (4, .int (29 : Int32)), (5, .int (3 : Int32))]) (st' := [.ref 11, .int (32 : Int32)]) rfl ?_
  refine w_cv (H.te (by decide) rfl).1 (pc' := 31) (L' := [(0, .ref 143), (1, .ref 11), (2, .int (0 : Int32)), (3, .int (5 : Int32)), (4, .int (29 : Int32)), (5, .int (3 : Int32))]) (rest := [.int (32 : Int32)]) (Ps := []) (L0 := [(0, .ref 11)]) h_m218 (z_at.mk 3 rfl rfl) (Or.inl ⟨rfl, rfl⟩) rfl rfl (by decide) (by decide) rfl rfl rfl rfl rfl rfl (by decide) rfl rfl rfl ?_
  refine w_p h_m293 1 (pc' := 1) (L' := [(0, .ref 11)]) (st' := [.ref 11]) rfl ?_
  refine w_gs H (pc' := 4) (L' := [(0, .ref 11)]) h_m293 (z_at.mk 3 rfl rfl) rfl (by decide) rfl rfl rfl rfl ?_
  refine w_lene H (x := (39 : Int32)) (pc' := 5) (L' := [(0, .ref 11)]) h_m293 (z_at.mk 1 rfl rfl) (by decide) rfl (by decide) rfl rfl rfl ?_
  refine w_p h_m293 1 (pc' := 6) (L' := [(0, .ref 11)]) (st' := [.ref 11, .int (39 : Int32)]) rfl ?_
  refine w_cv (H.te (by decide) rfl).1 (pc' := 9) (L' := [(0, .ref 11)]) (rest := [.int (39 : Int32)]) (Ps := []) (L0 := [(0, .ref 11)]) h_m293 (z_at.mk 3 rfl rfl) (Or.inl ⟨rfl, rfl⟩) rfl rfl (by decide) (by decide) rfl rfl rfl rfl rfl rfl (by decide) rfl rfl rfl ?_
  refine w_p h_m298 3 (pc' := 7) (L' := [(0, .ref 11)]) (st' := [.ref 11]) rfl ?_
  refine w_gs H (pc' := 10) (L' := [(0, .ref 11)]) h_m298 (z_at.mk 3 rfl rfl) rfl (by decide) rfl rfl rfl rfl ?_
  refine w_p h_m298 1 (pc' := 14) (L' := []) (st' := [.int (0 : Int32)]) rfl ?_
  refine w_ri h_m298 (z_at.mk 1 rfl rfl) rfl rfl ?_
  show z_W 996 293 9 [(0, .ref 11)] [.int (0 : Int32), .int (39 : Int32)] m _
  refine w_p h_m293 1 (pc' := 10) (L' := [(0, .ref 11)]) (st' := [.int (39 : Int32)]) rfl ?_
  refine w_ri h_m293 (z_at.mk 1 rfl rfl) rfl rfl ?_
  show z_W 997 218 31 [(0, .ref 143), (1, .ref 11), (2, .int (0 : Int32)), (3, .int (5 : Int32)), (4, .int (29 : Int32)), (5, .int (3 : Int32))] [.int (39 : Int32), .int (32 : Int32)] m _
  refine w_p h_m218 5 (pc' := 40) (L' := [(0, .ref 143), (1, .ref 11), (2, .int (0 : Int32)), (3, .int (5 : Int32)), (4, .int (29 : Int32)), (5, .int (3 : Int32))]) (st' := [.int (32 : Int32), .ref 11]) rfl ?_
  refine w_cv (H.te (by decide) rfl).1 (pc' := 43) (L' := [(0, .ref 143), (1, .ref 11), (2, .int (0 : Int32)), (3, .int (5 : Int32)), (4, .int (29 : Int32)), (5, .int (3 : Int32))]) (rest := []) (Ps := [.int (32 : Int32)]) (L0 := [(0, .ref 11), (1, .int (32 : Int32))]) h_m218 (z_at.mk 3 rfl rfl) (Or.inl ⟨rfl, rfl⟩) rfl rfl (by decide) (by decide) rfl rfl rfl rfl rfl rfl (by decide) rfl rfl rfl ?_
  refine w_p h_m294 1 (pc' := 1) (L' := [(0, .ref 11), (1, .int (32 : Int32))]) (st' := [.ref 11]) rfl ?_
  refine w_cv (H.te (by decide) rfl).1 (pc' := 4) (L' := [(0, .ref 11), (1, .int (32 : Int32))]) (rest := []) (Ps := []) (L0 := [(0, .ref 11)]) h_m294 (z_at.mk 3 rfl rfl) (Or.inl ⟨rfl, rfl⟩) rfl rfl (by decide) (by decide) rfl rfl rfl rfl rfl rfl (by decide) rfl rfl rfl ?_
  refine w_p h_m299 3 (pc' := 7) (L' := [(0, .ref 11)]) (st' := [.ref 11]) rfl ?_
  refine w_gs H (pc' := 10) (L' := [(0, .ref 11)]) h_m299 (z_at.mk 3 rfl rfl) rfl (by decide) rfl rfl rfl rfl ?_
  refine w_p h_m299 3 (pc' := 18) (L' := []) (st' := [.int (1 : Int32)]) rfl ?_
  refine w_ri h_m299 (z_at.mk 1 rfl rfl) rfl rfl ?_
  show z_W 996 294 4 [(0, .ref 11), (1, .int (32 : Int32))] [.int (1 : Int32)] m _
  refine w_p h_m294 2 (pc' := 8) (L' := [(0, .ref 11), (1, .int (32 : Int32))]) (st' := [.ref 11]) rfl ?_
  refine w_gs H (pc' := 11) (L' := [(0, .ref 11), (1, .int (32 : Int32))]) h_m294 (z_at.mk 3 rfl rfl) rfl (by decide) rfl rfl rfl rfl ?_
  refine w_p h_m294 1 (pc' := 12) (L' := [(0, .ref 11), (1, .int (32 : Int32))]) (st' := [.int (32 : Int32), .ref 29]) rfl ?_
  refine w_cs (As := [.ref 29, .int (32 : Int32)]) (rest := []) (j := 308) (L0 := [(0, .ref 29), (1, .int (32 : Int32))]) (pc' := 15) (L' := [(0, .ref 11), (1, .int (32 : Int32))]) h_m294 (z_at.mk 3 rfl rfl) (Or.inl ⟨rfl, rfl⟩) rfl rfl rfl rfl rfl ?_
  refine w_p h_m308 2 (pc' := 2) (L' := [(0, .ref 29), (1, .int (32 : Int32))]) (st' := [.ref 29, .int (32 : Int32)]) rfl ?_
  refine w_lene H (x := (39 : Int32)) (pc' := 3) (L' := [(0, .ref 29), (1, .int (32 : Int32))]) h_m308 (z_at.mk 1 rfl rfl) (by decide) rfl (by decide) rfl rfl rfl ?_
  refine w_ci (pc' := 6) (L' := [(0, .ref 29), (1, .int (32 : Int32))]) h_m308 (z_at.mk 3 rfl rfl) rfl (z_cat_le 0 rfl (by decide)) ⟨by decide, by decide⟩ rfl rfl ?_
  refine w_p h_m308 2 (pc' := 8) (L' := [(0, .ref 29), (1, .int (32 : Int32))]) (st' := [.int (32 : Int32), .ref 29]) rfl ?_
  refine w_ae H (j := 32) (pc' := 9) (L' := [(0, .ref 29), (1, .int (32 : Int32))]) h_m308 (z_at.mk 1 rfl rfl) rfl rfl rfl (by decide) rfl (by decide) rfl rfl rfl ?_
  refine w_p h_m308 3 (pc' := 14) (L' := [(0, .ref 29), (1, .int (32 : Int32))]) (st' := [.int (105 : Int32)]) rfl ?_
  refine w_ri h_m308 (z_at.mk 1 rfl rfl) rfl rfl ?_
  show z_W 996 294 15 [(0, .ref 11), (1, .int (32 : Int32))] [.int (105 : Int32)] m _
  refine w_ri h_m294 (z_at.mk 1 rfl rfl) rfl rfl ?_
  show z_W 997 218 43 [(0, .ref 143), (1, .ref 11), (2, .int (0 : Int32)), (3, .int (5 : Int32)), (4, .int (29 : Int32)), (5, .int (3 : Int32))] [.int (105 : Int32)] m _
  refine w_p h_m218 8 (pc' := 28) (L' := [(0, .ref 143), (1, .ref 11), (2, .int (0 : Int32)), (3, .int (5 : Int32)), (4, .int (29 : Int32)), (5, .int (4 : Int32))]) (st' := [.ref 11, .int (33 : Int32)]) rfl ?_
  refine w_cv (H.te (by decide) rfl).1 (pc' := 31) (L' := [(0, .ref 143), (1, .ref 11), (2, .int (0 : Int32)), (3, .int (5 : Int32)), (4, .int (29 : Int32)), (5, .int (4 : Int32))]) (rest := [.int (33 : Int32)]) (Ps := []) (L0 := [(0, .ref 11)]) h_m218 (z_at.mk 3 rfl rfl) (Or.inl ⟨rfl, rfl⟩) rfl rfl (by decide) (by decide) rfl rfl rfl rfl rfl rfl (by decide) rfl rfl rfl ?_
  refine w_p h_m293 1 (pc' := 1) (L' := [(0, .ref 11)]) (st' := [.ref 11]) rfl ?_
  refine w_gs H (pc' := 4) (L' := [(0, .ref 11)]) h_m293 (z_at.mk 3 rfl rfl) rfl (by decide) rfl rfl rfl rfl ?_
  refine w_lene H (x := (39 : Int32)) (pc' := 5) (L' := [(0, .ref 11)]) h_m293 (z_at.mk 1 rfl rfl) (by decide) rfl (by decide) rfl rfl rfl ?_
  refine w_p h_m293 1 (pc' := 6) (L' := [(0, .ref 11)]) (st' := [.ref 11, .int (39 : Int32)]) rfl ?_
  refine w_cv (H.te (by decide) rfl).1 (pc' := 9) (L' := [(0, .ref 11)]) (rest := [.int (39 : Int32)]) (Ps := []) (L0 := [(0, .ref 11)]) h_m293 (z_at.mk 3 rfl rfl) (Or.inl ⟨rfl, rfl⟩) rfl rfl (by decide) (by decide) rfl rfl rfl rfl rfl rfl (by decide) rfl rfl rfl ?_
  refine w_p h_m298 3 (pc' := 7) (L' := [(0, .ref 11)]) (st' := [.ref 11]) rfl ?_
  refine w_gs H (pc' := 10) (L' := [(0, .ref 11)]) h_m298 (z_at.mk 3 rfl rfl) rfl (by decide) rfl rfl rfl rfl ?_
  refine w_p h_m298 1 (pc' := 14) (L' := []) (st' := [.int (0 : Int32)]) rfl ?_
  refine w_ri h_m298 (z_at.mk 1 rfl rfl) rfl rfl ?_
  show z_W 996 293 9 [(0, .ref 11)] [.int (0 : Int32), .int (39 : Int32)] m _
  refine w_p h_m293 1 (pc' := 10) (L' := [(0, .ref 11)]) (st' := [.int (39 : Int32)]) rfl ?_
  refine w_ri h_m293 (z_at.mk 1 rfl rfl) rfl rfl ?_
  show z_W 997 218 31 [(0, .ref 143), (1, .ref 11), (2, .int (0 : Int32)), (3, .int (5 : Int32)), (4, .int (29 : Int32)), (5, .int (4 : Int32))] [.int (39 : Int32), .int (33 : Int32)] m _
  refine w_p h_m218 5 (pc' := 40) (L' := [(0, .ref 143), (1, .ref 11), (2, .int (0 : Int32)), (3, .int (5 : Int32)), (4, .int (29 : Int32)), (5, .int (4 : Int32))]) (st' := [.int (33 : Int32), .ref 11]) rfl ?_
  refine w_cv (H.te (by decide) rfl).1 (pc' := 43) (L' := [(0, .ref 143), (1, .ref 11), (2, .int (0 : Int32)), (3, .int (5 : Int32)), (4, .int (29 : Int32)), (5, .int (4 : Int32))]) (rest := []) (Ps := [.int (33 : Int32)]) (L0 := [(0, .ref 11), (1, .int (33 : Int32))]) h_m218 (z_at.mk 3 rfl rfl) (Or.inl ⟨rfl, rfl⟩) rfl rfl (by decide) (by decide) rfl rfl rfl rfl rfl rfl (by decide) rfl rfl rfl ?_
  refine w_p h_m294 1 (pc' := 1) (L' := [(0, .ref 11), (1, .int (33 : Int32))]) (st' := [.ref 11]) rfl ?_
  refine w_cv (H.te (by decide) rfl).1 (pc' := 4) (L' := [(0, .ref 11), (1, .int (33 : Int32))]) (rest := []) (Ps := []) (L0 := [(0, .ref 11)]) h_m294 (z_at.mk 3 rfl rfl) (Or.inl ⟨rfl, rfl⟩) rfl rfl (by decide) (by decide) rfl rfl rfl rfl rfl rfl (by decide) rfl rfl rfl ?_
  refine w_p h_m299 3 (pc' := 7) (L' := [(0, .ref 11)]) (st' := [.ref 11]) rfl ?_
  refine w_gs H (pc' := 10) (L' := [(0, .ref 11)]) h_m299 (z_at.mk 3 rfl rfl) rfl (by decide) rfl rfl rfl rfl ?_
  refine w_p h_m299 3 (pc' := 18) (L' := []) (st' := [.int (1 : Int32)]) rfl ?_
  refine w_ri h_m299 (z_at.mk 1 rfl rfl) rfl rfl ?_
  show z_W 996 294 4 [(0, .ref 11), (1, .int (33 : Int32))] [.int (1 : Int32)] m _
  refine w_p h_m294 2 (pc' := 8) (L' := [(0, .ref 11), (1, .int (33 : Int32))]) (st' := [.ref 11]) rfl ?_
  refine w_gs H (pc' := 11) (L' := [(0, .ref 11), (1, .int (33 : Int32))]) h_m294 (z_at.mk 3 rfl rfl) rfl (by decide) rfl rfl rfl rfl ?_
  refine w_p h_m294 1 (pc' := 12) (L' := [(0, .ref 11), (1, .int (33 : Int32))]) (st' := [.int (33 : Int32), .ref 29]) rfl ?_
  refine w_cs (As := [.ref 29, .int (33 : Int32)]) (rest := []) (j := 308) (L0 := [(0, .ref 29), (1, .int (33 : Int32))]) (pc' := 15) (L' := [(0, .ref 11), (1, .int (33 : Int32))]) h_m294 (z_at.mk 3 rfl rfl) (Or.inl ⟨rfl, rfl⟩) rfl rfl rfl rfl rfl ?_
  refine w_p h_m308 2 (pc' := 2) (L' := [(0, .ref 29), (1, .int (33 : Int32))]) (st' := [.ref 29, .int (33 : Int32)]) rfl ?_
  refine w_lene H (x := (39 : Int32)) (pc' := 3) (L' := [(0, .ref 29), (1, .int (33 : Int32))]) h_m308 (z_at.mk 1 rfl rfl) (by decide) rfl (by decide) rfl rfl rfl ?_
  refine w_ci (pc' := 6) (L' := [(0, .ref 29), (1, .int (33 : Int32))]) h_m308 (z_at.mk 3 rfl rfl) rfl (z_cat_le 0 rfl (by decide)) ⟨by decide, by decide⟩ rfl rfl ?_
  refine w_p h_m308 2 (pc' := 8) (L' := [(0, .ref 29), (1, .int (33 : Int32))]) (st' := [.int (33 : Int32), .ref 29]) rfl ?_
  refine w_ae H (j := 33) (pc' := 9) (L' := [(0, .ref 29), (1, .int (33 : Int32))]) h_m308 (z_at.mk 1 rfl rfl) rfl rfl rfl (by decide) rfl (by decide) rfl rfl rfl ?_
  refine w_p h_m308 3 (pc' := 14) (L' := [(0, .ref 29), (1, .int (33 : Int32))]) (st' := [.int (110 : Int32)]) rfl ?_
  refine w_ri h_m308 (z_at.mk 1 rfl rfl) rfl rfl ?_
  show z_W 996 294 15 [(0, .ref 11), (1, .int (33 : Int32))] [.int (110 : Int32)] m _
  refine w_ri h_m294 (z_at.mk 1 rfl rfl) rfl rfl ?_
  show z_W 997 218 43 [(0, .ref 143), (1, .ref 11), (2, .int (0 : Int32)), (3, .int (5 : Int32)), (4, .int (29 : Int32)), (5, .int (4 : Int32))] [.int (110 : Int32)] m _
  refine w_p h_m218 8 (pc' := 28) (L' := [(0, .ref 143), (1, .ref 11), (2, .int (0 : Int32)), (3, .int (5 : Int32)), (4, .int (29 : Int32)), (5, .int (5 : Int32))]) (st' := [.ref 11, .int (34 : Int32)]) rfl ?_
  refine w_cv (H.te (by decide) rfl).1 (pc' := 31) (L' := [(0, .ref 143), (1, .ref 11), (2, .int (0 : Int32)), (3, .int (5 : Int32)), (4, .int (29 : Int32)), (5, .int (5 : Int32))]) (rest := [.int (34 : Int32)]) (Ps := []) (L0 := [(0, .ref 11)]) h_m218 (z_at.mk 3 rfl rfl) (Or.inl ⟨rfl, rfl⟩) rfl rfl (by decide) (by decide) rfl rfl rfl rfl rfl rfl (by decide) rfl rfl rfl ?_
  refine w_p h_m293 1 (pc' := 1) (L' := [(0, .ref 11)]) (st' := [.ref 11]) rfl ?_
  refine w_gs H (pc' := 4) (L' := [(0, .ref 11)]) h_m293 (z_at.mk 3 rfl rfl) rfl (by decide) rfl rfl rfl rfl ?_
  refine w_lene H (x := (39 : Int32)) (pc' := 5) (L' := [(0, .ref 11)]) h_m293 (z_at.mk 1 rfl rfl) (by decide) rfl (by decide) rfl rfl rfl ?_
  refine w_p h_m293 1 (pc' := 6) (L' := [(0, .ref 11)]) (st' := [.ref 11, .int (39 : Int32)]) rfl ?_
  refine w_cv (H.te (by decide) rfl).1 (pc' := 9) (L' := [(0, .ref 11)]) (rest := [.int (39 : Int32)]) (Ps := []) (L0 := [(0, .ref 11)]) h_m293 (z_at.mk 3 rfl rfl) (Or.inl ⟨rfl, rfl⟩) rfl rfl (by decide) (by decide) rfl rfl rfl rfl rfl rfl (by decide) rfl rfl rfl ?_
  refine w_p h_m298 3 (pc' := 7) (L' := [(0, .ref 11)]) (st' := [.ref 11]) rfl ?_
  refine w_gs H (pc' := 10) (L' := [(0, .ref 11)]) h_m298 (z_at.mk 3 rfl rfl) rfl (by decide) rfl rfl rfl rfl ?_
  refine w_p h_m298 1 (pc' := 14) (L' := []) (st' := [.int (0 : Int32)]) rfl ?_
  refine w_ri h_m298 (z_at.mk 1 rfl rfl) rfl rfl ?_
  show z_W 996 293 9 [(0, .ref 11)] [.int (0 : Int32), .int (39 : Int32)] m _
  refine w_p h_m293 1 (pc' := 10) (L' := [(0, .ref 11)]) (st' := [.int (39 : Int32)]) rfl ?_
  refine w_ri h_m293 (z_at.mk 1 rfl rfl) rfl rfl ?_
  show z_W 997 218 31 [(0, .ref 143), (1, .ref 11), (2, .int (0 : Int32)), (3, .int (5 : Int32)), (4, .int (29 : Int32)), (5, .int (5 : Int32))] [.int (39 : Int32), .int (34 : Int32)] m _
  refine w_p h_m218 5 (pc' := 40) (L' := [(0, .ref 143), (1, .ref 11), (2, .int (0 : Int32)), (3, .int (5 : Int32)), (4, .int (29 : Int32)), (5, .int (5 : Int32))]) (st' := [.int (34 : Int32), .ref 11]) rfl ?_
  refine w_cv (H.te (by decide) rfl).1 (pc' := 43) (L' := [(0, .ref 143), (1, .ref 11), (2, .int (0 : Int32)), (3, .int (5 : Int32)), (4, .int (29 : Int32)), (5, .int (5 : Int32))]) (rest := []) (Ps := [.int (34 : Int32)]) (L0 := [(0, .ref 11), (1, .int (34 : Int32))]) h_m218 (z_at.mk 3 rfl rfl) (Or.inl ⟨rfl, rfl⟩) rfl rfl (by decide) (by decide) rfl rfl rfl rfl rfl rfl (by decide) rfl rfl rfl ?_
  refine w_p h_m294 1 (pc' := 1) (L' := [(0, .ref 11), (1, .int (34 : Int32))]) (st' := [.ref 11]) rfl ?_
  refine w_cv (H.te (by decide) rfl).1 (pc' := 4) (L' := [(0, .ref 11), (1, .int (34 : Int32))]) (rest := []) (Ps := []) (L0 := [(0, .ref 11)]) h_m294 (z_at.mk 3 rfl rfl) (Or.inl ⟨rfl, rfl⟩) rfl rfl (by decide) (by decide) rfl rfl rfl rfl rfl rfl (by decide) rfl rfl rfl ?_
  refine w_p h_m299 3 (pc' := 7) (L' := [(0, .ref 11)]) (st' := [.ref 11]) rfl ?_
  refine w_gs H (pc' := 10) (L' := [(0, .ref 11)]) h_m299 (z_at.mk 3 rfl rfl) rfl (by decide) rfl rfl rfl rfl ?_
  refine w_p h_m299 3 (pc' := 18) (L' := []) (st' := [.int (1 : Int32)]) rfl ?_
  refine w_ri h_m299 (z_at.mk 1 rfl rfl) rfl rfl ?_
  show z_W 996 294 4 [(0, .ref 11), (1, .int (34 : Int32))] [.int (1 : Int32)] m _
  refine w_p h_m294 2 (pc' := 8) (L' := [(0, .ref 11), (1, .int (34 : Int32))]) (st' := [.ref 11]) rfl ?_
  refine w_gs H (pc' := 11) (L' := [(0, .ref 11), (1, .int (34 : Int32))]) h_m294 (z_at.mk 3 rfl rfl) rfl (by decide) rfl rfl rfl rfl ?_
  refine w_p h_m294 1 (pc' := 12) (L' := [(0, .ref 11), (1, .int (34 : Int32))]) (st' := [.int (34 : Int32), .ref 29]) rfl ?_
  refine w_cs (As := [.ref 29, .int (34 : Int32)]) (rest := []) (j := 308) (L0 := [(0, .ref 29), (1, .int (34 : Int32))]) (pc' := 15) (L' := [(0, .ref 11), (1, .int (34 : Int32))]) h_m294 (z_at.mk 3 rfl rfl) (Or.inl ⟨rfl, rfl⟩) rfl rfl rfl rfl rfl ?_
  refine w_p h_m308 2 (pc' := 2) (L' := [(0, .ref 29), (1, .int (34 : Int32))]) (st' := [.ref 29, .int (34 : Int32)]) rfl ?_
  refine w_lene H (x := (39 : Int32)) (pc' := 3) (L' := [(0, .ref 29), (1, .int (34 : Int32))]) h_m308 (z_at.mk 1 rfl rfl) (by decide) rfl (by decide) rfl rfl rfl ?_
  refine w_ci (pc' := 6) (L' := [(0, .ref 29), (1, .int (34 : Int32))]) h_m308 (z_at.mk 3 rfl rfl) rfl (z_cat_le 0 rfl (by decide)) ⟨by decide, by decide⟩ rfl rfl ?_
  refine w_p h_m308 2 (pc' := 8) (L' := [(0, .ref 29), (1, .int (34 : Int32))]) (st' := [.int (34 : Int32), .ref 29]) rfl ?_
  refine w_ae H (j := 34) (pc' := 9) (L' := [(0, .ref 29), (1, .int (34 : Int32))]) h_m308 (z_at.mk 1 rfl rfl) rfl rfl rfl (by decide) rfl (by decide) rfl rfl rfl ?_
  refine w_p h_m308 3 (pc' := 14) (L' := [(0, .ref 29), (1, .int (34 : Int32))]) (st' := [.int (107 : Int32)]) rfl ?_
  refine w_ri h_m308 (z_at.mk 1 rfl rfl) rfl rfl ?_
  show z_W 996 294 15 [(0, .ref 11), (1, .int (34 : Int32))] [.int (107 : Int32)] m _
  refine w_ri h_m294 (z_at.mk 1 rfl rfl) rfl rfl ?_
  show z_W 997 218 43 [(0, .ref 143), (1, .ref 11), (2, .int (0 : Int32)), (3, .int (5 : Int32)), (4, .int (29 : Int32)), (5, .int (5 : Int32))] [.int (107 : Int32)] m _
  refine w_p h_m218 8 (pc' := 28) (L' := [(0, .ref 143), (1, .ref 11), (2, .int (0 : Int32)), (3, .int (5 : Int32)), (4, .int (29 : Int32)), (5, .int (6 : Int32))]) (st' := [.ref 11, .int (35 : Int32)]) rfl ?_
  refine w_cv (H.te (by decide) rfl).1 (pc' := 31) (L' := [(0, .ref 143), (1, .ref 11), (2, .int (0 : Int32)), (3, .int (5 : Int32)), (4, .int (29 : Int32)), (5, .int (6 : Int32))]) (rest := [.int (35 : Int32)]) (Ps := []) (L0 := [(0, .ref 11)]) h_m218 (z_at.mk 3 rfl rfl) (Or.inl ⟨rfl, rfl⟩) rfl rfl (by decide) (by decide) rfl rfl rfl rfl rfl rfl (by decide) rfl rfl rfl ?_
  refine w_p h_m293 1 (pc' := 1) (L' := [(0, .ref 11)]) (st' := [.ref 11]) rfl ?_
  refine w_gs H (pc' := 4) (L' := [(0, .ref 11)]) h_m293 (z_at.mk 3 rfl rfl) rfl (by decide) rfl rfl rfl rfl ?_
  refine w_lene H (x := (39 : Int32)) (pc' := 5) (L' := [(0, .ref 11)]) h_m293 (z_at.mk 1 rfl rfl) (by decide) rfl (by decide) rfl rfl rfl ?_
  refine w_p h_m293 1 (pc' := 6) (L' := [(0, .ref 11)]) (st' := [.ref 11, .int (39 : Int32)]) rfl ?_
  refine w_cv (H.te (by decide) rfl).1 (pc' := 9) (L' := [(0, .ref 11)]) (rest := [.int (39 : Int32)]) (Ps := []) (L0 := [(0, .ref 11)]) h_m293 (z_at.mk 3 rfl rfl) (Or.inl ⟨rfl, rfl⟩) rfl rfl (by decide) (by decide) rfl rfl rfl rfl rfl rfl (by decide) rfl rfl rfl ?_
  refine w_p h_m298 3 (pc' := 7) (L' := [(0, .ref 11)]) (st' := [.ref 11]) rfl ?_
  refine w_gs H (pc' := 10) (L' := [(0, .ref 11)]) h_m298 (z_at.mk 3 rfl rfl) rfl (by decide) rfl rfl rfl rfl ?_
  refine w_p h_m298 1 (pc' := 14) (L' := []) (st' := [.int (0 : Int32)]) rfl ?_
  refine w_ri h_m298 (z_at.mk 1 rfl rfl) rfl rfl ?_
  show z_W 996 293 9 [(0, .ref 11)] [.int (0 : Int32), .int (39 : Int32)] m _
  refine w_p h_m293 1 (pc' := 10) (L' := [(0, .ref 11)]) (st' := [.int (39 : Int32)]) rfl ?_
  refine w_ri h_m293 (z_at.mk 1 rfl rfl) rfl rfl ?_
  show z_W 997 218 31 [(0, .ref 143), (1, .ref 11), (2, .int (0 : Int32)), (3, .int (5 : Int32)), (4, .int (29 : Int32)), (5, .int (6 : Int32))] [.int (39 : Int32), .int (35 : Int32)] m _
  refine w_p h_m218 5 (pc' := 40) (L' := [(0, .ref 143), (1, .ref 11), (2, .int (0 : Int32)), (3, .int (5 : Int32)), (4, .int (29 : Int32)), (5, .int (6 : Int32))]) (st' := [.int (35 : Int32), .ref 11]) rfl ?_
  refine w_cv (H.te (by decide) rfl).1 (pc' := 43) (L' := [(0, .ref 143), (1, .ref 11), (2, .int (0 : Int32)), (3, .int (5 : Int32)), (4, .int (29 : Int32)), (5, .int (6 : Int32))]) (rest := []) (Ps := [.int (35 : Int32)]) (L0 := [(0, .ref 11), (1, .int (35 : Int32))]) h_m218 (z_at.mk 3 rfl rfl) (Or.inl ⟨rfl, rfl⟩) rfl rfl (by decide) (by decide) rfl rfl rfl rfl rfl rfl (by decide) rfl rfl rfl ?_
  refine w_p h_m294 1 (pc' := 1) (L' := [(0, .ref 11), (1, .int (35 : Int32))]) (st' := [.ref 11]) rfl ?_
  refine w_cv (H.te (by decide) rfl).1 (pc' := 4) (L' := [(0, .ref 11), (1, .int (35 : Int32))]) (rest := []) (Ps := []) (L0 := [(0, .ref 11)]) h_m294 (z_at.mk 3 rfl rfl) (Or.inl ⟨rfl, rfl⟩) rfl rfl (by decide) (by decide) rfl rfl rfl rfl rfl rfl (by decide) rfl rfl rfl ?_
  refine w_p h_m299 3 (pc' := 7) (L' := [(0, .ref 11)]) (st' := [.ref 11]) rfl ?_
  refine w_gs H (pc' := 10) (L' := [(0, .ref 11)]) h_m299 (z_at.mk 3 rfl rfl) rfl (by decide) rfl rfl rfl rfl ?_
  refine w_p h_m299 3 (pc' := 18) (L' := []) (st' := [.int (1 : Int32)]) rfl ?_
  refine w_ri h_m299 (z_at.mk 1 rfl rfl) rfl rfl ?_
  show z_W 996 294 4 [(0, .ref 11), (1, .int (35 : Int32))] [.int (1 : Int32)] m _
  refine w_p h_m294 2 (pc' := 8) (L' := [(0, .ref 11), (1, .int (35 : Int32))]) (st' := [.ref 11]) rfl ?_
  refine w_gs H (pc' := 11) (L' := [(0, .ref 11), (1, .int (35 : Int32))]) h_m294 (z_at.mk 3 rfl rfl) rfl (by decide) rfl rfl rfl rfl ?_
  refine w_p h_m294 1 (pc' := 12) (L' := [(0, .ref 11), (1, .int (35 : Int32))]) (st' := [.int (35 : Int32), .ref 29]) rfl ?_
  refine w_cs (As := [.ref 29, .int (35 : Int32)]) (rest := []) (j := 308) (L0 := [(0, .ref 29), (1, .int (35 : Int32))]) (pc' := 15) (L' := [(0, .ref 11), (1, .int (35 : Int32))]) h_m294 (z_at.mk 3 rfl rfl) (Or.inl ⟨rfl, rfl⟩) rfl rfl rfl rfl rfl ?_
  refine w_p h_m308 2 (pc' := 2) (L' := [(0, .ref 29), (1, .int (35 : Int32))]) (st' := [.ref 29, .int (35 : Int32)]) rfl ?_
  refine w_lene H (x := (39 : Int32)) (pc' := 3) (L' := [(0, .ref 29), (1, .int (35 : Int32))]) h_m308 (z_at.mk 1 rfl rfl) (by decide) rfl (by decide) rfl rfl rfl ?_
  refine w_ci (pc' := 6) (L' := [(0, .ref 29), (1, .int (35 : Int32))]) h_m308 (z_at.mk 3 rfl rfl) rfl (z_cat_le 0 rfl (by decide)) ⟨by decide, by decide⟩ rfl rfl ?_
  refine w_p h_m308 2 (pc' := 8) (L' := [(0, .ref 29), (1, .int (35 : Int32))]) (st' := [.int (35 : Int32), .ref 29]) rfl ?_
  refine w_ae H (j := 35) (pc' := 9) (L' := [(0, .ref 29), (1, .int (35 : Int32))]) h_m308 (z_at.mk 1 rfl rfl) rfl rfl rfl (by decide) rfl (by decide) rfl rfl rfl ?_
  refine w_p h_m308 3 (pc' := 14) (L' := [(0, .ref 29), (1, .int (35 : Int32))]) (st' := [.int (32 : Int32)]) rfl ?_
  refine w_ri h_m308 (z_at.mk 1 rfl rfl) rfl rfl ?_
  show z_W 996 294 15 [(0, .ref 11), (1, .int (35 : Int32))] [.int (32 : Int32)] m _
  refine w_ri h_m294 (z_at.mk 1 rfl rfl) rfl rfl ?_
  show z_W 997 218 43 [(0, .ref 143), (1, .ref 11), (2, .int (0 : Int32)), (3, .int (5 : Int32)), (4, .int (29 : Int32)), (5, .int (6 : Int32))] [.int (32 : Int32)] m _
  refine w_p h_m218 5 (pc' := 58) (L' := [(0, .ref 143), (1, .ref 11), (2, .int (0 : Int32)), (3, .int (5 : Int32)), (4, .int (29 : Int32)), (5, .int (6 : Int32))]) (st' := [.ref 143, .int (0 : Int32), .int (6 : Int32)]) rfl ?_
  refine w_gf H (pc' := 61) (L' := [(0, .ref 143), (1, .ref 11), (2, .int (0 : Int32)), (3, .int (5 : Int32)), (4, .int (29 : Int32)), (5, .int (6 : Int32))]) h_m218 (z_at.mk 3 rfl rfl) rfl (u := .int (0 : Int32)) rfl rfl rfl ?_
  refine w_p h_m218 23 (pc' := 13) (L' := [(0, .ref 143), (1, .ref 11), (2, .int (0 : Int32)), (3, .int (6 : Int32)), (4, .int (36 : Int32))]) (st' := [.ref 11, .int (36 : Int32)]) rfl ?_
  refine w_cv (H.te (by decide) rfl).1 (pc' := 16) (L' := [(0, .ref 143), (1, .ref 11), (2, .int (0 : Int32)), (3, .int (6 : Int32)), (4, .int (36 : Int32))]) (rest := [.int (36 : Int32)]) (Ps := []) (L0 := [(0, .ref 11)]) h_m218 (z_at.mk 3 rfl rfl) (Or.inl ⟨rfl, rfl⟩) rfl rfl (by decide) (by decide) rfl rfl rfl rfl rfl rfl (by decide) rfl rfl rfl ?_
  refine w_p h_m293 1 (pc' := 1) (L' := [(0, .ref 11)]) (st' := [.ref 11]) rfl ?_
  refine w_gs H (pc' := 4) (L' := [(0, .ref 11)]) h_m293 (z_at.mk 3 rfl rfl) rfl (by decide) rfl rfl rfl rfl ?_
  refine w_lene H (x := (39 : Int32)) (pc' := 5) (L' := [(0, .ref 11)]) h_m293 (z_at.mk 1 rfl rfl) (by decide) rfl (by decide) rfl rfl rfl ?_
  refine w_p h_m293 1 (pc' := 6) (L' := [(0, .ref 11)]) (st' := [.ref 11, .int (39 : Int32)]) rfl ?_
  refine w_cv (H.te (by decide) rfl).1 (pc' := 9) (L' := [(0, .ref 11)]) (rest := [.int (39 : Int32)]) (Ps := []) (L0 := [(0, .ref 11)]) h_m293 (z_at.mk 3 rfl rfl) (Or.inl ⟨rfl, rfl⟩) rfl rfl (by decide) (by decide) rfl rfl rfl rfl rfl rfl (by decide) rfl rfl rfl ?_
  refine w_p h_m298 3 (pc' := 7) (L' := [(0, .ref 11)]) (st' := [.ref 11]) rfl ?_
  refine w_gs H (pc' := 10) (L' := [(0, .ref 11)]) h_m298 (z_at.mk 3 rfl rfl) rfl (by decide) rfl rfl rfl rfl ?_
  refine w_p h_m298 1 (pc' := 14) (L' := []) (st' := [.int (0 : Int32)]) rfl ?_
  refine w_ri h_m298 (z_at.mk 1 rfl rfl) rfl rfl ?_
  show z_W 996 293 9 [(0, .ref 11)] [.int (0 : Int32), .int (39 : Int32)] m _
  refine w_p h_m293 1 (pc' := 10) (L' := [(0, .ref 11)]) (st' := [.int (39 : Int32)]) rfl ?_
  refine w_ri h_m293 (z_at.mk 1 rfl rfl) rfl rfl ?_
  show z_W 997 218 16 [(0, .ref 143), (1, .ref 11), (2, .int (0 : Int32)), (3, .int (6 : Int32)), (4, .int (36 : Int32))] [.int (39 : Int32), .int (36 : Int32)] m _
  refine w_p h_m218 7 (pc' := 28) (L' := [(0, .ref 143), (1, .ref 11), (2, .int (0 : Int32)), (3, .int (6 : Int32)), (4, .int (36 : Int32)), (5, .int (0 : Int32))]) (st' := [.ref 11, .int (36 : Int32)]) rfl ?_
  refine w_cv (H.te (by decide) rfl).1 (pc' := 31) (L' := [(0, .ref 143), (1, .ref 11), (2, .int (0 : Int32)), (3, .int (6 : Int32)), (4, .int (36 : Int32)), (5, .int (0 : Int32))]) (rest := [.int (36 : Int32)]) (Ps := []) (L0 := [(0, .ref 11)]) h_m218 (z_at.mk 3 rfl rfl) (Or.inl ⟨rfl, rfl⟩) rfl rfl (by decide) (by decide) rfl rfl rfl rfl rfl rfl (by decide) rfl rfl rfl ?_
  refine w_p h_m293 1 (pc' := 1) (L' := [(0, .ref 11)]) (st' := [.ref 11]) rfl ?_
  refine w_gs H (pc' := 4) (L' := [(0, .ref 11)]) h_m293 (z_at.mk 3 rfl rfl) rfl (by decide) rfl rfl rfl rfl ?_
  refine w_lene H (x := (39 : Int32)) (pc' := 5) (L' := [(0, .ref 11)]) h_m293 (z_at.mk 1 rfl rfl) (by decide) rfl (by decide) rfl rfl rfl ?_
  refine w_p h_m293 1 (pc' := 6) (L' := [(0, .ref 11)]) (st' := [.ref 11, .int (39 : Int32)]) rfl ?_
  refine w_cv (H.te (by decide) rfl).1 (pc' := 9) (L' := [(0, .ref 11)]) (rest := [.int (39 : Int32)]) (Ps := []) (L0 := [(0, .ref 11)]) h_m293 (z_at.mk 3 rfl rfl) (Or.inl ⟨rfl, rfl⟩) rfl rfl (by decide) (by decide) rfl rfl rfl rfl rfl rfl (by decide) rfl rfl rfl ?_
  refine w_p h_m298 3 (pc' := 7) (L' := [(0, .ref 11)]) (st' := [.ref 11]) rfl ?_
  refine w_gs H (pc' := 10) (L' := [(0, .ref 11)]) h_m298 (z_at.mk 3 rfl rfl) rfl (by decide) rfl rfl rfl rfl ?_
  refine w_p h_m298 1 (pc' := 14) (L' := []) (st' := [.int (0 : Int32)]) rfl ?_
  refine w_ri h_m298 (z_at.mk 1 rfl rfl) rfl rfl ?_
  show z_W 996 293 9 [(0, .ref 11)] [.int (0 : Int32), .int (39 : Int32)] m _
  refine w_p h_m293 1 (pc' := 10) (L' := [(0, .ref 11)]) (st' := [.int (39 : Int32)]) rfl ?_
  refine w_ri h_m293 (z_at.mk 1 rfl rfl) rfl rfl ?_
  show z_W 997 218 31 [(0, .ref 143), (1, .ref 11), (2, .int (0 : Int32)), (3, .int (6 : Int32)), (4, .int (36 : Int32)), (5, .int (0 : Int32))] [.int (39 : Int32), .int (36 : Int32)] m _
  refine w_p h_m218 5 (pc' := 40) (L' := [(0, .ref 143), (1, .ref 11), (2, .int (0 : Int32)), (3, .int (6 : Int32)), (4, .int (36 : Int32)), (5, .int (0 : Int32))]) (st' := [.int (36 : Int32), .ref 11]) rfl ?_
  refine w_cv (H.te (by decide) rfl).1 (pc' := 43) (L' := [(0, .ref 143), (1, .ref 11), (2, .int (0 : Int32)), (3, .int (6 : Int32)), (4, .int (36 : Int32)), (5, .int (0 : Int32))]) (rest := []) (Ps := [.int (36 : Int32)]) (L0 := [(0, .ref 11), (1, .int (36 : Int32))]) h_m218 (z_at.mk 3 rfl rfl) (Or.inl ⟨rfl, rfl⟩) rfl rfl (by decide) (by decide) rfl rfl rfl rfl rfl rfl (by decide) rfl rfl rfl ?_
  refine w_p h_m294 1 (pc' := 1) (L' := [(0, .ref 11), (1, .int (36 : Int32))]) (st' := [.ref 11]) rfl ?_
  refine w_cv (H.te (by decide) rfl).1 (pc' := 4) (L' := [(0, .ref 11), (1, .int (36 : Int32))]) (rest := []) (Ps := []) (L0 := [(0, .ref 11)]) h_m294 (z_at.mk 3 rfl rfl) (Or.inl ⟨rfl, rfl⟩) rfl rfl (by decide) (by decide) rfl rfl rfl rfl rfl rfl (by decide) rfl rfl rfl ?_
  refine w_p h_m299 3 (pc' := 7) (L' := [(0, .ref 11)]) (st' := [.ref 11]) rfl ?_
  refine w_gs H (pc' := 10) (L' := [(0, .ref 11)]) h_m299 (z_at.mk 3 rfl rfl) rfl (by decide) rfl rfl rfl rfl ?_
  refine w_p h_m299 3 (pc' := 18) (L' := []) (st' := [.int (1 : Int32)]) rfl ?_
  refine w_ri h_m299 (z_at.mk 1 rfl rfl) rfl rfl ?_
  show z_W 996 294 4 [(0, .ref 11), (1, .int (36 : Int32))] [.int (1 : Int32)] m _
  refine w_p h_m294 2 (pc' := 8) (L' := [(0, .ref 11), (1, .int (36 : Int32))]) (st' := [.ref 11]) rfl ?_
  refine w_gs H (pc' := 11) (L' := [(0, .ref 11), (1, .int (36 : Int32))]) h_m294 (z_at.mk 3 rfl rfl) rfl (by decide) rfl rfl rfl rfl ?_
  refine w_p h_m294 1 (pc' := 12) (L' := [(0, .ref 11), (1, .int (36 : Int32))]) (st' := [.int (36 : Int32), .ref 29]) rfl ?_
  refine w_cs (As := [.ref 29, .int (36 : Int32)]) (rest := []) (j := 308) (L0 := [(0, .ref 29), (1, .int (36 : Int32))]) (pc' := 15) (L' := [(0, .ref 11), (1, .int (36 : Int32))]) h_m294 (z_at.mk 3 rfl rfl) (Or.inl ⟨rfl, rfl⟩) rfl rfl rfl rfl rfl ?_
  refine w_p h_m308 2 (pc' := 2) (L' := [(0, .ref 29), (1, .int (36 : Int32))]) (st' := [.ref 29, .int (36 : Int32)]) rfl ?_
  refine w_lene H (x := (39 : Int32)) (pc' := 3) (L' := [(0, .ref 29), (1, .int (36 : Int32))]) h_m308 (z_at.mk 1 rfl rfl) (by decide) rfl (by decide) rfl rfl rfl ?_
  refine w_ci (pc' := 6) (L' := [(0, .ref 29), (1, .int (36 : Int32))]) h_m308 (z_at.mk 3 rfl rfl) rfl (z_cat_le 0 rfl (by decide)) ⟨by decide, by decide⟩ rfl rfl ?_
  refine w_p h_m308 2 (pc' := 8) (L' := [(0, .ref 29), (1, .int (36 : Int32))]) (st' := [.int (36 : Int32), .ref 29]) rfl ?_
  refine w_ae H (j := 36) (pc' := 9) (L' := [(0, .ref 29), (1, .int (36 : Int32))]) h_m308 (z_at.mk 1 rfl rfl) rfl rfl rfl (by decide) rfl (by decide) rfl rfl rfl ?_
  refine w_p h_m308 3 (pc' := 14) (L' := [(0, .ref 29), (1, .int (36 : Int32))]) (st' := [.int (98 : Int32)]) rfl ?_
  refine w_ri h_m308 (z_at.mk 1 rfl rfl) rfl rfl ?_
  show z_W 996 294 15 [(0, .ref 11), (1, .int (36 : Int32))] [.int (98 : Int32)] m _
  refine w_ri h_m294 (z_at.mk 1 rfl rfl) rfl rfl ?_
  show z_W 997 218 43 [(0, .ref 143), (1, .ref 11), (2, .int (0 : Int32)), (3, .int (6 : Int32)), (4, .int (36 : Int32)), (5, .int (0 : Int32))] [.int (98 : Int32)] m _
  refine w_p h_m218 8 (pc' := 28) (L' := [(0, .ref 143), (1, .ref 11), (2, .int (0 : Int32)), (3, .int (6 : Int32)), (4, .int (36 : Int32)), (5, .int (1 : Int32))]) (st' := [.ref 11, .int (37 : Int32)]) rfl ?_
  refine w_cv (H.te (by decide) rfl).1 (pc' := 31) (L' := [(0, .ref 143), (1, .ref 11), (2, .int (0 : Int32)), (3, .int (6 : Int32)), (4, .int (36 : Int32)), (5, .int (1 : Int32))]) (rest := [.int (37 : Int32)]) (Ps := []) (L0 := [(0, .ref 11)]) h_m218 (z_at.mk 3 rfl rfl) (Or.inl ⟨rfl, rfl⟩) rfl rfl (by decide) (by decide) rfl rfl rfl rfl rfl rfl (by decide) rfl rfl rfl ?_
  refine w_p h_m293 1 (pc' := 1) (L' := [(0, .ref 11)]) (st' := [.ref 11]) rfl ?_
  refine w_gs H (pc' := 4) (L' := [(0, .ref 11)]) h_m293 (z_at.mk 3 rfl rfl) rfl (by decide) rfl rfl rfl rfl ?_
  refine w_lene H (x := (39 : Int32)) (pc' := 5) (L' := [(0, .ref 11)]) h_m293 (z_at.mk 1 rfl rfl) (by decide) rfl (by decide) rfl rfl rfl ?_
  refine w_p h_m293 1 (pc' := 6) (L' := [(0, .ref 11)]) (st' := [.ref 11, .int (39 : Int32)]) rfl ?_
  refine w_cv (H.te (by decide) rfl).1 (pc' := 9) (L' := [(0, .ref 11)]) (rest := [.int (39 : Int32)]) (Ps := []) (L0 := [(0, .ref 11)]) h_m293 (z_at.mk 3 rfl rfl) (Or.inl ⟨rfl, rfl⟩) rfl rfl (by decide) (by decide) rfl rfl rfl rfl rfl rfl (by decide) rfl rfl rfl ?_
  refine w_p h_m298 3 (pc' := 7) (L' := [(0, .ref 11)]) (st' := [.ref 11]) rfl ?_
  refine w_gs H (pc' := 10) (L' := [(0, .ref 11)]) h_m298 (z_at.mk 3 rfl rfl) rfl (by decide) rfl rfl rfl rfl ?_
  refine w_p h_m298 1 (pc' := 14) (L' := []) (st' := [.int (0 : Int32)]) rfl ?_
  refine w_ri h_m298 (z_at.mk 1 rfl rfl) rfl rfl ?_
  show z_W 996 293 9 [(0, .ref 11)] [.int (0 : Int32), .int (39 : Int32)] m _
  refine w_p h_m293 1 (pc' := 10) (L' := [(0, .ref 11)]) (st' := [.int (39 : Int32)]) rfl ?_
  refine w_ri h_m293 (z_at.mk 1 rfl rfl) rfl rfl ?_
  show z_W 997 218 31 [(0, .ref 143), (1, .ref 11), (2, .int (0 : Int32)), (3, .int (6 : Int32)), (4, .int (36 : Int32)), (5, .int (1 : Int32))] [.int (39 : Int32), .int (37 : Int32)] m _
  refine w_p h_m218 5 (pc' := 40) (L' := [(0, .ref 143), (1, .ref 11), (2, .int (0 : Int32)), (3, .int (6 : Int32)), (4, .int (36 : Int32)), (5, .int (1 : Int32))]) (st' := [.int (37 : Int32), .ref 11]) rfl ?_
  refine w_cv (H.te (by decide) rfl).1 (pc' := 43) (L' := [(0, .ref 143), (1, .ref 11), (2, .int (0 : Int32)), (3, .int (6 : Int32)), (4, .int (36 : Int32)), (5, .int (1 : Int32))]) (rest := []) (Ps := [.int (37 : Int32)]) (L0 := [(0, .ref 11), (1, .int (37 : Int32))]) h_m218 (z_at.mk 3 rfl rfl) (Or.inl ⟨rfl, rfl⟩) rfl rfl (by decide) (by decide) rfl rfl rfl rfl rfl rfl (by decide) rfl rfl rfl ?_
  refine w_p h_m294 1 (pc' := 1) (L' := [(0, .ref 11), (1, .int (37 : Int32))]) (st' := [.ref 11]) rfl ?_
  refine w_cv (H.te (by decide) rfl).1 (pc' := 4) (L' := [(0, .ref 11), (1, .int (37 : Int32))]) (rest := []) (Ps := []) (L0 := [(0, .ref 11)]) h_m294 (z_at.mk 3 rfl rfl) (Or.inl ⟨rfl, rfl⟩) rfl rfl (by decide) (by decide) rfl rfl rfl rfl rfl rfl (by decide) rfl rfl rfl ?_
  refine w_p h_m299 3 (pc' := 7) (L' := [(0, .ref 11)]) (st' := [.ref 11]) rfl ?_
  refine w_gs H (pc' := 10) (L' := [(0, .ref 11)]) h_m299 (z_at.mk 3 rfl rfl) rfl (by decide) rfl rfl rfl rfl ?_
  refine w_p h_m299 3 (pc' := 18) (L' := []) (st' := [.int (1 : Int32)]) rfl ?_
  refine w_ri h_m299 (z_at.mk 1 rfl rfl) rfl rfl ?_
  show z_W 996 294 4 [(0, .ref 11), (1, .int (37 : Int32))] [.int (1 : Int32)] m _
  refine w_p h_m294 2 (pc' := 8) (L' := [(0, .ref 11), (1, .int (37 : Int32))]) (st' := [.ref 11]) rfl ?_
  refine w_gs H (pc' := 11) (L' := [(0, .ref 11), (1, .int (37 : Int32))]) h_m294 (z_at.mk 3 rfl rfl) rfl (by decide) rfl rfl rfl rfl ?_
  refine w_p h_m294 1 (pc' := 12) (L' := [(0, .ref 11), (1, .int (37 : Int32))]) (st' := [.int (37 : Int32), .ref 29]) rfl ?_
  refine w_cs (As := [.ref 29, .int (37 : Int32)]) (rest := []) (j := 308) (L0 := [(0, .ref 29), (1, .int (37 : Int32))]) (pc' := 15) (L' := [(0, .ref 11), (1, .int (37 : Int32))]) h_m294 (z_at.mk 3 rfl rfl) (Or.inl ⟨rfl, rfl⟩) rfl rfl rfl rfl rfl ?_
  refine w_p h_m308 2 (pc' := 2) (L' := [(0, .ref 29), (1, .int (37 : Int32))]) (st' := [.ref 29, .int (37 : Int32)]) rfl ?_
  refine w_lene H (x := (39 : Int32)) (pc' := 3) (L' := [(0, .ref 29), (1, .int (37 : Int32))]) h_m308 (z_at.mk 1 rfl rfl) (by decide) rfl (by decide) rfl rfl rfl ?_
  refine w_ci (pc' := 6) (L' := [(0, .ref 29), (1, .int (37 : Int32))]) h_m308 (z_at.mk 3 rfl rfl) rfl (z_cat_le 0 rfl (by decide)) ⟨by decide, by decide⟩ rfl rfl ?_
  refine w_p h_m308 2 (pc' := 8) (L' := [(0, .ref 29), (1, .int (37 : Int32))]) (st' := [.int (37 : Int32), .ref 29]) rfl ?_
  refine w_ae H (j := 37) (pc' := 9) (L' := [(0, .ref 29), (1, .int (37 : Int32))]) h_m308 (z_at.mk 1 rfl rfl) rfl rfl rfl (by decide) rfl (by decide) rfl rfl rfl ?_
  refine w_p h_m308 3 (pc' := 14) (L' := [(0, .ref 29), (1, .int (37 : Int32))]) (st' := [.int (105 : Int32)]) rfl ?_
  refine w_ri h_m308 (z_at.mk 1 rfl rfl) rfl rfl ?_
  show z_W 996 294 15 [(0, .ref 11), (1, .int (37 : Int32))] [.int (105 : Int32)] m _
  refine w_ri h_m294 (z_at.mk 1 rfl rfl) rfl rfl ?_
  show z_W 997 218 43 [(0, .ref 143), (1, .ref 11), (2, .int (0 : Int32)), (3, .int (6 : Int32)), (4, .int (36 : Int32)), (5, .int (1 : Int32))] [.int (105 : Int32)] m _
  refine w_p h_m218 8 (pc' := 28) (L' := [(0, .ref 143), (1, .ref 11), (2, .int (0 : Int32)), (3, .int (6 : Int32)), (4, .int (36 : Int32)), (5, .int (2 : Int32))]) (st' := [.ref 11, .int (38 : Int32)]) rfl ?_
  refine w_cv (H.te (by decide) rfl).1 (pc' := 31) (L' := [(0, .ref 143), (1, .ref 11), (2, .int (0 : Int32)), (3, .int (6 : Int32)), (4, .int (36 : Int32)), (5, .int (2 : Int32))]) (rest := [.int (38 : Int32)]) (Ps := []) (L0 := [(0, .ref 11)]) h_m218 (z_at.mk 3 rfl rfl) (Or.inl ⟨rfl, rfl⟩) rfl rfl (by decide) (by decide) rfl rfl rfl rfl rfl rfl (by decide) rfl rfl rfl ?_
  refine w_p h_m293 1 (pc' := 1) (L' := [(0, .ref 11)]) (st' := [.ref 11]) rfl ?_
  refine w_gs H (pc' := 4) (L' := [(0, .ref 11)]) h_m293 (z_at.mk 3 rfl rfl) rfl (by decide) rfl rfl rfl rfl ?_
  refine w_lene H (x := (39 : Int32)) (pc' := 5) (L' := [(0, .ref 11)]) h_m293 (z_at.mk 1 rfl rfl) (by decide) rfl (by decide) rfl rfl rfl ?_
  refine w_p h_m293 1 (pc' := 6) (L' := [(0, .ref 11)]) (st' := [.ref 11, .int (39 : Int32)]) rfl ?_
  refine w_cv (H.te (by decide) rfl).1 (pc' := 9) (L' := [(0, .ref 11)]) (rest := [.int (39 : Int32)]) (Ps := []) (L0 := [(0, .ref 11)]) h_m293 (z_at.mk 3 rfl rfl) (Or.inl ⟨rfl, rfl⟩) rfl rfl (by decide) (by decide) rfl rfl rfl rfl rfl rfl (by decide) rfl rfl rfl ?_
  refine w_p h_m298 3 (pc' := 7) (L' := [(0, .ref 11)]) (st' := [.ref 11]) rfl ?_
  refine w_gs H (pc' := 10) (L' := [(0, .ref 11)]) h_m298 (z_at.mk 3 rfl rfl) rfl (by decide) rfl rfl rfl rfl ?_
  refine w_p h_m298 1 (pc' := 14) (L' := []) (st' := [.int (0 : Int32)]) rfl ?_
  refine w_ri h_m298 (z_at.mk 1 rfl rfl) rfl rfl ?_
  show z_W 996 293 9 [(0, .ref 11)] [.int (0 : Int32), .int (39 : Int32)] m _
  refine w_p h_m293 1 (pc' := 10) (L' := [(0, .ref 11)]) (st' := [.int (39 : Int32)]) rfl ?_
  refine w_ri h_m293 (z_at.mk 1 rfl rfl) rfl rfl ?_
  show z_W 997 218 31 [(0, .ref 143), (1, .ref 11), (2, .int (0 : Int32)), (3, .int (6 : Int32)), (4, .int (36 : Int32)), (5, .int (2 : Int32))] [.int (39 : Int32), .int (38 : Int32)] m _
  refine w_p h_m218 5 (pc' := 40) (L' := [(0, .ref 143), (1, .ref 11), (2, .int (0 : Int32)), (3, .int (6 : Int32)), (4, .int (36 : Int32)), (5, .int (2 : Int32))]) (st' := [.int (38 : Int32), .ref 11]) rfl ?_
  refine w_cv (H.te (by decide) rfl).1 (pc' := 43) (L' := [(0, .ref 143), (1, .ref 11), (2, .int (0 : Int32)), (3, .int (6 : Int32)), (4, .int (36 : Int32)), (5, .int (2 : Int32))]) (rest := []) (Ps := [.int (38 : Int32)]) (L0 := [(0, .ref 11), (1, .int (38 : Int32))]) h_m218 (z_at.mk 3 rfl rfl) (Or.inl ⟨rfl, rfl⟩) rfl rfl (by decide) (by decide) rfl rfl rfl rfl rfl rfl (by decide) rfl rfl rfl ?_
  refine w_p h_m294 1 (pc' := 1) (L' := [(0, .ref 11), (1, .int (38 : Int32))]) (st' := [.ref 11]) rfl ?_
  refine w_cv (H.te (by decide) rfl).1 (pc' := 4) (L' := [(0, .ref 11), (1, .int (38 : Int32))]) (rest := []) (Ps := []) (L0 := [(0, .ref 11)]) h_m294 (z_at.mk 3 rfl rfl) (Or.inl ⟨rfl, rfl⟩) rfl rfl (by decide) (by decide) rfl rfl rfl rfl rfl rfl (by decide) rfl rfl rfl ?_
  refine w_p h_m299 3 (pc' := 7) (L' := [(0, .ref 11)]) (st' := [.ref 11]) rfl ?_
  refine w_gs H (pc' := 10) (L' := [(0, .ref 11)]) h_m299 (z_at.mk 3 rfl rfl) rfl (by decide) rfl rfl rfl rfl ?_
  refine w_p h_m299 3 (pc' := 18) (L' := []) (st' := [.int (1 : Int32)]) rfl ?_
  refine w_ri h_m299 (z_at.mk 1 rfl rfl) rfl rfl ?_
  show z_W 996 294 4 [(0, .ref 11), (1, .int (38 : Int32))] [.int (1 : Int32)] m _
  refine w_p h_m294 2 (pc' := 8) (L' := [(0, .ref 11), (1, .int (38 : Int32))]) (st' := [.ref 11]) rfl ?_
  refine w_gs H (pc' := 11) (L' := [(0, .ref 11), (1, .int (38 : Int32))]) h_m294 (z_at.mk 3 rfl rfl) rfl (by decide) rfl rfl rfl rfl ?_
  refine w_p h_m294 1 (pc' := 12) (L' := [(0, .ref 11), (1, .int (38 : Int32))]) (st' := [.int (38 : Int32), .ref 29]) rfl ?_
  refine w_cs (As := [.ref 29, .int (38 : Int32)]) (rest := []) (j := 308) (L0 := [(0, .ref 29), (1, .int (38 : Int32))]) (pc' := 15) (L' := [(0, .ref 11), (1, .int (38 : Int32))]) h_m294 (z_at.mk 3 rfl rfl) (Or.inl ⟨rfl, rfl⟩) rfl rfl rfl rfl rfl ?_
  refine w_p h_m308 2 (pc' := 2) (L' := [(0, .ref 29), (1, .int (38 : Int32))]) (st' := [.ref 29, .int (38 : Int32)]) rfl ?_
  refine w_lene H (x := (39 : Int32)) (pc' := 3) (L' := [(0, .ref 29), (1, .int (38 : Int32))]) h_m308 (z_at.mk 1 rfl rfl) (by decide) rfl (by decide) rfl rfl rfl ?_
  refine w_ci (pc' := 6) (L' := [(0, .ref 29), (1, .int (38 : Int32))]) h_m308 (z_at.mk 3 rfl rfl) rfl (z_cat_le 0 rfl (by decide)) ⟨by decide, by decide⟩ rfl rfl ?_
  refine w_p h_m308 2 (pc' := 8) (L' := [(0, .ref 29), (1, .int (38 : Int32))]) (st' := [.int (38 : Int32), .ref 29]) rfl ?_
  refine w_ae H (j := 38) (pc' := 9) (L' := [(0, .ref 29), (1, .int (38 : Int32))]) h_m308 (z_at.mk 1 rfl rfl) rfl rfl rfl (by decide) rfl (by decide) rfl rfl rfl ?_
  refine w_p h_m308 3 (pc' := 14) (L' := [(0, .ref 29), (1, .int (38 : Int32))]) (st' := [.int (103 : Int32)]) rfl ?_
  refine w_ri h_m308 (z_at.mk 1 rfl rfl) rfl rfl ?_
  show z_W 996 294 15 [(0, .ref 11), (1, .int (38 : Int32))] [.int (103 : Int32)] m _
  refine w_ri h_m294 (z_at.mk 1 rfl rfl) rfl rfl ?_
  show z_W 997 218 43 [(0, .ref 143), (1, .ref 11), (2, .int (0 : Int32)), (3, .int (6 : Int32)), (4, .int (36 : Int32)), (5, .int (2 : Int32))] [.int (103 : Int32)] m _
  refine w_p h_m218 8 (pc' := 28) (L' := [(0, .ref 143), (1, .ref 11), (2, .int (0 : Int32)), (3, .int (6 : Int32)), (4, .int (36 : Int32)), (5, .int (3 : Int32))]) (st' := [.ref 11, .int (39 : Int32)]) rfl ?_
  refine w_cv (H.te (by decide) rfl).1 (pc' := 31) (L' := [(0, .ref 143), (1, .ref 11), (2, .int (0 : Int32)), (3, .int (6 : Int32)), (4, .int (36 : Int32)), (5, .int (3 : Int32))]) (rest := [.int (39 : Int32)]) (Ps := []) (L0 := [(0, .ref 11)]) h_m218 (z_at.mk 3 rfl rfl) (Or.inl ⟨rfl, rfl⟩) rfl rfl (by decide) (by decide) rfl rfl rfl rfl rfl rfl (by decide) rfl rfl rfl ?_
  refine w_p h_m293 1 (pc' := 1) (L' := [(0, .ref 11)]) (st' := [.ref 11]) rfl ?_
  refine w_gs H (pc' := 4) (L' := [(0, .ref 11)]) h_m293 (z_at.mk 3 rfl rfl) rfl (by decide) rfl rfl rfl rfl ?_
  refine w_lene H (x := (39 : Int32)) (pc' := 5) (L' := [(0, .ref 11)]) h_m293 (z_at.mk 1 rfl rfl) (by decide) rfl (by decide) rfl rfl rfl ?_
  refine w_p h_m293 1 (pc' := 6) (L' := [(0, .ref 11)]) (st' := [.ref 11, .int (39 : Int32)]) rfl ?_
  refine w_cv (H.te (by decide) rfl).1 (pc' := 9) (L' := [(0, .ref 11)]) (rest := [.int (39 : Int32)]) (Ps := []) (L0 := [(0, .ref 11)]) h_m293 (z_at.mk 3 rfl rfl) (Or.inl ⟨rfl, rfl⟩) rfl rfl (by decide) (by decide) rfl rfl rfl rfl rfl rfl (by decide) rfl rfl rfl ?_
  refine w_p h_m298 3 (pc' := 7) (L' := [(0, .ref 11)]) (st' := [.ref 11]) rfl ?_
  refine w_gs H (pc' := 10) (L' := [(0, .ref 11)]) h_m298 (z_at.mk 3 rfl rfl) rfl (by decide) rfl rfl rfl rfl ?_
  refine w_p h_m298 1 (pc' := 14) (L' := []) (st' := [.int (0 : Int32)]) rfl ?_
  refine w_ri h_m298 (z_at.mk 1 rfl rfl) rfl rfl ?_
  show z_W 996 293 9 [(0, .ref 11)] [.int (0 : Int32), .int (39 : Int32)] m _
  refine w_p h_m293 1 (pc' := 10) (L' := [(0, .ref 11)]) (st' := [.int (39 : Int32)]) rfl ?_
  refine w_ri h_m293 (z_at.mk 1 rfl rfl) rfl rfl ?_
  show z_W 997 218 31 [(0, .ref 143), (1, .ref 11), (2, .int (0 : Int32)), (3, .int (6 : Int32)), (4, .int (36 : Int32)), (5, .int (3 : Int32))] [.int (39 : Int32), .int (39 : Int32)] m _
  refine w_p h_m218 4 (pc' := 58) (L' := [(0, .ref 143), (1, .ref 11), (2, .int (0 : Int32)), (3, .int (6 : Int32)), (4, .int (36 : Int32)), (5, .int (3 : Int32))]) (st' := [.ref 143, .int (0 : Int32), .int (3 : Int32)]) rfl ?_
  refine w_gf H (pc' := 61) (L' := [(0, .ref 143), (1, .ref 11), (2, .int (0 : Int32)), (3, .int (6 : Int32)), (4, .int (36 : Int32)), (5, .int (3 : Int32))]) h_m218 (z_at.mk 3 rfl rfl) rfl (u := .int (0 : Int32)) rfl rfl rfl ?_
  refine w_p h_m218 23 (pc' := 13) (L' := [(0, .ref 143), (1, .ref 11), (2, .int (0 : Int32)), (3, .int (7 : Int32)), (4, .int (40 : Int32))]) (st' := [.ref 11, .int (40 : Int32)]) rfl ?_
  refine w_cv (H.te (by decide) rfl).1 (pc' := 16) (L' := [(0, .ref 143), (1, .ref 11), (2, .int (0 : Int32)), (3, .int (7 : Int32)), (4, .int (40 : Int32))]) (rest := [.int (40 : Int32)]) (Ps := []) (L0 := [(0, .ref 11)]) h_m218 (z_at.mk 3 rfl rfl) (Or.inl ⟨rfl, rfl⟩) rfl rfl (by decide) (by decide) rfl rfl rfl rfl rfl rfl (by decide) rfl rfl rfl ?_
  refine w_p h_m293 1 (pc' := 1) (L' := [(0, .ref 11)]) (st' := [.ref 11]) rfl ?_
  refine w_gs H (pc' := 4) (L' := [(0, .ref 11)]) h_m293 (z_at.mk 3 rfl rfl) rfl (by decide) rfl rfl rfl rfl ?_
  refine w_lene H (x := (39 : Int32)) (pc' := 5) (L' := [(0, .ref 11)]) h_m293 (z_at.mk 1 rfl rfl) (by decide) rfl (by decide) rfl rfl rfl ?_
  refine w_p h_m293 1 (pc' := 6) (L' := [(0, .ref 11)]) (st' := [.ref 11, .int (39 : Int32)]) rfl ?_
  refine w_cv (H.te (by decide) rfl).1 (pc' := 9) (L' := [(0, .ref 11)]) (rest := [.int (39 : Int32)]) (Ps := []) (L0 := [(0, .ref 11)]) h_m293 (z_at.mk 3 rfl rfl) (Or.inl ⟨rfl, rfl⟩) rfl rfl (by decide) (by decide) rfl rfl rfl rfl rfl rfl (by decide) rfl rfl rfl ?_
  refine w_p h_m298 3 (pc' := 7) (L' := [(0, .ref 11)]) (st' := [.ref 11]) rfl ?_
  refine w_gs H (pc' := 10) (L' := [(0, .ref 11)]) h_m298 (z_at.mk 3 rfl rfl) rfl (by decide) rfl rfl rfl rfl ?_
  refine w_p h_m298 1 (pc' := 14) (L' := []) (st' := [.int (0 : Int32)]) rfl ?_
  refine w_ri h_m298 (z_at.mk 1 rfl rfl) rfl rfl ?_
  show z_W 996 293 9 [(0, .ref 11)] [.int (0 : Int32), .int (39 : Int32)] m _
  refine w_p h_m293 1 (pc' := 10) (L' := [(0, .ref 11)]) (st' := [.int (39 : Int32)]) rfl ?_
  refine w_ri h_m293 (z_at.mk 1 rfl rfl) rfl rfl ?_
  show z_W 997 218 16 [(0, .ref 143), (1, .ref 11), (2, .int (0 : Int32)), (3, .int (7 : Int32)), (4, .int (40 : Int32))] [.int (39 : Int32), .int (40 : Int32)] m _
  refine w_p h_m218 3 (pc' := 153) (L' := [(0, .ref 143), (1, .ref 11), (2, .int (0 : Int32)), (3, .int (7 : Int32)), (4, .int (40 : Int32))]) (st' := [.ref 143, .ref 143]) rfl ?_
  refine w_gf H (pc' := 156) (L' := [(0, .ref 143), (1, .ref 11), (2, .int (0 : Int32)), (3, .int (7 : Int32)), (4, .int (40 : Int32))]) h_m218 (z_at.mk 3 rfl rfl) rfl (u := .int (0 : Int32)) rfl rfl rfl ?_
  refine w_cv (H.t rfl) (pc' := 159) (L' := [(0, .ref 143), (1, .ref 11), (2, .int (0 : Int32)), (3, .int (7 : Int32)), (4, .int (40 : Int32))]) (rest := []) (Ps := [.int (0 : Int32)]) (L0 := [(0, .ref 143), (1, .int (0 : Int32))]) h_m218 (z_at.mk 3 rfl rfl) (Or.inl ⟨rfl, rfl⟩) rfl rfl (by decide) (by decide) rfl rfl rfl rfl rfl rfl (by decide) rfl rfl rfl ?_
  refine w_p h_m213 1 (pc' := 1) (L' := [(0, .ref 143), (1, .int (0 : Int32))]) (st' := [.ref 143]) rfl ?_
  refine w_gf H (pc' := 4) (L' := [(0, .ref 143), (1, .int (0 : Int32))]) h_m213 (z_at.mk 3 rfl rfl) rfl (u := .int (-1 : Int32)) rfl rfl rfl ?_
  refine w_p h_m213 3 (pc' := 9) (L' := [(0, .ref 143), (1, .int (0 : Int32))]) (st' := [.int (0 : Int32), .ref 143]) rfl ?_
  refine w_pf H (22, 35, [(22, .int (0 : Int32)), (21, .int (0 : Int32)), (34, .ref 167), (33, .ref 166), (31, .ref 165), (30, .ref 164), (28, .ref 163), (26, .ref 162), (25, .ref 161), (24, .ref 160), (19, .ref 159), (18, .ref 158), (17, .ref 157), (16, .ref 156), (13, .ref 155), (12, .ref 154), (11, .ref 153), (9, .ref 152), (8, .ref 151), (7, .ref 150), (5, .ref 149), (4, .ref 148), (3, .ref 147), (2, .ref 146), (1, .ref 145), (0, .ref 144), (6, .int (0 : Int32)), (10, .int (0 : Int32)), (14, .int (0 : Int32)), (15, .int (0 : Int32)), (20, .int (0 : Int32)), (23, .int (0 : Int32)), (27, .int (0 : Int32)), (29, .int (0 : Int32)), (32, .int (0 : Int32))], none) (pc' := 12) (L' := []) h_m213 (z_at.mk 3 rfl rfl) rfl (by decide) rfl (Or.inl rfl) rfl rfl rfl ?_
  clear H m; intro m H
  refine w_p h_m213 1 (pc' := 13) (L' := []) (st' := [.int (0 : Int32)]) rfl ?_
  refine w_ri h_m213 (z_at.mk 1 rfl rfl) rfl rfl ?_
  show z_W 997 218 159 [(0, .ref 143), (1, .ref 11), (2, .int (0 : Int32)), (3, .int (7 : Int32)), (4, .int (40 : Int32))] [.int (0 : Int32)] m _
  refine w_p h_m218 2 (pc' := 161) (L' := [(0, .ref 143), (1, .ref 11), (2, .int (0 : Int32)), (3, .int (7 : Int32)), (4, .int (40 : Int32))]) (st' := [.int (-1 : Int32)]) rfl ?_
  refine w_ri h_m218 (z_at.mk 1 rfl rfl) rfl rfl ?_
  show z_W 998 219 7 [(0, .ref 143)] [.int (-1 : Int32)] m _
  refine w_p h_m219 4 (pc' := 22) (L' := []) (st' := [.int (0 : Int32)]) rfl ?_
  refine w_ri h_m219 (z_at.mk 1 rfl rfl) rfl rfl ?_
  show z_W 999 220 45 [(0, .ref 143), (1, .int (0 : Int32)), (2, .int (1 : Int32))] [.int (0 : Int32)] m _
  refine w_p h_m220 10 (pc' := 85) (L' := [(0, .ref 143), (1, .int (1 : Int32)), (2, .int (0 : Int32))]) (st' := [.int (0 : Int32), .ref 143]) rfl ?_
  refine w_pf H (22, 35, [(20, .int (0 : Int32)), (22, .int (0 : Int32)), (21, .int (0 : Int32)), (34, .ref 167), (33, .ref 166), (31, .ref 165), (30, .ref 164), (28, .ref 163), (26, .ref 162), (25, .ref 161), (24, .ref 160), (19, .ref 159), (18, .ref 158), (17, .ref 157), (16, .ref 156), (13, .ref 155), (12, .ref 154), (11, .ref 153), (9, .ref 152), (8, .ref 151), (7, .ref 150), (5, .ref 149), (4, .ref 148), (3, .ref 147), (2, .ref 146), (1, .ref 145), (0, .ref 144), (6, .int (0 : Int32)), (10, .int (0 : Int32)), (14, .int (0 : Int32)), (15, .int (0 : Int32)), (23, .int (0 : Int32)), (27, .int (0 : Int32)), (29, .int (0 : Int32)), (32, .int (0 : Int32))], none) (pc' := 88) (L' := [(0, .ref 143), (1, .int (1 : Int32)), (2, .int (0 : Int32))]) h_m220 (z_at.mk 3 rfl rfl) rfl (by decide) rfl (Or.inl rfl) rfl rfl rfl ?_
  clear H m; intro m H
  refine w_p h_m220 1 (pc' := 89) (L' := [(0, .ref 143), (1, .int (1 : Int32)), (2, .int (0 : Int32))]) (st' := [.ref 143]) rfl ?_
  refine w_gf H (pc' := 92) (L' := [(0, .ref 143), (1, .int (1 : Int32)), (2, .int (0 : Int32))]) h_m220 (z_at.mk 3 rfl rfl) rfl (u := .int (0 : Int32)) rfl rfl rfl ?_
  refine w_p h_m220 3 (pc' := 98) (L' := [(0, .ref 143), (1, .int (1 : Int32)), (2, .int (0 : Int32))]) (st' := [.ref 143, .int (-100 : Int32)]) rfl ?_
  refine w_gf H (pc' := 101) (L' := [(0, .ref 143), (1, .int (1 : Int32)), (2, .int (0 : Int32))]) h_m220 (z_at.mk 3 rfl rfl) rfl (u := .int (0 : Int32)) rfl rfl rfl ?_
  refine w_p h_m220 1 (pc' := 102) (L' := [(0, .ref 143), (1, .int (1 : Int32)), (2, .int (0 : Int32))]) (st' := [.int (-100 : Int32)]) rfl ?_
  refine w_ri h_m220 (z_at.mk 1 rfl rfl) rfl rfl ?_
  show z_W 1000 1000 403 [(0, .ref 0), (1, .ref 39), (2, .ref 143), (3, .int (0 : Int32))] [.int (-100 : Int32), .int (-100 : Int32)] m _
  refine w_p h_m1000 5 (pc' := 20) (L' := [(0, .ref 0), (1, .ref 39), (2, .ref 143), (3, .int (6 : Int32))]) (st' := [.ref 0, .int (6 : Int32)]) rfl ?_
  refine w_lene H (x := (6 : Int32)) (pc' := 21) (L' := [(0, .ref 0), (1, .ref 39), (2, .ref 143), (3, .int (6 : Int32))]) h_m1000 (z_at.mk 1 rfl rfl) (by decide) rfl (by decide) rfl rfl rfl ?_
  refine w_p h_m1000 4 (pc' := 1381) (L' := [(0, .ref 0), (1, .ref 39), (2, .ref 143), (3, .int (6 : Int32))]) (st' := [.int (1 : Int32)]) rfl ?_
  refine w_ri h_m1000 (z_at.mk 1 rfl rfl) rfl rfl ?_
  exact hQ _ _ _ _ H (by decide) (by decide)
