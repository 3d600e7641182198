/-! THE ROADS of calls 35 on a fresh object (by wip/px_cmd.py) -/
set_option maxHeartbeats 400000000 in
set_option maxRecDepth 20000 in
theorem w_c35 {xs : Nat → Int32} {m : zM} {Q : Option Value → zM → Prop} (H : w_ok 6 xs 168 63950 w_T0 m) (hQ : ∀ N S T m, w_ok 6 xs N S T m → N ≤ 600039 → S ≤ 7302250 → Q (some (.int 1)) m) : z_W 1000 1000 1348 [(0, .ref 0), (1, .ref 39), (2, .ref 143), (3, .int (0 : Int32))] [] m Q := by
  have b1 := zi_bd (xs 1)
  have b2 := zi_bd (xs 2)
  have b3 := zi_bd (xs 3)
  have b4 := zi_bd (xs 4)
  have b5 := zi_bd (xs 5)
  refine w_p h_m1000 1 (pc' := 1349) (L' := [(0, .ref 0), (1, .ref 39), (2, .ref 143), (3, .int (0 : Int32))]) (st' := [.ref 39]) rfl ?_
  refine w_cv (H.t rfl) (pc' := 1352) (L' := [(0, .ref 0), (1, .ref 39), (2, .ref 143), (3, .int (0 : Int32))]) (rest := []) (Ps := []) (L0 := [(0, .ref 39)]) h_m1000 (z_at.mk 3 rfl rfl) (Or.inl ⟨rfl, rfl⟩) rfl rfl (by decide) (by decide) rfl rfl rfl rfl rfl rfl (by decide) rfl rfl rfl ?_
  refine w_p h_m156 1 (pc' := 1) (L' := [(0, .ref 39)]) (st' := [.ref 39]) rfl ?_
  refine w_gf H (pc' := 4) (L' := [(0, .ref 39)]) h_m156 (z_at.mk 3 rfl rfl) rfl (u := .ref 73) rfl rfl rfl ?_
  refine w_p h_m156 1 (pc' := 5) (L' := [(0, .ref 39)]) (st' := [.ref 39, .ref 73]) rfl ?_
  refine w_gf H (pc' := 8) (L' := [(0, .ref 39)]) h_m156 (z_at.mk 3 rfl rfl) rfl (u := .ref 40) rfl rfl rfl ?_
  refine w_cv (H.t rfl) (pc' := 11) (L' := [(0, .ref 39)]) (rest := []) (Ps := [.ref 40]) (L0 := [(0, .ref 73), (1, .ref 40)]) h_m156 (z_at.mk 3 rfl rfl) (Or.inl ⟨rfl, rfl⟩) rfl rfl (by decide) (by decide) rfl rfl rfl rfl rfl rfl (by decide) rfl rfl rfl ?_
  refine w_p h_m78 1 (pc' := 1) (L' := [(0, .ref 73), (1, .ref 40)]) (st' := [.ref 73]) rfl ?_
  refine w_gf H (pc' := 4) (L' := [(0, .ref 73), (1, .ref 40)]) h_m78 (z_at.mk 3 rfl rfl) rfl (u := .ref 74) rfl rfl rfl ?_
  refine w_p h_m78 1 (pc' := 5) (L' := [(0, .ref 73), (1, .ref 40)]) (st' := [.ref 40, .ref 74]) rfl ?_
  refine w_gf H (pc' := 8) (L' := [(0, .ref 73), (1, .ref 40)]) h_m78 (z_at.mk 3 rfl rfl) rfl (u := .ref 41) rfl rfl rfl ?_
  refine w_cv (H.t rfl) (pc' := 11) (L' := [(0, .ref 73), (1, .ref 40)]) (rest := []) (Ps := [.ref 41]) (L0 := [(0, .ref 74), (1, .ref 41)]) h_m78 (z_at.mk 3 rfl rfl) (Or.inl ⟨rfl, rfl⟩) rfl rfl (by decide) (by decide) rfl rfl rfl rfl rfl rfl (by decide) rfl rfl rfl ?_
  refine w_p h_m89 1 (pc' := 1) (L' := [(0, .ref 74), (1, .ref 41)]) (st' := [.ref 41]) rfl ?_
  refine w_gf H (pc' := 4) (L' := [(0, .ref 74), (1, .ref 41)]) h_m89 (z_at.mk 3 rfl rfl) rfl (u := .ref 42) rfl rfl rfl ?_
  refine w_p h_m89 2 (pc' := 6) (L' := [(0, .ref 74), (1, .ref 41)]) (st' := [.ref 74, .int (0 : Int32), .ref 42]) rfl ?_
  refine w_gf H (pc' := 9) (L' := [(0, .ref 74), (1, .ref 41)]) h_m89 (z_at.mk 3 rfl rfl) rfl (u := .ref 75) rfl rfl rfl ?_
  refine w_p h_m89 2 (pc' := 12) (L' := [(0, .ref 74), (1, .ref 41)]) (st' := [.int (60 : Int32), .int (0 : Int32), .ref 75, .int (0 : Int32), .ref 42]) rfl ?_
  refine w_cpf H (ra := (0, 60, [], some (.int (0 : Int32)))) (pc' := 15) (L' := [(0, .ref 74), (1, .ref 41)]) h_m89 (z_at.mk 3 rfl rfl) rfl (z_cat_le 0 rfl (by decide)) rfl rfl rfl rfl (by decide) rfl rfl ?_
  clear H m; intro m H
  refine w_p h_m89 1 (pc' := 16) (L' := [(0, .ref 74), (1, .ref 41)]) (st' := [.ref 41]) rfl ?_
  refine w_gf H (pc' := 19) (L' := [(0, .ref 74), (1, .ref 41)]) h_m89 (z_at.mk 3 rfl rfl) rfl (u := .ref 43) rfl rfl rfl ?_
  refine w_p h_m89 2 (pc' := 21) (L' := [(0, .ref 74), (1, .ref 41)]) (st' := [.ref 74, .int (0 : Int32), .ref 43]) rfl ?_
  refine w_gf H (pc' := 24) (L' := [(0, .ref 74), (1, .ref 41)]) h_m89 (z_at.mk 3 rfl rfl) rfl (u := .ref 76) rfl rfl rfl ?_
  refine w_p h_m89 2 (pc' := 27) (L' := [(0, .ref 74), (1, .ref 41)]) (st' := [.int (60 : Int32), .int (0 : Int32), .ref 76, .int (0 : Int32), .ref 43]) rfl ?_
  refine w_cpf H (ra := (0, 60, [], some (.int (0 : Int32)))) (pc' := 30) (L' := [(0, .ref 74), (1, .ref 41)]) h_m89 (z_at.mk 3 rfl rfl) rfl (z_cat_le 0 rfl (by decide)) rfl rfl rfl rfl (by decide) rfl rfl ?_
  clear H m; intro m H
  refine w_p h_m89 1 (pc' := 31) (L' := [(0, .ref 74), (1, .ref 41)]) (st' := [.ref 41]) rfl ?_
  refine w_gf H (pc' := 34) (L' := [(0, .ref 74), (1, .ref 41)]) h_m89 (z_at.mk 3 rfl rfl) rfl (u := .ref 44) rfl rfl rfl ?_
  refine w_p h_m89 2 (pc' := 36) (L' := [(0, .ref 74), (1, .ref 41)]) (st' := [.ref 74, .int (0 : Int32), .ref 44]) rfl ?_
  refine w_gf H (pc' := 39) (L' := [(0, .ref 74), (1, .ref 41)]) h_m89 (z_at.mk 3 rfl rfl) rfl (u := .ref 77) rfl rfl rfl ?_
  refine w_p h_m89 2 (pc' := 42) (L' := [(0, .ref 74), (1, .ref 41)]) (st' := [.int (60 : Int32), .int (0 : Int32), .ref 77, .int (0 : Int32), .ref 44]) rfl ?_
  refine w_cpf H (ra := (1, 60, [], some (.long (0 : Int64)))) (pc' := 45) (L' := [(0, .ref 74), (1, .ref 41)]) h_m89 (z_at.mk 3 rfl rfl) rfl (z_cat_le 0 rfl (by decide)) rfl rfl rfl rfl (by decide) rfl rfl ?_
  clear H m; intro m H
  refine w_p h_m89 1 (pc' := 46) (L' := [(0, .ref 74), (1, .ref 41)]) (st' := [.ref 41]) rfl ?_
  refine w_gf H (pc' := 49) (L' := [(0, .ref 74), (1, .ref 41)]) h_m89 (z_at.mk 3 rfl rfl) rfl (u := .ref 45) rfl rfl rfl ?_
  refine w_p h_m89 2 (pc' := 51) (L' := [(0, .ref 74), (1, .ref 41)]) (st' := [.ref 74, .int (0 : Int32), .ref 45]) rfl ?_
  refine w_gf H (pc' := 54) (L' := [(0, .ref 74), (1, .ref 41)]) h_m89 (z_at.mk 3 rfl rfl) rfl (u := .ref 78) rfl rfl rfl ?_
  refine w_p h_m89 2 (pc' := 57) (L' := [(0, .ref 74), (1, .ref 41)]) (st' := [.int (60 : Int32), .int (0 : Int32), .ref 78, .int (0 : Int32), .ref 45]) rfl ?_
  refine w_cpf H (ra := (0, 60, [], some (.int (0 : Int32)))) (pc' := 60) (L' := [(0, .ref 74), (1, .ref 41)]) h_m89 (z_at.mk 3 rfl rfl) rfl (z_cat_le 0 rfl (by decide)) rfl rfl rfl rfl (by decide) rfl rfl ?_
  clear H m; intro m H
  refine w_p h_m89 1 (pc' := 61) (L' := [(0, .ref 74), (1, .ref 41)]) (st' := [.ref 41]) rfl ?_
  refine w_gf H (pc' := 64) (L' := [(0, .ref 74), (1, .ref 41)]) h_m89 (z_at.mk 3 rfl rfl) rfl (u := .ref 46) rfl rfl rfl ?_
  refine w_p h_m89 2 (pc' := 66) (L' := [(0, .ref 74), (1, .ref 41)]) (st' := [.ref 74, .int (0 : Int32), .ref 46]) rfl ?_
  refine w_gf H (pc' := 69) (L' := [(0, .ref 74), (1, .ref 41)]) h_m89 (z_at.mk 3 rfl rfl) rfl (u := .ref 79) rfl rfl rfl ?_
  refine w_p h_m89 2 (pc' := 72) (L' := [(0, .ref 74), (1, .ref 41)]) (st' := [.int (33 : Int32), .int (0 : Int32), .ref 79, .int (0 : Int32), .ref 46]) rfl ?_
  refine w_cpf H (ra := (1, 33, [], some (.long (0 : Int64)))) (pc' := 75) (L' := [(0, .ref 74), (1, .ref 41)]) h_m89 (z_at.mk 3 rfl rfl) rfl (z_cat_le 0 rfl (by decide)) rfl rfl rfl rfl (by decide) rfl rfl ?_
  clear H m; intro m H
  refine w_p h_m89 1 (pc' := 76) (L' := [(0, .ref 74), (1, .ref 41)]) (st' := [.ref 41]) rfl ?_
  refine w_gf H (pc' := 79) (L' := [(0, .ref 74), (1, .ref 41)]) h_m89 (z_at.mk 3 rfl rfl) rfl (u := .ref 47) rfl rfl rfl ?_
  refine w_p h_m89 2 (pc' := 81) (L' := [(0, .ref 74), (1, .ref 41)]) (st' := [.ref 74, .int (0 : Int32), .ref 47]) rfl ?_
  refine w_gf H (pc' := 84) (L' := [(0, .ref 74), (1, .ref 41)]) h_m89 (z_at.mk 3 rfl rfl) rfl (u := .ref 80) rfl rfl rfl ?_
  refine w_p h_m89 2 (pc' := 87) (L' := [(0, .ref 74), (1, .ref 41)]) (st' := [.int (33 : Int32), .int (0 : Int32), .ref 80, .int (0 : Int32), .ref 47]) rfl ?_
  refine w_cpf H (ra := (1, 33, [], some (.long (0 : Int64)))) (pc' := 90) (L' := [(0, .ref 74), (1, .ref 41)]) h_m89 (z_at.mk 3 rfl rfl) rfl (z_cat_le 0 rfl (by decide)) rfl rfl rfl rfl (by decide) rfl rfl ?_
  clear H m; intro m H
  refine w_p h_m89 2 (pc' := 92) (L' := [(0, .ref 74), (1, .ref 41)]) (st' := [.ref 41, .ref 74]) rfl ?_
  refine w_gf H (pc' := 95) (L' := [(0, .ref 74), (1, .ref 41)]) h_m89 (z_at.mk 3 rfl rfl) rfl (u := .int (0 : Int32)) rfl rfl rfl ?_
  refine w_pf H (18, 7, [(4, .int (0 : Int32)), (6, .ref 80), (5, .ref 79), (3, .ref 78), (2, .ref 77), (1, .ref 76), (0, .ref 75)], none) (pc' := 98) (L' := [(0, .ref 74), (1, .ref 41)]) h_m89 (z_at.mk 3 rfl rfl) rfl (by decide) rfl (Or.inl rfl) rfl rfl rfl ?_
  clear H m; intro m H
  refine w_rv h_m89 (z_at.mk 1 rfl rfl) rfl ?_
  show z_W 998 78 11 [(0, .ref 73), (1, .ref 40)] [] m _
  refine w_p h_m78 1 (pc' := 12) (L' := [(0, .ref 73), (1, .ref 40)]) (st' := [.ref 73]) rfl ?_
  refine w_gf H (pc' := 15) (L' := [(0, .ref 73), (1, .ref 40)]) h_m78 (z_at.mk 3 rfl rfl) rfl (u := .ref 81) rfl rfl rfl ?_
  refine w_p h_m78 1 (pc' := 16) (L' := [(0, .ref 73), (1, .ref 40)]) (st' := [.ref 40, .ref 81]) rfl ?_
  refine w_gf H (pc' := 19) (L' := [(0, .ref 73), (1, .ref 40)]) h_m78 (z_at.mk 3 rfl rfl) rfl (u := .ref 48) rfl rfl rfl ?_
  refine w_cv (H.t rfl) (pc' := 22) (L' := [(0, .ref 73), (1, .ref 40)]) (rest := []) (Ps := [.ref 48]) (L0 := [(0, .ref 81), (1, .ref 48)]) h_m78 (z_at.mk 3 rfl rfl) (Or.inl ⟨rfl, rfl⟩) rfl rfl (by decide) (by decide) rfl rfl rfl rfl rfl rfl (by decide) rfl rfl rfl ?_
  refine w_p h_m21 1 (pc' := 1) (L' := [(0, .ref 81), (1, .ref 48)]) (st' := [.ref 81]) rfl ?_
  refine w_gf H (pc' := 4) (L' := [(0, .ref 81), (1, .ref 48)]) h_m21 (z_at.mk 3 rfl rfl) rfl (u := .ref 82) rfl rfl rfl ?_
  refine w_p h_m21 1 (pc' := 5) (L' := [(0, .ref 81), (1, .ref 48)]) (st' := [.ref 48, .ref 82]) rfl ?_
  refine w_gf H (pc' := 8) (L' := [(0, .ref 81), (1, .ref 48)]) h_m21 (z_at.mk 3 rfl rfl) rfl (u := .ref 49) rfl rfl rfl ?_
  refine w_cv (H.t rfl) (pc' := 11) (L' := [(0, .ref 81), (1, .ref 48)]) (rest := []) (Ps := [.ref 49]) (L0 := [(0, .ref 82), (1, .ref 49)]) h_m21 (z_at.mk 3 rfl rfl) (Or.inl ⟨rfl, rfl⟩) rfl rfl (by decide) (by decide) rfl rfl rfl rfl rfl rfl (by decide) rfl rfl rfl ?_
  refine w_p h_m74 1 (pc' := 1) (L' := [(0, .ref 82), (1, .ref 49)]) (st' := [.ref 49]) rfl ?_
  refine w_gf H (pc' := 4) (L' := [(0, .ref 82), (1, .ref 49)]) h_m74 (z_at.mk 3 rfl rfl) rfl (u := .ref 50) rfl rfl rfl ?_
  refine w_p h_m74 2 (pc' := 6) (L' := [(0, .ref 82), (1, .ref 49)]) (st' := [.ref 82, .int (0 : Int32), .ref 50]) rfl ?_
  refine w_gf H (pc' := 9) (L' := [(0, .ref 82), (1, .ref 49)]) h_m74 (z_at.mk 3 rfl rfl) rfl (u := .ref 83) rfl rfl rfl ?_
  refine w_p h_m74 2 (pc' := 12) (L' := [(0, .ref 82), (1, .ref 49)]) (st' := [.int (7 : Int32), .int (0 : Int32), .ref 83, .int (0 : Int32), .ref 50]) rfl ?_
  refine w_cpf H (ra := (0, 7, [(6, .int (1024 : Int32)), (5, .int (1 : Int32)), (4, .int (1 : Int32)), (3, .int (0 : Int32)), (2, .int (12 : Int32)), (1, .int (40 : Int32)), (0, .int (10 : Int32))], some (.int (0 : Int32)))) (pc' := 15) (L' := [(0, .ref 82), (1, .ref 49)]) h_m74 (z_at.mk 3 rfl rfl) rfl (z_cat_le 0 rfl (by decide)) rfl rfl rfl rfl (by decide) rfl rfl ?_
  clear H m; intro m H
  refine w_rv h_m74 (z_at.mk 1 rfl rfl) rfl ?_
  show z_W 997 21 11 [(0, .ref 81), (1, .ref 48)] [] m _
  refine w_p h_m21 1 (pc' := 12) (L' := [(0, .ref 81), (1, .ref 48)]) (st' := [.ref 48]) rfl ?_
  refine w_gf H (pc' := 15) (L' := [(0, .ref 81), (1, .ref 48)]) h_m21 (z_at.mk 3 rfl rfl) rfl (u := .ref 51) rfl rfl rfl ?_
  refine w_p h_m21 2 (pc' := 17) (L' := [(0, .ref 81), (1, .ref 48)]) (st' := [.ref 81, .int (0 : Int32), .ref 51]) rfl ?_
  refine w_gf H (pc' := 20) (L' := [(0, .ref 81), (1, .ref 48)]) h_m21 (z_at.mk 3 rfl rfl) rfl (u := .ref 84) rfl rfl rfl ?_
  refine w_p h_m21 2 (pc' := 24) (L' := [(0, .ref 81), (1, .ref 48)]) (st' := [.int (181 : Int32), .int (0 : Int32), .ref 84, .int (0 : Int32), .ref 51]) rfl ?_
  refine w_cpf H (ra := (0, 181, [], some (.int (0 : Int32)))) (pc' := 27) (L' := [(0, .ref 81), (1, .ref 48)]) h_m21 (z_at.mk 3 rfl rfl) rfl (z_cat_le 0 rfl (by decide)) rfl rfl rfl rfl (by decide) rfl rfl ?_
  clear H m; intro m H
  refine w_p h_m21 1 (pc' := 28) (L' := [(0, .ref 81), (1, .ref 48)]) (st' := [.ref 48]) rfl ?_
  refine w_gf H (pc' := 31) (L' := [(0, .ref 81), (1, .ref 48)]) h_m21 (z_at.mk 3 rfl rfl) rfl (u := .ref 52) rfl rfl rfl ?_
  refine w_p h_m21 2 (pc' := 33) (L' := [(0, .ref 81), (1, .ref 48)]) (st' := [.ref 81, .int (0 : Int32), .ref 52]) rfl ?_
  refine w_gf H (pc' := 36) (L' := [(0, .ref 81), (1, .ref 48)]) h_m21 (z_at.mk 3 rfl rfl) rfl (u := .ref 85) rfl rfl rfl ?_
  refine w_p h_m21 2 (pc' := 40) (L' := [(0, .ref 81), (1, .ref 48)]) (st' := [.int (181 : Int32), .int (0 : Int32), .ref 85, .int (0 : Int32), .ref 52]) rfl ?_
  refine w_cpf H (ra := (0, 181, [], some (.int (0 : Int32)))) (pc' := 43) (L' := [(0, .ref 81), (1, .ref 48)]) h_m21 (z_at.mk 3 rfl rfl) rfl (z_cat_le 0 rfl (by decide)) rfl rfl rfl rfl (by decide) rfl rfl ?_
  clear H m; intro m H
  refine w_p h_m21 1 (pc' := 44) (L' := [(0, .ref 81), (1, .ref 48)]) (st' := [.ref 48]) rfl ?_
  refine w_gf H (pc' := 47) (L' := [(0, .ref 81), (1, .ref 48)]) h_m21 (z_at.mk 3 rfl rfl) rfl (u := .ref 53) rfl rfl rfl ?_
  refine w_p h_m21 2 (pc' := 49) (L' := [(0, .ref 81), (1, .ref 48)]) (st' := [.ref 81, .int (0 : Int32), .ref 53]) rfl ?_
  refine w_gf H (pc' := 52) (L' := [(0, .ref 81), (1, .ref 48)]) h_m21 (z_at.mk 3 rfl rfl) rfl (u := .ref 86) rfl rfl rfl ?_
  refine w_p h_m21 2 (pc' := 56) (L' := [(0, .ref 81), (1, .ref 48)]) (st' := [.int (181 : Int32), .int (0 : Int32), .ref 86, .int (0 : Int32), .ref 53]) rfl ?_
  refine w_cpf H (ra := (0, 181, [], some (.int (0 : Int32)))) (pc' := 59) (L' := [(0, .ref 81), (1, .ref 48)]) h_m21 (z_at.mk 3 rfl rfl) rfl (z_cat_le 0 rfl (by decide)) rfl rfl rfl rfl (by decide) rfl rfl ?_
  clear H m; intro m H
  refine w_p h_m21 1 (pc' := 60) (L' := [(0, .ref 81), (1, .ref 48)]) (st' := [.ref 48]) rfl ?_
  refine w_gf H (pc' := 63) (L' := [(0, .ref 81), (1, .ref 48)]) h_m21 (z_at.mk 3 rfl rfl) rfl (u := .ref 54) rfl rfl rfl ?_
  refine w_p h_m21 2 (pc' := 65) (L' := [(0, .ref 81), (1, .ref 48)]) (st' := [.ref 81, .int (0 : Int32), .ref 54]) rfl ?_
  refine w_gf H (pc' := 68) (L' := [(0, .ref 81), (1, .ref 48)]) h_m21 (z_at.mk 3 rfl rfl) rfl (u := .ref 87) rfl rfl rfl ?_
  refine w_p h_m21 2 (pc' := 72) (L' := [(0, .ref 81), (1, .ref 48)]) (st' := [.int (181 : Int32), .int (0 : Int32), .ref 87, .int (0 : Int32), .ref 54]) rfl ?_
  refine w_cpf H (ra := (0, 181, [], some (.int (0 : Int32)))) (pc' := 75) (L' := [(0, .ref 81), (1, .ref 48)]) h_m21 (z_at.mk 3 rfl rfl) rfl (z_cat_le 0 rfl (by decide)) rfl rfl rfl rfl (by decide) rfl rfl ?_
  clear H m; intro m H
  refine w_p h_m21 1 (pc' := 76) (L' := [(0, .ref 81), (1, .ref 48)]) (st' := [.ref 48]) rfl ?_
  refine w_gf H (pc' := 79) (L' := [(0, .ref 81), (1, .ref 48)]) h_m21 (z_at.mk 3 rfl rfl) rfl (u := .ref 55) rfl rfl rfl ?_
  refine w_p h_m21 2 (pc' := 81) (L' := [(0, .ref 81), (1, .ref 48)]) (st' := [.ref 81, .int (0 : Int32), .ref 55]) rfl ?_
  refine w_gf H (pc' := 84) (L' := [(0, .ref 81), (1, .ref 48)]) h_m21 (z_at.mk 3 rfl rfl) rfl (u := .ref 88) rfl rfl rfl ?_
  refine w_p h_m21 2 (pc' := 88) (L' := [(0, .ref 81), (1, .ref 48)]) (st' := [.int (181 : Int32), .int (0 : Int32), .ref 88, .int (0 : Int32), .ref 55]) rfl ?_
  refine w_cpf H (ra := (1, 181, [], some (.long (0 : Int64)))) (pc' := 91) (L' := [(0, .ref 81), (1, .ref 48)]) h_m21 (z_at.mk 3 rfl rfl) rfl (z_cat_le 0 rfl (by decide)) rfl rfl rfl rfl (by decide) rfl rfl ?_
  clear H m; intro m H
  refine w_p h_m21 2 (pc' := 93) (L' := [(0, .ref 81), (1, .ref 48)]) (st' := [.ref 48, .ref 81]) rfl ?_
  refine w_gf H (pc' := 96) (L' := [(0, .ref 81), (1, .ref 48)]) h_m21 (z_at.mk 3 rfl rfl) rfl (u := .int (0 : Int32)) rfl rfl rfl ?_
  refine w_pf H (12, 18, [(2, .int (0 : Int32)), (0, .ref 74), (17, .ref 91), (16, .ref 89), (15, .int (0 : Int32)), (14, .int (0 : Int32)), (13, .int (0 : Int32)), (12, .int (0 : Int32)), (11, .int (0 : Int32)), (10, .int (0 : Int32)), (9, .long (0 : Int64)), (8, .int (0 : Int32)), (7, .ref 88), (6, .ref 87), (5, .ref 86), (4, .ref 85), (3, .ref 84), (1, .ref 82)], none) (pc' := 99) (L' := [(0, .ref 81), (1, .ref 48)]) h_m21 (z_at.mk 3 rfl rfl) rfl (by decide) rfl (Or.inl rfl) rfl rfl rfl ?_
  clear H m; intro m H
  refine w_p h_m21 2 (pc' := 101) (L' := [(0, .ref 81), (1, .ref 48)]) (st' := [.ref 48, .ref 81]) rfl ?_
  refine w_gf H (pc' := 104) (L' := [(0, .ref 81), (1, .ref 48)]) h_m21 (z_at.mk 3 rfl rfl) rfl (u := .int (0 : Int32)) rfl rfl rfl ?_
  refine w_pf H (12, 18, [(8, .int (0 : Int32)), (2, .int (0 : Int32)), (0, .ref 74), (17, .ref 91), (16, .ref 89), (15, .int (0 : Int32)), (14, .int (0 : Int32)), (13, .int (0 : Int32)), (12, .int (0 : Int32)), (11, .int (0 : Int32)), (10, .int (0 : Int32)), (9, .long (0 : Int64)), (7, .ref 88), (6, .ref 87), (5, .ref 86), (4, .ref 85), (3, .ref 84), (1, .ref 82)], none) (pc' := 107) (L' := [(0, .ref 81), (1, .ref 48)]) h_m21 (z_at.mk 3 rfl rfl) rfl (by decide) rfl (Or.inl rfl) rfl rfl rfl ?_
  clear H m; intro m H
  refine w_p h_m21 2 (pc' := 109) (L' := [(0, .ref 81), (1, .ref 48)]) (st' := [.ref 48, .ref 81]) rfl ?_
  refine w_gf H (pc' := 112) (L' := [(0, .ref 81), (1, .ref 48)]) h_m21 (z_at.mk 3 rfl rfl) rfl (u := .long (0 : Int64)) rfl rfl rfl ?_
  refine w_pf H (12, 18, [(9, .long (0 : Int64)), (8, .int (0 : Int32)), (2, .int (0 : Int32)), (0, .ref 74), (17, .ref 91), (16, .ref 89), (15, .int (0 : Int32)), (14, .int (0 : Int32)), (13, .int (0 : Int32)), (12, .int (0 : Int32)), (11, .int (0 : Int32)), (10, .int (0 : Int32)), (7, .ref 88), (6, .ref 87), (5, .ref 86), (4, .ref 85), (3, .ref 84), (1, .ref 82)], none) (pc' := 115) (L' := [(0, .ref 81), (1, .ref 48)]) h_m21 (z_at.mk 3 rfl rfl) rfl (by decide) rfl (Or.inl rfl) rfl rfl rfl ?_
  clear H m; intro m H
  refine w_p h_m21 2 (pc' := 117) (L' := [(0, .ref 81), (1, .ref 48)]) (st' := [.ref 48, .ref 81]) rfl ?_
  refine w_gf H (pc' := 120) (L' := [(0, .ref 81), (1, .ref 48)]) h_m21 (z_at.mk 3 rfl rfl) rfl (u := .int (0 : Int32)) rfl rfl rfl ?_
  refine w_pf H (12, 18, [(10, .int (0 : Int32)), (9, .long (0 : Int64)), (8, .int (0 : Int32)), (2, .int (0 : Int32)), (0, .ref 74), (17, .ref 91), (16, .ref 89), (15, .int (0 : Int32)), (14, .int (0 : Int32)), (13, .int (0 : Int32)), (12, .int (0 : Int32)), (11, .int (0 : Int32)), (7, .ref 88), (6, .ref 87), (5, .ref 86), (4, .ref 85), (3, .ref 84), (1, .ref 82)], none) (pc' := 123) (L' := [(0, .ref 81), (1, .ref 48)]) h_m21 (z_at.mk 3 rfl rfl) rfl (by decide) rfl (Or.inl rfl) rfl rfl rfl ?_
  clear H m; intro m H
  refine w_p h_m21 2 (pc' := 125) (L' := [(0, .ref 81), (1, .ref 48)]) (st' := [.ref 48, .ref 81]) rfl ?_
  refine w_gf H (pc' := 128) (L' := [(0, .ref 81), (1, .ref 48)]) h_m21 (z_at.mk 3 rfl rfl) rfl (u := .int (0 : Int32)) rfl rfl rfl ?_
  refine w_pf H (12, 18, [(11, .int (0 : Int32)), (10, .int (0 : Int32)), (9, .long (0 : Int64)), (8, .int (0 : Int32)), (2, .int (0 : Int32)), (0, .ref 74), (17, .ref 91), (16, .ref 89), (15, .int (0 : Int32)), (14, .int (0 : Int32)), (13, .int (0 : Int32)), (12, .int (0 : Int32)), (7, .ref 88), (6, .ref 87), (5, .ref 86), (4, .ref 85), (3, .ref 84), (1, .ref 82)], none) (pc' := 131) (L' := [(0, .ref 81), (1, .ref 48)]) h_m21 (z_at.mk 3 rfl rfl) rfl (by decide) rfl (Or.inl rfl) rfl rfl rfl ?_
  clear H m; intro m H
  refine w_p h_m21 2 (pc' := 133) (L' := [(0, .ref 81), (1, .ref 48)]) (st' := [.ref 48, .ref 81]) rfl ?_
  refine w_gf H (pc' := 136) (L' := [(0, .ref 81), (1, .ref 48)]) h_m21 (z_at.mk 3 rfl rfl) rfl (u := .int (0 : Int32)) rfl rfl rfl ?_
  refine w_pf H (12, 18, [(12, .int (0 : Int32)), (11, .int (0 : Int32)), (10, .int (0 : Int32)), (9, .long (0 : Int64)), (8, .int (0 : Int32)), (2, .int (0 : Int32)), (0, .ref 74), (17, .ref 91), (16, .ref 89), (15, .int (0 : Int32)), (14, .int (0 : Int32)), (13, .int (0 : Int32)), (7, .ref 88), (6, .ref 87), (5, .ref 86), (4, .ref 85), (3, .ref 84), (1, .ref 82)], none) (pc' := 139) (L' := [(0, .ref 81), (1, .ref 48)]) h_m21 (z_at.mk 3 rfl rfl) rfl (by decide) rfl (Or.inl rfl) rfl rfl rfl ?_
  clear H m; intro m H
  refine w_p h_m21 2 (pc' := 141) (L' := [(0, .ref 81), (1, .ref 48)]) (st' := [.ref 48, .ref 81]) rfl ?_
  refine w_gf H (pc' := 144) (L' := [(0, .ref 81), (1, .ref 48)]) h_m21 (z_at.mk 3 rfl rfl) rfl (u := .int (0 : Int32)) rfl rfl rfl ?_
  refine w_pf H (12, 18, [(13, .int (0 : Int32)), (12, .int (0 : Int32)), (11, .int (0 : Int32)), (10, .int (0 : Int32)), (9, .long (0 : Int64)), (8, .int (0 : Int32)), (2, .int (0 : Int32)), (0, .ref 74), (17, .ref 91), (16, .ref 89), (15, .int (0 : Int32)), (14, .int (0 : Int32)), (7, .ref 88), (6, .ref 87), (5, .ref 86), (4, .ref 85), (3, .ref 84), (1, .ref 82)], none) (pc' := 147) (L' := [(0, .ref 81), (1, .ref 48)]) h_m21 (z_at.mk 3 rfl rfl) rfl (by decide) rfl (Or.inl rfl) rfl rfl rfl ?_
  clear H m; intro m H
  refine w_p h_m21 2 (pc' := 149) (L' := [(0, .ref 81), (1, .ref 48)]) (st' := [.ref 48, .ref 81]) rfl ?_
  refine w_gf H (pc' := 152) (L' := [(0, .ref 81), (1, .ref 48)]) h_m21 (z_at.mk 3 rfl rfl) rfl (u := .int (0 : Int32)) rfl rfl rfl ?_
  refine w_pf H (12, 18, [(14, .int (0 : Int32)), (13, .int (0 : Int32)), (12, .int (0 : Int32)), (11, .int (0 : Int32)), (10, .int (0 : Int32)), (9, .long (0 : Int64)), (8, .int (0 : Int32)), (2, .int (0 : Int32)), (0, .ref 74), (17, .ref 91), (16, .ref 89), (15, .int (0 : Int32)), (7, .ref 88), (6, .ref 87), (5, .ref 86), (4, .ref 85), (3, .ref 84), (1, .ref 82)], none) (pc' := 155) (L' := [(0, .ref 81), (1, .ref 48)]) h_m21 (z_at.mk 3 rfl rfl) rfl (by decide) rfl (Or.inl rfl) rfl rfl rfl ?_
  clear H m; intro m H
  refine w_p h_m21 2 (pc' := 157) (L' := [(0, .ref 81), (1, .ref 48)]) (st' := [.ref 48, .ref 81]) rfl ?_
  refine w_gf H (pc' := 160) (L' := [(0, .ref 81), (1, .ref 48)]) h_m21 (z_at.mk 3 rfl rfl) rfl (u := .int (0 : Int32)) rfl rfl rfl ?_
  refine w_pf H (12, 18, [(15, .int (0 : Int32)), (14, .int (0 : Int32)), (13, .int (0 : Int32)), (12, .int (0 : Int32)), (11, .int (0 : Int32)), (10, .int (0 : Int32)), (9, .long (0 : Int64)), (8, .int (0 : Int32)), (2, .int (0 : Int32)), (0, .ref 74), (17, .ref 91), (16, .ref 89), (7, .ref 88), (6, .ref 87), (5, .ref 86), (4, .ref 85), (3, .ref 84), (1, .ref 82)], none) (pc' := 163) (L' := [(0, .ref 81), (1, .ref 48)]) h_m21 (z_at.mk 3 rfl rfl) rfl (by decide) rfl (Or.inl rfl) rfl rfl rfl ?_
  clear H m; intro m H
  refine w_rv h_m21 (z_at.mk 1 rfl rfl) rfl ?_
  show z_W 998 78 22 [(0, .ref 73), (1, .ref 40)] [] m _
  refine w_p h_m78 1 (pc' := 23) (L' := [(0, .ref 73), (1, .ref 40)]) (st' := [.ref 73]) rfl ?_
  refine w_gf H (pc' := 26) (L' := [(0, .ref 73), (1, .ref 40)]) h_m78 (z_at.mk 3 rfl rfl) rfl (u := .ref 93) rfl rfl rfl ?_
  refine w_p h_m78 1 (pc' := 27) (L' := [(0, .ref 73), (1, .ref 40)]) (st' := [.ref 40, .ref 93]) rfl ?_
  refine w_gf H (pc' := 30) (L' := [(0, .ref 73), (1, .ref 40)]) h_m78 (z_at.mk 3 rfl rfl) rfl (u := .ref 60) rfl rfl rfl ?_
  refine w_cv (H.t rfl) (pc' := 33) (L' := [(0, .ref 73), (1, .ref 40)]) (rest := []) (Ps := [.ref 60]) (L0 := [(0, .ref 93), (1, .ref 60)]) h_m78 (z_at.mk 3 rfl rfl) (Or.inl ⟨rfl, rfl⟩) rfl rfl (by decide) (by decide) rfl rfl rfl rfl rfl rfl (by decide) rfl rfl rfl ?_
  refine w_p h_m56 1 (pc' := 1) (L' := [(0, .ref 93), (1, .ref 60)]) (st' := [.ref 60]) rfl ?_
  refine w_gf H (pc' := 4) (L' := [(0, .ref 93), (1, .ref 60)]) h_m56 (z_at.mk 3 rfl rfl) rfl (u := .ref 61) rfl rfl rfl ?_
  refine w_p h_m56 2 (pc' := 6) (L' := [(0, .ref 93), (1, .ref 60)]) (st' := [.ref 93, .int (0 : Int32), .ref 61]) rfl ?_
  refine w_gf H (pc' := 9) (L' := [(0, .ref 93), (1, .ref 60)]) h_m56 (z_at.mk 3 rfl rfl) rfl (u := .ref 94) rfl rfl rfl ?_
  refine w_p h_m56 2 (pc' := 12) (L' := [(0, .ref 93), (1, .ref 60)]) (st' := [.int (60 : Int32), .int (0 : Int32), .ref 94, .int (0 : Int32), .ref 61]) rfl ?_
  refine w_cpf H (ra := (0, 60, [], some (.int (0 : Int32)))) (pc' := 15) (L' := [(0, .ref 93), (1, .ref 60)]) h_m56 (z_at.mk 3 rfl rfl) rfl (z_cat_le 0 rfl (by decide)) rfl rfl rfl rfl (by decide) rfl rfl ?_
  clear H m; intro m H
  refine w_p h_m56 1 (pc' := 16) (L' := [(0, .ref 93), (1, .ref 60)]) (st' := [.ref 60]) rfl ?_
  refine w_gf H (pc' := 19) (L' := [(0, .ref 93), (1, .ref 60)]) h_m56 (z_at.mk 3 rfl rfl) rfl (u := .ref 62) rfl rfl rfl ?_
  refine w_p h_m56 2 (pc' := 21) (L' := [(0, .ref 93), (1, .ref 60)]) (st' := [.ref 93, .int (0 : Int32), .ref 62]) rfl ?_
  refine w_gf H (pc' := 24) (L' := [(0, .ref 93), (1, .ref 60)]) h_m56 (z_at.mk 3 rfl rfl) rfl (u := .ref 95) rfl rfl rfl ?_
  refine w_p h_m56 2 (pc' := 27) (L' := [(0, .ref 93), (1, .ref 60)]) (st' := [.int (60 : Int32), .int (0 : Int32), .ref 95, .int (0 : Int32), .ref 62]) rfl ?_
  refine w_cpf H (ra := (1, 60, [], some (.long (0 : Int64)))) (pc' := 30) (L' := [(0, .ref 93), (1, .ref 60)]) h_m56 (z_at.mk 3 rfl rfl) rfl (z_cat_le 0 rfl (by decide)) rfl rfl rfl rfl (by decide) rfl rfl ?_
  clear H m; intro m H
  refine w_p h_m56 2 (pc' := 32) (L' := [(0, .ref 93), (1, .ref 60)]) (st' := [.ref 60, .ref 93]) rfl ?_
  refine w_gf H (pc' := 35) (L' := [(0, .ref 93), (1, .ref 60)]) h_m56 (z_at.mk 3 rfl rfl) rfl (u := .int (0 : Int32)) rfl rfl rfl ?_
  refine w_pf H (13, 3, [(2, .int (0 : Int32)), (1, .ref 95), (0, .ref 94)], none) (pc' := 38) (L' := [(0, .ref 93), (1, .ref 60)]) h_m56 (z_at.mk 3 rfl rfl) rfl (by decide) rfl (Or.inl rfl) rfl rfl rfl ?_
  clear H m; intro m H
  refine w_rv h_m56 (z_at.mk 1 rfl rfl) rfl ?_
  show z_W 998 78 33 [(0, .ref 73), (1, .ref 40)] [] m _
  refine w_p h_m78 1 (pc' := 34) (L' := [(0, .ref 73), (1, .ref 40)]) (st' := [.ref 73]) rfl ?_
  refine w_gf H (pc' := 37) (L' := [(0, .ref 73), (1, .ref 40)]) h_m78 (z_at.mk 3 rfl rfl) rfl (u := .ref 96) rfl rfl rfl ?_
  refine w_p h_m78 1 (pc' := 38) (L' := [(0, .ref 73), (1, .ref 40)]) (st' := [.ref 40, .ref 96]) rfl ?_
  refine w_gf H (pc' := 41) (L' := [(0, .ref 73), (1, .ref 40)]) h_m78 (z_at.mk 3 rfl rfl) rfl (u := .ref 63) rfl rfl rfl ?_
  refine w_cv (H.t rfl) (pc' := 44) (L' := [(0, .ref 73), (1, .ref 40)]) (rest := []) (Ps := [.ref 63]) (L0 := [(0, .ref 96), (1, .ref 63)]) h_m78 (z_at.mk 3 rfl rfl) (Or.inl ⟨rfl, rfl⟩) rfl rfl (by decide) (by decide) rfl rfl rfl rfl rfl rfl (by decide) rfl rfl rfl ?_
  refine w_p h_m16 2 (pc' := 2) (L' := [(0, .ref 96), (1, .ref 63)]) (st' := [.int (0 : Int32), .ref 96]) rfl ?_
  refine w_pf H (11, 2, [(1, .int (0 : Int32)), (0, .ref 97)], none) (pc' := 5) (L' := [(0, .ref 96), (1, .ref 63)]) h_m16 (z_at.mk 3 rfl rfl) rfl (by decide) rfl (Or.inl rfl) rfl rfl rfl ?_
  clear H m; intro m H
  refine w_p h_m16 4 (pc' := 9) (L' := [(0, .ref 96), (1, .ref 63), (2, .int (0 : Int32))]) (st' := [.ref 63, .int (0 : Int32)]) rfl ?_
  refine w_gf H (pc' := 12) (L' := [(0, .ref 96), (1, .ref 63), (2, .int (0 : Int32))]) h_m16 (z_at.mk 3 rfl rfl) rfl (u := .int (0 : Int32)) rfl rfl rfl ?_
  refine w_p h_m16 1 (pc' := 31) (L' := [(0, .ref 96), (1, .ref 63), (2, .int (0 : Int32))]) (st' := []) rfl ?_
  refine w_rv h_m16 (z_at.mk 1 rfl rfl) rfl ?_
  show z_W 998 78 44 [(0, .ref 73), (1, .ref 40)] [] m _
  refine w_p h_m78 1 (pc' := 45) (L' := [(0, .ref 73), (1, .ref 40)]) (st' := [.ref 73]) rfl ?_
  refine w_gf H (pc' := 48) (L' := [(0, .ref 73), (1, .ref 40)]) h_m78 (z_at.mk 3 rfl rfl) rfl (u := .ref 98) rfl rfl rfl ?_
  refine w_p h_m78 1 (pc' := 49) (L' := [(0, .ref 73), (1, .ref 40)]) (st' := [.ref 40, .ref 98]) rfl ?_
  refine w_gf H (pc' := 52) (L' := [(0, .ref 73), (1, .ref 40)]) h_m78 (z_at.mk 3 rfl rfl) rfl (u := .ref 65) rfl rfl rfl ?_
  refine w_cv (H.t rfl) (pc' := 55) (L' := [(0, .ref 73), (1, .ref 40)]) (rest := []) (Ps := [.ref 65]) (L0 := [(0, .ref 98), (1, .ref 65)]) h_m78 (z_at.mk 3 rfl rfl) (Or.inl ⟨rfl, rfl⟩) rfl rfl (by decide) (by decide) rfl rfl rfl rfl rfl rfl (by decide) rfl rfl rfl ?_
  refine w_p h_m113 1 (pc' := 1) (L' := [(0, .ref 98), (1, .ref 65)]) (st' := [.ref 65]) rfl ?_
  refine w_gf H (pc' := 4) (L' := [(0, .ref 98), (1, .ref 65)]) h_m113 (z_at.mk 3 rfl rfl) rfl (u := .ref 66) rfl rfl rfl ?_
  refine w_p h_m113 2 (pc' := 6) (L' := [(0, .ref 98), (1, .ref 65)]) (st' := [.ref 98, .int (0 : Int32), .ref 66]) rfl ?_
  refine w_gf H (pc' := 9) (L' := [(0, .ref 98), (1, .ref 65)]) h_m113 (z_at.mk 3 rfl rfl) rfl (u := .ref 99) rfl rfl rfl ?_
  refine w_p h_m113 2 (pc' := 12) (L' := [(0, .ref 98), (1, .ref 65)]) (st' := [.int (6 : Int32), .int (0 : Int32), .ref 99, .int (0 : Int32), .ref 66]) rfl ?_
  refine w_cpf H (ra := (0, 6, [], some (.int (0 : Int32)))) (pc' := 15) (L' := [(0, .ref 98), (1, .ref 65)]) h_m113 (z_at.mk 3 rfl rfl) rfl (z_cat_le 0 rfl (by decide)) rfl rfl rfl rfl (by decide) rfl rfl ?_
  clear H m; intro m H
  refine w_p h_m113 1 (pc' := 16) (L' := [(0, .ref 98), (1, .ref 65)]) (st' := [.ref 65]) rfl ?_
  refine w_gf H (pc' := 19) (L' := [(0, .ref 98), (1, .ref 65)]) h_m113 (z_at.mk 3 rfl rfl) rfl (u := .ref 67) rfl rfl rfl ?_
  refine w_p h_m113 2 (pc' := 21) (L' := [(0, .ref 98), (1, .ref 65)]) (st' := [.ref 98, .int (0 : Int32), .ref 67]) rfl ?_
  refine w_gf H (pc' := 24) (L' := [(0, .ref 98), (1, .ref 65)]) h_m113 (z_at.mk 3 rfl rfl) rfl (u := .ref 100) rfl rfl rfl ?_
  refine w_p h_m113 2 (pc' := 27) (L' := [(0, .ref 98), (1, .ref 65)]) (st' := [.int (6 : Int32), .int (0 : Int32), .ref 100, .int (0 : Int32), .ref 67]) rfl ?_
  refine w_cpf H (ra := (0, 6, [], some (.int (0 : Int32)))) (pc' := 30) (L' := [(0, .ref 98), (1, .ref 65)]) h_m113 (z_at.mk 3 rfl rfl) rfl (z_cat_le 0 rfl (by decide)) rfl rfl rfl rfl (by decide) rfl rfl ?_
  clear H m; intro m H
  refine w_p h_m113 1 (pc' := 31) (L' := [(0, .ref 98), (1, .ref 65)]) (st' := [.ref 65]) rfl ?_
  refine w_gf H (pc' := 34) (L' := [(0, .ref 98), (1, .ref 65)]) h_m113 (z_at.mk 3 rfl rfl) rfl (u := .ref 68) rfl rfl rfl ?_
  refine w_p h_m113 2 (pc' := 36) (L' := [(0, .ref 98), (1, .ref 65)]) (st' := [.ref 98, .int (0 : Int32), .ref 68]) rfl ?_
  refine w_gf H (pc' := 39) (L' := [(0, .ref 98), (1, .ref 65)]) h_m113 (z_at.mk 3 rfl rfl) rfl (u := .ref 101) rfl rfl rfl ?_
  refine w_p h_m113 2 (pc' := 42) (L' := [(0, .ref 98), (1, .ref 65)]) (st' := [.int (6 : Int32), .int (0 : Int32), .ref 101, .int (0 : Int32), .ref 68]) rfl ?_
  refine w_cpf H (ra := (0, 6, [], some (.int (0 : Int32)))) (pc' := 45) (L' := [(0, .ref 98), (1, .ref 65)]) h_m113 (z_at.mk 3 rfl rfl) rfl (z_cat_le 0 rfl (by decide)) rfl rfl rfl rfl (by decide) rfl rfl ?_
  clear H m; intro m H
  refine w_p h_m113 2 (pc' := 47) (L' := [(0, .ref 98), (1, .ref 65)]) (st' := [.ref 65, .ref 98]) rfl ?_
  refine w_gf H (pc' := 50) (L' := [(0, .ref 98), (1, .ref 65)]) h_m113 (z_at.mk 3 rfl rfl) rfl (u := .int (0 : Int32)) rfl rfl rfl ?_
  refine w_pf H (20, 6, [(5, .int (0 : Int32)), (4, .ref 103), (3, .ref 102), (2, .ref 101), (1, .ref 100), (0, .ref 99)], none) (pc' := 53) (L' := [(0, .ref 98), (1, .ref 65)]) h_m113 (z_at.mk 3 rfl rfl) rfl (by decide) rfl (Or.inl rfl) rfl rfl rfl ?_
  clear H m; intro m H
  refine w_rv h_m113 (z_at.mk 1 rfl rfl) rfl ?_
  show z_W 998 78 55 [(0, .ref 73), (1, .ref 40)] [] m _
  refine w_rv h_m78 (z_at.mk 1 rfl rfl) rfl ?_
  show z_W 999 156 11 [(0, .ref 39)] [] m _
  refine w_p h_m156 2 (pc' := 13) (L' := [(0, .ref 39)]) (st' := [.int (1 : Int32), .ref 39]) rfl ?_
  refine w_pf H (21, 14, [(2, .int (1 : Int32)), (13, .ref 134), (12, .ref 133), (11, .ref 131), (10, .ref 129), (9, .int (0 : Int32)), (8, .ref 128), (7, .ref 126), (6, .ref 122), (5, .ref 120), (4, .ref 118), (3, .ref 106), (1, .ref 73), (0, .ref 40)], none) (pc' := 16) (L' := [(0, .ref 39)]) h_m156 (z_at.mk 3 rfl rfl) rfl (by decide) rfl (Or.inl rfl) rfl rfl rfl ?_
  clear H m; intro m H
  refine w_p h_m156 1 (pc' := 17) (L' := [(0, .ref 39)]) (st' := [.ref 39]) rfl ?_
  refine w_gf H (pc' := 20) (L' := [(0, .ref 39)]) h_m156 (z_at.mk 3 rfl rfl) rfl (u := .ref 40) rfl rfl rfl ?_
  refine w_gf H (pc' := 23) (L' := [(0, .ref 39)]) h_m156 (z_at.mk 3 rfl rfl) rfl (u := .ref 48) rfl rfl rfl ?_
  refine w_gf H (pc' := 26) (L' := [(0, .ref 39)]) h_m156 (z_at.mk 3 rfl rfl) rfl (u := .int (0 : Int32)) rfl rfl rfl ?_
  refine w_ri h_m156 (z_at.mk 1 rfl rfl) rfl rfl ?_
  show z_W 1000 1000 1352 [(0, .ref 0), (1, .ref 39), (2, .ref 143), (3, .int (0 : Int32))] [.int (0 : Int32)] m _
  refine w_p h_m1000 1 (pc' := 1353) (L' := [(0, .ref 0), (1, .ref 39), (2, .ref 143), (3, .int (0 : Int32))]) (st' := [.ref 143, .int (0 : Int32)]) rfl ?_
  refine w_cv (H.t rfl) (pc' := 1356) (L' := [(0, .ref 0), (1, .ref 39), (2, .ref 143), (3, .int (0 : Int32))]) (rest := [.int (0 : Int32)]) (Ps := []) (L0 := [(0, .ref 143)]) h_m1000 (z_at.mk 3 rfl rfl) (Or.inl ⟨rfl, rfl⟩) rfl rfl (by decide) (by decide) rfl rfl rfl rfl rfl rfl (by decide) rfl rfl rfl ?_
  refine w_p h_m270 2 (pc' := 2) (L' := [(0, .ref 143)]) (st' := [.ref 143, .ref 143]) rfl ?_
  refine w_gf H (pc' := 5) (L' := [(0, .ref 143)]) h_m270 (z_at.mk 3 rfl rfl) rfl (u := .ref 145) rfl rfl rfl ?_
  refine w_p h_m270 1 (pc' := 6) (L' := [(0, .ref 143)]) (st' := [.ref 143, .ref 145, .ref 143]) rfl ?_
  refine w_gf H (pc' := 9) (L' := [(0, .ref 143)]) h_m270 (z_at.mk 3 rfl rfl) rfl (u := .ref 148) rfl rfl rfl ?_
  refine w_cv (H.t rfl) (pc' := 12) (L' := [(0, .ref 143)]) (rest := []) (Ps := [.ref 145, .ref 148]) (L0 := [(0, .ref 143), (1, .ref 145), (2, .ref 148)]) h_m270 (z_at.mk 3 rfl rfl) (Or.inl ⟨rfl, rfl⟩) rfl rfl (by decide) (by decide) rfl rfl rfl rfl rfl rfl (by decide) rfl rfl rfl ?_
  refine w_keeps H (b1 := 145) (b2 := 148) (ra := (0, 2740, [(17, .int (1024 : Int32)), (16, .int (1 : Int32)), (15, .int (1 : Int32)), (13, .int (12 : Int32)), (12, .int (40 : Int32)), (11, .int (10 : Int32))], some (.int (0 : Int32)))) (rb := (1, 361, [], some (.long (0 : Int64)))) rfl rfl rfl rfl rfl rfl rfl rfl (by decide) (by decide) (by decide) (by decide) ?_
  clear H m; intro m H
  show z_W 999 270 12 [(0, .ref 143)] [] m _
  refine w_p h_m270 2 (pc' := 14) (L' := [(0, .ref 143)]) (st' := [.int (1 : Int32), .ref 143]) rfl ?_
  refine w_pf H (22, 35, [(6, .int (1 : Int32)), (34, .ref 167), (33, .ref 166), (31, .ref 165), (30, .ref 164), (28, .ref 163), (26, .ref 162), (25, .ref 161), (24, .ref 160), (19, .ref 159), (18, .ref 158), (17, .ref 157), (16, .ref 156), (13, .ref 155), (12, .ref 154), (11, .ref 153), (9, .ref 152), (8, .ref 151), (7, .ref 150), (5, .ref 149), (4, .ref 148), (3, .ref 147), (2, .ref 146), (1, .ref 145), (0, .ref 144), (10, .int (0 : Int32)), (14, .int (0 : Int32)), (15, .int (0 : Int32)), (20, .int (0 : Int32)), (21, .int (0 : Int32)), (22, .int (0 : Int32)), (23, .int (0 : Int32)), (27, .int (0 : Int32)), (29, .int (0 : Int32)), (32, .int (0 : Int32))], none) (pc' := 17) (L' := [(0, .ref 143)]) h_m270 (z_at.mk 3 rfl rfl) rfl (by decide) rfl (Or.inl rfl) rfl rfl rfl ?_
  clear H m; intro m H
  refine w_p h_m270 1 (pc' := 18) (L' := [(0, .ref 143)]) (st' := [.ref 143]) rfl ?_
  refine w_gf H (pc' := 21) (L' := [(0, .ref 143)]) h_m270 (z_at.mk 3 rfl rfl) rfl (u := .ref 144) rfl rfl rfl ?_
  refine w_p h_m270 1 (pc' := 22) (L' := [(0, .ref 143)]) (st' := [.int (0 : Int32), .ref 144]) rfl ?_
  refine w_al H (t := 0) (j := 0) (pc' := 23) (L' := [(0, .ref 143)]) h_m270 (z_at.mk 1 rfl rfl) rfl rfl rfl (u := .int (0 : Int32)) rfl rfl rfl ?_
  refine w_ri h_m270 (z_at.mk 1 rfl rfl) rfl rfl ?_
  show z_W 1000 1000 1356 [(0, .ref 0), (1, .ref 39), (2, .ref 143), (3, .int (0 : Int32))] [.int (0 : Int32), .int (0 : Int32)] m _
  refine w_p h_m1000 5 (pc' := 20) (L' := [(0, .ref 0), (1, .ref 39), (2, .ref 143), (3, .int (6 : Int32))]) (st' := [.ref 0, .int (6 : Int32)]) rfl ?_
  refine w_lene H (x := (6 : Int32)) (pc' := 21) (L' := [(0, .ref 0), (1, .ref 39), (2, .ref 143), (3, .int (6 : Int32))]) h_m1000 (z_at.mk 1 rfl rfl) (by decide) rfl (by decide) rfl rfl rfl ?_
  refine w_p h_m1000 4 (pc' := 1381) (L' := [(0, .ref 0), (1, .ref 39), (2, .ref 143), (3, .int (6 : Int32))]) (st' := [.int (1 : Int32)]) rfl ?_
  refine w_ri h_m1000 (z_at.mk 1 rfl rfl) rfl rfl ?_
  exact hQ _ _ _ _ H (by decide) (by decide)
