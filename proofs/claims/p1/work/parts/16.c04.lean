/-! THE ROADS of calls 10, 11, 23, 32 on a fresh object (by wip/px_cmd.py) -/
set_option maxHeartbeats 400000000 in
set_option maxRecDepth 20000 in
theorem w_c10 {xs : Nat → Int32} {m : zM} {Q : Option Value → zM → Prop} (H : w_ok 6 xs 168 63950 w_T0 m) (hQ : ∀ N S T m, w_ok 6 xs N S T m → N ≤ 600039 → S ≤ 7302250 → Q (some (.int 1)) m) : z_W 1000 1000 468 [(0, .ref 0), (1, .ref 39), (2, .ref 143), (3, .int (0 : Int32))] [] m Q := by
  have b1 := zi_bd (xs 1)
  have b2 := zi_bd (xs 2)
  have b3 := zi_bd (xs 3)
  have b4 := zi_bd (xs 4)
  have b5 := zi_bd (xs 5)
  refine w_p h_m1000 1 (pc' := 469) (L' := [(0, .ref 0), (1, .ref 39), (2, .ref 143), (3, .int (0 : Int32))]) (st' := [.ref 39]) rfl ?_
  refine w_cv (H.t rfl) (pc' := 472) (L' := [(0, .ref 0), (1, .ref 39), (2, .ref 143), (3, .int (0 : Int32))]) (rest := []) (Ps := []) (L0 := [(0, .ref 39)]) h_m1000 (z_at.mk 3 rfl rfl) (Or.inl ⟨rfl, rfl⟩) rfl rfl (by decide) (by decide) rfl rfl rfl rfl rfl rfl (by decide) rfl rfl rfl ?_
  refine w_p h_m127 1 (pc' := 1) (L' := [(0, .ref 39)]) (st' := [.ref 39]) rfl ?_
  refine w_gf H (pc' := 4) (L' := [(0, .ref 39)]) h_m127 (z_at.mk 3 rfl rfl) rfl (u := .ref 129) rfl rfl rfl ?_
  refine w_p h_m127 1 (pc' := 5) (L' := [(0, .ref 39)]) (st' := [.int (0 : Int32), .ref 129]) rfl ?_
  refine w_cv (H.t rfl) (pc' := 8) (L' := [(0, .ref 39)]) (rest := []) (Ps := [.int (0 : Int32)]) (L0 := [(0, .ref 129), (1, .int (0 : Int32))]) h_m127 (z_at.mk 3 rfl rfl) (Or.inl ⟨rfl, rfl⟩) rfl rfl (by decide) (by decide) rfl rfl rfl rfl rfl rfl (by decide) rfl rfl rfl ?_
  refine w_p h_m306 2 (pc' := 2) (L' := [(0, .ref 129), (1, .int (0 : Int32))]) (st' := [.int (0 : Int32), .ref 129]) rfl ?_
  refine w_cv (H.t rfl) (pc' := 5) (L' := [(0, .ref 129), (1, .int (0 : Int32))]) (rest := []) (Ps := [.int (0 : Int32)]) (L0 := [(0, .ref 129), (1, .int (0 : Int32))]) h_m306 (z_at.mk 3 rfl rfl) (Or.inr ⟨rfl, rfl, rfl⟩) rfl rfl (by decide) (by decide) rfl rfl rfl rfl rfl rfl (by decide) rfl rfl rfl ?_
  refine w_p h_m276 4 (pc' := 15) (L' := [(0, .ref 129), (1, .int (0 : Int32))]) (st' := [.int (0 : Int32), .ref 129]) rfl ?_
  refine w_cv (H.t rfl) (pc' := 18) (L' := [(0, .ref 129), (1, .int (0 : Int32))]) (rest := []) (Ps := [.int (0 : Int32)]) (L0 := [(0, .ref 129), (1, .int (0 : Int32))]) h_m276 (z_at.mk 3 rfl rfl) (Or.inl ⟨rfl, rfl⟩) rfl rfl (by decide) (by decide) rfl rfl rfl rfl rfl rfl (by decide) rfl rfl rfl ?_
  refine w_p h_m274 1 (pc' := 1) (L' := [(0, .ref 129), (1, .int (0 : Int32))]) (st' := [.ref 129]) rfl ?_
  refine w_gf H (pc' := 4) (L' := [(0, .ref 129), (1, .int (0 : Int32))]) h_m274 (z_at.mk 3 rfl rfl) rfl (u := .ref 130) rfl rfl rfl ?_
  refine w_len H (t := 2) (n := 16) (x := (16 : Int32)) (pc' := 5) (L' := [(0, .ref 129), (1, .int (0 : Int32))]) h_m274 (z_at.mk 1 rfl rfl) rfl (by decide) rfl rfl rfl ?_
  refine w_p h_m274 1 (pc' := 6) (L' := [(0, .ref 129), (1, .int (0 : Int32))]) (st' := [.ref 129, .int (16 : Int32)]) rfl ?_
  refine w_gf H (pc' := 9) (L' := [(0, .ref 129), (1, .int (0 : Int32))]) h_m274 (z_at.mk 3 rfl rfl) rfl (u := .int (0 : Int32)) rfl rfl rfl ?_
  refine w_p h_m274 6 (pc' := 38) (L' := []) (st' := []) rfl ?_
  refine w_rv h_m274 (z_at.mk 1 rfl rfl) rfl ?_
  show z_W 997 276 18 [(0, .ref 129), (1, .int (0 : Int32))] [] m _
  refine w_p h_m276 1 (pc' := 19) (L' := [(0, .ref 129), (1, .int (0 : Int32))]) (st' := [.ref 129]) rfl ?_
  refine w_gf H (pc' := 22) (L' := [(0, .ref 129), (1, .int (0 : Int32))]) h_m276 (z_at.mk 3 rfl rfl) rfl (u := .int (0 : Int32)) rfl rfl rfl ?_
  refine w_p h_m276 3 (pc' := 64) (L' := [(0, .ref 129), (1, .int (0 : Int32))]) (st' := [.ref 129]) rfl ?_
  refine w_gf H (pc' := 67) (L' := [(0, .ref 129), (1, .int (0 : Int32))]) h_m276 (z_at.mk 3 rfl rfl) rfl (u := .int (0 : Int32)) rfl rfl rfl ?_
  refine w_p h_m276 4 (pc' := 78) (L' := [(0, .ref 129), (1, .int (0 : Int32))]) (st' := [.int (0 : Int32), .ref 129]) rfl ?_
  refine w_pf H (23, 4, [(3, .int (0 : Int32)), (1, .int (0 : Int32)), (0, .ref 130), (2, .int (0 : Int32))], none) (pc' := 81) (L' := [(0, .ref 129), (1, .int (0 : Int32))]) h_m276 (z_at.mk 3 rfl rfl) rfl (by decide) rfl (Or.inl rfl) rfl rfl rfl ?_
  clear H m; intro m H
  refine w_rv h_m276 (z_at.mk 1 rfl rfl) rfl ?_
  show z_W 998 306 5 [(0, .ref 129), (1, .int (0 : Int32))] [] m _
  refine w_rv h_m306 (z_at.mk 1 rfl rfl) rfl ?_
  show z_W 999 127 8 [(0, .ref 39)] [] m _
  refine w_p h_m127 4 (pc' := 12) (L' := [(0, .ref 39), (1, .int (0 : Int32))]) (st' := [.ref 39, .int (0 : Int32)]) rfl ?_
  refine w_gf H (pc' := 15) (L' := [(0, .ref 39), (1, .int (0 : Int32))]) h_m127 (z_at.mk 3 rfl rfl) rfl (u := .ref 40) rfl rfl rfl ?_
  refine w_gf H (pc' := 18) (L' := [(0, .ref 39), (1, .int (0 : Int32))]) h_m127 (z_at.mk 3 rfl rfl) rfl (u := .ref 48) rfl rfl rfl ?_
  refine w_gf H (pc' := 21) (L' := [(0, .ref 39), (1, .int (0 : Int32))]) h_m127 (z_at.mk 3 rfl rfl) rfl (u := .int (0 : Int32)) rfl rfl rfl ?_
  refine w_p h_m127 2 (pc' := 61) (L' := [(0, .ref 39), (1, .int (0 : Int32))]) (st' := [.ref 39]) rfl ?_
  refine w_gf H (pc' := 64) (L' := [(0, .ref 39), (1, .int (0 : Int32))]) h_m127 (z_at.mk 3 rfl rfl) rfl (u := .ref 129) rfl rfl rfl ?_
  refine w_cv (H.t rfl) (pc' := 67) (L' := [(0, .ref 39), (1, .int (0 : Int32))]) (rest := []) (Ps := []) (L0 := [(0, .ref 129)]) h_m127 (z_at.mk 3 rfl rfl) (Or.inl ⟨rfl, rfl⟩) rfl rfl (by decide) (by decide) rfl rfl rfl rfl rfl rfl (by decide) rfl rfl rfl ?_
  refine w_p h_m307 1 (pc' := 1) (L' := [(0, .ref 129)]) (st' := [.ref 129]) rfl ?_
  refine w_cv (H.t rfl) (pc' := 4) (L' := [(0, .ref 129)]) (rest := []) (Ps := []) (L0 := [(0, .ref 129)]) h_m307 (z_at.mk 3 rfl rfl) (Or.inr ⟨rfl, rfl, rfl⟩) rfl rfl (by decide) (by decide) rfl rfl rfl rfl rfl rfl (by decide) rfl rfl rfl ?_
  refine w_p h_m273 1 (pc' := 1) (L' := [(0, .ref 129)]) (st' := [.ref 129]) rfl ?_
  refine w_gf H (pc' := 4) (L' := [(0, .ref 129)]) h_m273 (z_at.mk 3 rfl rfl) rfl (u := .int (0 : Int32)) rfl rfl rfl ?_
  refine w_ri h_m273 (z_at.mk 1 rfl rfl) rfl rfl ?_
  show z_W 998 307 4 [(0, .ref 129)] [.int (0 : Int32)] m _
  refine w_ri h_m307 (z_at.mk 1 rfl rfl) rfl rfl ?_
  show z_W 999 127 67 [(0, .ref 39), (1, .int (0 : Int32))] [.int (0 : Int32)] m _
  refine w_ri h_m127 (z_at.mk 1 rfl rfl) rfl rfl ?_
  show z_W 1000 1000 472 [(0, .ref 0), (1, .ref 39), (2, .ref 143), (3, .int (0 : Int32))] [.int (0 : Int32)] m _
  refine w_p h_m1000 1 (pc' := 473) (L' := [(0, .ref 0), (1, .ref 39), (2, .ref 143), (3, .int (0 : Int32))]) (st' := [.ref 143, .int (0 : Int32)]) rfl ?_
  refine w_cv (H.t rfl) (pc' := 476) (L' := [(0, .ref 0), (1, .ref 39), (2, .ref 143), (3, .int (0 : Int32))]) (rest := [.int (0 : Int32)]) (Ps := []) (L0 := [(0, .ref 143)]) h_m1000 (z_at.mk 3 rfl rfl) (Or.inl ⟨rfl, rfl⟩) rfl rfl (by decide) (by decide) rfl rfl rfl rfl rfl rfl (by decide) rfl rfl rfl ?_
  refine w_p h_m238 2 (pc' := 2) (L' := [(0, .ref 143)]) (st' := [.int (0 : Int32), .ref 143]) rfl ?_
  refine w_pf H (22, 35, [(29, .int (0 : Int32)), (34, .ref 167), (33, .ref 166), (31, .ref 165), (30, .ref 164), (28, .ref 163), (26, .ref 162), (25, .ref 161), (24, .ref 160), (19, .ref 159), (18, .ref 158), (17, .ref 157), (16, .ref 156), (13, .ref 155), (12, .ref 154), (11, .ref 153), (9, .ref 152), (8, .ref 151), (7, .ref 150), (5, .ref 149), (4, .ref 148), (3, .ref 147), (2, .ref 146), (1, .ref 145), (0, .ref 144), (6, .int (0 : Int32)), (10, .int (0 : Int32)), (14, .int (0 : Int32)), (15, .int (0 : Int32)), (20, .int (0 : Int32)), (21, .int (0 : Int32)), (22, .int (0 : Int32)), (23, .int (0 : Int32)), (27, .int (0 : Int32)), (32, .int (0 : Int32))], none) (pc' := 5) (L' := [(0, .ref 143)]) h_m238 (z_at.mk 3 rfl rfl) rfl (by decide) rfl (Or.inl rfl) rfl rfl rfl ?_
  clear H m; intro m H
  refine w_p h_m238 4 (pc' := 9) (L' := [(0, .ref 143), (1, .int (0 : Int32))]) (st' := [.ref 143, .int (0 : Int32)]) rfl ?_
  refine w_gf H (pc' := 12) (L' := [(0, .ref 143), (1, .int (0 : Int32))]) h_m238 (z_at.mk 3 rfl rfl) rfl (u := .ref 144) rfl rfl rfl ?_
  refine w_p h_m238 1 (pc' := 13) (L' := [(0, .ref 143), (1, .int (0 : Int32))]) (st' := [.int (0 : Int32), .ref 144, .int (0 : Int32)]) rfl ?_
  refine w_al H (t := 0) (j := 0) (pc' := 14) (L' := [(0, .ref 143), (1, .int (0 : Int32))]) h_m238 (z_at.mk 1 rfl rfl) rfl rfl rfl (u := .int (0 : Int32)) rfl rfl rfl ?_
  refine w_p h_m238 2 (pc' := 46) (L' := [(0, .ref 143), (1, .int (0 : Int32))]) (st' := [.ref 143]) rfl ?_
  refine w_gf H (pc' := 49) (L' := [(0, .ref 143), (1, .int (0 : Int32))]) h_m238 (z_at.mk 3 rfl rfl) rfl (u := .int (0 : Int32)) rfl rfl rfl ?_
  refine w_ri h_m238 (z_at.mk 1 rfl rfl) rfl rfl ?_
  show z_W 1000 1000 476 [(0, .ref 0), (1, .ref 39), (2, .ref 143), (3, .int (0 : Int32))] [.int (0 : Int32), .int (0 : Int32)] m _
  refine w_p h_m1000 5 (pc' := 20) (L' := [(0, .ref 0), (1, .ref 39), (2, .ref 143), (3, .int (6 : Int32))]) (st' := [.ref 0, .int (6 : Int32)]) rfl ?_
  refine w_lene H (x := (6 : Int32)) (pc' := 21) (L' := [(0, .ref 0), (1, .ref 39), (2, .ref 143), (3, .int (6 : Int32))]) h_m1000 (z_at.mk 1 rfl rfl) (by decide) rfl (by decide) rfl rfl rfl ?_
  refine w_p h_m1000 4 (pc' := 1381) (L' := [(0, .ref 0), (1, .ref 39), (2, .ref 143), (3, .int (6 : Int32))]) (st' := [.int (1 : Int32)]) rfl ?_
  refine w_ri h_m1000 (z_at.mk 1 rfl rfl) rfl rfl ?_
  exact hQ _ _ _ _ H (by decide) (by decide)
set_option maxHeartbeats 400000000 in
set_option maxRecDepth 20000 in
theorem w_c11 {xs : Nat → Int32} {m : zM} {Q : Option Value → zM → Prop} (H : w_ok 6 xs 168 63950 w_T0 m) (hQ : ∀ N S T m, w_ok 6 xs N S T m → N ≤ 600039 → S ≤ 7302250 → Q (some (.int 1)) m) : z_W 1000 1000 481 [(0, .ref 0), (1, .ref 39), (2, .ref 143), (3, .int (0 : Int32))] [] m Q := by
  have b1 := zi_bd (xs 1)
  have b2 := zi_bd (xs 2)
  have b3 := zi_bd (xs 3)
  have b4 := zi_bd (xs 4)
  have b5 := zi_bd (xs 5)
  refine w_p h_m1000 1 (pc' := 482) (L' := [(0, .ref 0), (1, .ref 39), (2, .ref 143), (3, .int (0 : Int32))]) (st' := [.ref 39]) rfl ?_
  refine w_cv (H.t rfl) (pc' := 485) (L' := [(0, .ref 0), (1, .ref 39), (2, .ref 143), (3, .int (0 : Int32))]) (rest := []) (Ps := []) (L0 := [(0, .ref 39)]) h_m1000 (z_at.mk 3 rfl rfl) (Or.inl ⟨rfl, rfl⟩) rfl rfl (by decide) (by decide) rfl rfl rfl rfl rfl rfl (by decide) rfl rfl rfl ?_
  refine w_p h_m129 1 (pc' := 1) (L' := [(0, .ref 39)]) (st' := [.ref 39]) rfl ?_
  refine w_gf H (pc' := 4) (L' := [(0, .ref 39)]) h_m129 (z_at.mk 3 rfl rfl) rfl (u := .ref 120) rfl rfl rfl ?_
  refine w_cv (H.t rfl) (pc' := 7) (L' := [(0, .ref 39)]) (rest := []) (Ps := []) (L0 := [(0, .ref 120)]) h_m129 (z_at.mk 3 rfl rfl) (Or.inl ⟨rfl, rfl⟩) rfl rfl (by decide) (by decide) rfl rfl rfl rfl rfl rfl (by decide) rfl rfl rfl ?_
  refine w_p h_m92 2 (pc' := 2) (L' := [(0, .ref 120)]) (st' := [.int (0 : Int32), .ref 120]) rfl ?_
  refine w_pf H (19, 4, [(2, .int (0 : Int32)), (3, .int (-1 : Int32)), (1, .int (0 : Int32)), (0, .ref 121)], none) (pc' := 5) (L' := [(0, .ref 120)]) h_m92 (z_at.mk 3 rfl rfl) rfl (by decide) rfl (Or.inl rfl) rfl rfl rfl ?_
  clear H m; intro m H
  refine w_p h_m92 2 (pc' := 7) (L' := [(0, .ref 120)]) (st' := [.int (-1 : Int32), .ref 120]) rfl ?_
  refine w_pf H (19, 4, [(3, .int (-1 : Int32)), (2, .int (0 : Int32)), (1, .int (0 : Int32)), (0, .ref 121)], none) (pc' := 10) (L' := [(0, .ref 120)]) h_m92 (z_at.mk 3 rfl rfl) rfl (by decide) rfl (Or.inl rfl) rfl rfl rfl ?_
  clear H m; intro m H
  refine w_rv h_m92 (z_at.mk 1 rfl rfl) rfl ?_
  show z_W 999 129 7 [(0, .ref 39)] [] m _
  refine w_p h_m129 1 (pc' := 8) (L' := [(0, .ref 39)]) (st' := [.ref 39]) rfl ?_
  refine w_gf H (pc' := 11) (L' := [(0, .ref 39)]) h_m129 (z_at.mk 3 rfl rfl) rfl (u := .ref 126) rfl rfl rfl ?_
  refine w_p h_m129 1 (pc' := 12) (L' := [(0, .ref 39)]) (st' := [.int (0 : Int32), .ref 126]) rfl ?_
  refine w_pf H (11, 2, [(1, .int (0 : Int32)), (0, .ref 127)], none) (pc' := 15) (L' := [(0, .ref 39)]) h_m129 (z_at.mk 3 rfl rfl) rfl (by decide) rfl (Or.inl rfl) rfl rfl rfl ?_
  clear H m; intro m H
  refine w_p h_m129 10 (pc' := 30) (L' := [(0, .ref 39), (1, .int (1 : Int32)), (2, .int (1 : Int32))]) (st' := [.ref 39]) rfl ?_
  refine w_gf H (pc' := 33) (L' := [(0, .ref 39), (1, .int (1 : Int32)), (2, .int (1 : Int32))]) h_m129 (z_at.mk 3 rfl rfl) rfl (u := .ref 126) rfl rfl rfl ?_
  refine w_p h_m129 1 (pc' := 34) (L' := [(0, .ref 39), (1, .int (1 : Int32)), (2, .int (1 : Int32))]) (st' := [.ref 39, .ref 126]) rfl ?_
  refine w_gf H (pc' := 37) (L' := [(0, .ref 39), (1, .int (1 : Int32)), (2, .int (1 : Int32))]) h_m129 (z_at.mk 3 rfl rfl) rfl (u := .ref 120) rfl rfl rfl ?_
  refine w_cv (H.t rfl) (pc' := 40) (L' := [(0, .ref 39), (1, .int (1 : Int32)), (2, .int (1 : Int32))]) (rest := [.ref 126]) (Ps := []) (L0 := [(0, .ref 120)]) h_m129 (z_at.mk 3 rfl rfl) (Or.inl ⟨rfl, rfl⟩) rfl rfl (by decide) (by decide) rfl rfl rfl rfl rfl rfl (by decide) rfl rfl rfl ?_
  refine w_p h_m104 4 (pc' := 5) (L' := [(0, .ref 120)]) (st' := [.int (31 : Int32), .int (0 : Int32), .int (2 : Int32), .ref 120]) rfl ?_
  refine w_cv (H.t rfl) (pc' := 8) (L' := [(0, .ref 120)]) (rest := []) (Ps := [.int (2 : Int32), .int (0 : Int32), .int (31 : Int32)]) (L0 := [(0, .ref 120), (1, .int (2 : Int32)), (2, .int (0 : Int32)), (3, .int (31 : Int32))]) h_m104 (z_at.mk 3 rfl rfl) (Or.inl ⟨rfl, rfl⟩) rfl rfl (by decide) (by decide) rfl rfl rfl rfl rfl rfl (by decide) rfl rfl rfl ?_
  refine w_p h_m101 1 (pc' := 1) (L' := [(0, .ref 120), (1, .int (2 : Int32)), (2, .int (0 : Int32)), (3, .int (31 : Int32))]) (st' := [.ref 120]) rfl ?_
  refine w_gf H (pc' := 4) (L' := [(0, .ref 120), (1, .int (2 : Int32)), (2, .int (0 : Int32)), (3, .int (31 : Int32))]) h_m101 (z_at.mk 3 rfl rfl) rfl (u := .int (0 : Int32)) rfl rfl rfl ?_
  refine w_p h_m101 9 (pc' := 19) (L' := [(0, .ref 120), (1, .int (2 : Int32)), (2, .int (0 : Int32)), (3, .int (31 : Int32)), (4, .int (0 : Int32)), (5, .int (0 : Int32)), (6, .int (0 : Int32))]) (st' := [.ref 120]) rfl ?_
  refine w_cv (H.t rfl) (pc' := 22) (L' := [(0, .ref 120), (1, .int (2 : Int32)), (2, .int (0 : Int32)), (3, .int (31 : Int32)), (4, .int (0 : Int32)), (5, .int (0 : Int32)), (6, .int (0 : Int32))]) (rest := []) (Ps := []) (L0 := [(0, .ref 120)]) h_m101 (z_at.mk 3 rfl rfl) (Or.inl ⟨rfl, rfl⟩) rfl rfl (by decide) (by decide) rfl rfl rfl rfl rfl rfl (by decide) rfl rfl rfl ?_
  refine w_p h_m96 1 (pc' := 1) (L' := [(0, .ref 120)]) (st' := [.ref 120]) rfl ?_
  refine w_gf H (pc' := 4) (L' := [(0, .ref 120)]) h_m96 (z_at.mk 3 rfl rfl) rfl (u := .int (-1 : Int32)) rfl rfl rfl ?_
  refine w_p h_m96 3 (pc' := 9) (L' := [(0, .ref 120)]) (st' := [.ref 120]) rfl ?_
  refine w_gf H (pc' := 12) (L' := [(0, .ref 120)]) h_m96 (z_at.mk 3 rfl rfl) rfl (u := .int (0 : Int32)) rfl rfl rfl ?_
  refine w_p h_m96 2 (pc' := 16) (L' := [(0, .ref 120)]) (st' := [.ref 120]) rfl ?_
  refine w_gf H (pc' := 19) (L' := [(0, .ref 120)]) h_m96 (z_at.mk 3 rfl rfl) rfl (u := .int (0 : Int32)) rfl rfl rfl ?_
  refine w_p h_m96 1 (pc' := 20) (L' := [(0, .ref 120)]) (st' := [.ref 120, .int (0 : Int32)]) rfl ?_
  refine w_gf H (pc' := 23) (L' := [(0, .ref 120)]) h_m96 (z_at.mk 3 rfl rfl) rfl (u := .int (0 : Int32)) rfl rfl rfl ?_
  refine w_p h_m96 2 (pc' := 49) (L' := []) (st' := [.int (0 : Int32)]) rfl ?_
  refine w_ri h_m96 (z_at.mk 1 rfl rfl) rfl rfl ?_
  show z_W 997 101 22 [(0, .ref 120), (1, .int (2 : Int32)), (2, .int (0 : Int32)), (3, .int (31 : Int32)), (4, .int (0 : Int32)), (5, .int (0 : Int32)), (6, .int (0 : Int32))] [.int (0 : Int32)] m _
  refine w_p h_m101 3 (pc' := 68) (L' := [(0, .ref 120), (2, .int (0 : Int32)), (3, .int (31 : Int32)), (4, .int (0 : Int32)), (5, .int (0 : Int32))]) (st' := [.ref 120]) rfl ?_
  refine w_gf H (pc' := 71) (L' := [(0, .ref 120), (2, .int (0 : Int32)), (3, .int (31 : Int32)), (4, .int (0 : Int32)), (5, .int (0 : Int32))]) h_m101 (z_at.mk 3 rfl rfl) rfl (u := .int (0 : Int32)) rfl rfl rfl ?_
  refine w_p h_m101 4 (pc' := 91) (L' := [(0, .ref 120), (4, .int (0 : Int32)), (5, .int (0 : Int32))]) (st' := [.int (0 : Int32), .ref 120]) rfl ?_
  refine w_cv (H.t rfl) (pc' := 94) (L' := [(5, .int (0 : Int32))]) (rest := []) (Ps := [.int (0 : Int32)]) (L0 := [(0, .ref 120), (1, .int (0 : Int32))]) h_m101 (z_at.mk 3 rfl rfl) (Or.inl ⟨rfl, rfl⟩) rfl rfl (by decide) (by decide) rfl rfl rfl rfl rfl rfl (by decide) rfl rfl rfl ?_
  refine w_p h_m95 1 (pc' := 1) (L' := [(0, .ref 120), (1, .int (0 : Int32))]) (st' := [.ref 120]) rfl ?_
  refine w_gf H (pc' := 4) (L' := [(0, .ref 120), (1, .int (0 : Int32))]) h_m95 (z_at.mk 3 rfl rfl) rfl (u := .int (-1 : Int32)) rfl rfl rfl ?_
  refine w_p h_m95 4 (pc' := 10) (L' := [(0, .ref 120), (1, .int (0 : Int32))]) (st' := [.int (0 : Int32), .ref 120]) rfl ?_
  refine w_pf H (19, 4, [(3, .int (0 : Int32)), (2, .int (0 : Int32)), (1, .int (0 : Int32)), (0, .ref 121)], none) (pc' := 13) (L' := []) h_m95 (z_at.mk 3 rfl rfl) rfl (by decide) rfl (Or.inl rfl) rfl rfl rfl ?_
  clear H m; intro m H
  refine w_rv h_m95 (z_at.mk 1 rfl rfl) rfl ?_
  show z_W 997 101 94 [(5, .int (0 : Int32))] [] m _
  refine w_p h_m101 1 (pc' := 96) (L' := [(5, .int (0 : Int32))]) (st' := [.int (0 : Int32)]) rfl ?_
  refine w_ri h_m101 (z_at.mk 1 rfl rfl) rfl rfl ?_
  show z_W 998 104 8 [(0, .ref 120)] [.int (0 : Int32)] m _
  refine w_p h_m104 3 (pc' := 12) (L' := [(1, .int (0 : Int32)), (0, .ref 120)]) (st' := [.int (45 : Int32), .ref 120]) rfl ?_
  refine w_cv (H.t rfl) (pc' := 15) (L' := [(1, .int (0 : Int32)), (0, .ref 120)]) (rest := []) (Ps := [.int (45 : Int32)]) (L0 := [(0, .ref 120), (1, .int (45 : Int32))]) h_m104 (z_at.mk 3 rfl rfl) (Or.inl ⟨rfl, rfl⟩) rfl rfl (by decide) (by decide) rfl rfl rfl rfl rfl rfl (by decide) rfl rfl rfl ?_
  refine w_p h_m98 1 (pc' := 1) (L' := [(0, .ref 120), (1, .int (45 : Int32))]) (st' := [.ref 120]) rfl ?_
  refine w_cv (H.t rfl) (pc' := 4) (L' := [(0, .ref 120), (1, .int (45 : Int32))]) (rest := []) (Ps := []) (L0 := [(0, .ref 120)]) h_m98 (z_at.mk 3 rfl rfl) (Or.inl ⟨rfl, rfl⟩) rfl rfl (by decide) (by decide) rfl rfl rfl rfl rfl rfl (by decide) rfl rfl rfl ?_
  refine w_p h_m96 1 (pc' := 1) (L' := [(0, .ref 120)]) (st' := [.ref 120]) rfl ?_
  refine w_gf H (pc' := 4) (L' := [(0, .ref 120)]) h_m96 (z_at.mk 3 rfl rfl) rfl (u := .int (0 : Int32)) rfl rfl rfl ?_
  refine w_p h_m96 3 (pc' := 49) (L' := []) (st' := [.int (0 : Int32)]) rfl ?_
  refine w_ri h_m96 (z_at.mk 1 rfl rfl) rfl rfl ?_
  show z_W 997 98 4 [(0, .ref 120), (1, .int (45 : Int32))] [.int (0 : Int32)] m _
  refine w_p h_m98 4 (pc' := 23) (L' := [(0, .ref 120), (1, .int (45 : Int32))]) (st' := [.ref 120, .ref 120]) rfl ?_
  refine w_gf H (pc' := 26) (L' := [(0, .ref 120), (1, .int (45 : Int32))]) h_m98 (z_at.mk 3 rfl rfl) rfl (u := .int (0 : Int32)) rfl rfl rfl ?_
  refine w_cv (H.t rfl) (pc' := 29) (L' := []) (rest := []) (Ps := [.int (0 : Int32)]) (L0 := [(0, .ref 120), (1, .int (0 : Int32))]) h_m98 (z_at.mk 3 rfl rfl) (Or.inl ⟨rfl, rfl⟩) rfl rfl (by decide) (by decide) rfl rfl rfl rfl rfl rfl (by decide) rfl rfl rfl ?_
  refine w_p h_m95 1 (pc' := 1) (L' := [(0, .ref 120), (1, .int (0 : Int32))]) (st' := [.ref 120]) rfl ?_
  refine w_gf H (pc' := 4) (L' := [(0, .ref 120), (1, .int (0 : Int32))]) h_m95 (z_at.mk 3 rfl rfl) rfl (u := .int (0 : Int32)) rfl rfl rfl ?_
  refine w_p h_m95 2 (pc' := 13) (L' := []) (st' := []) rfl ?_
  refine w_rv h_m95 (z_at.mk 1 rfl rfl) rfl ?_
  show z_W 997 98 29 [] [] m _
  refine w_rv h_m98 (z_at.mk 1 rfl rfl) rfl ?_
  show z_W 998 104 15 [(1, .int (0 : Int32)), (0, .ref 120)] [] m _
  refine w_p h_m104 4 (pc' := 20) (L' := [(1, .int (0 : Int32)), (0, .ref 120)]) (st' := [.int (31 : Int32), .int (0 : Int32), .int (2 : Int32), .ref 120]) rfl ?_
  refine w_cv (H.t rfl) (pc' := 23) (L' := [(1, .int (0 : Int32)), (0, .ref 120)]) (rest := []) (Ps := [.int (2 : Int32), .int (0 : Int32), .int (31 : Int32)]) (L0 := [(0, .ref 120), (1, .int (2 : Int32)), (2, .int (0 : Int32)), (3, .int (31 : Int32))]) h_m104 (z_at.mk 3 rfl rfl) (Or.inl ⟨rfl, rfl⟩) rfl rfl (by decide) (by decide) rfl rfl rfl rfl rfl rfl (by decide) rfl rfl rfl ?_
  refine w_p h_m101 1 (pc' := 1) (L' := [(0, .ref 120), (1, .int (2 : Int32)), (2, .int (0 : Int32)), (3, .int (31 : Int32))]) (st' := [.ref 120]) rfl ?_
  refine w_gf H (pc' := 4) (L' := [(0, .ref 120), (1, .int (2 : Int32)), (2, .int (0 : Int32)), (3, .int (31 : Int32))]) h_m101 (z_at.mk 3 rfl rfl) rfl (u := .int (0 : Int32)) rfl rfl rfl ?_
  refine w_p h_m101 9 (pc' := 19) (L' := [(0, .ref 120), (1, .int (2 : Int32)), (2, .int (0 : Int32)), (3, .int (31 : Int32)), (4, .int (0 : Int32)), (5, .int (0 : Int32)), (6, .int (0 : Int32))]) (st' := [.ref 120]) rfl ?_
  refine w_cv (H.t rfl) (pc' := 22) (L' := [(0, .ref 120), (1, .int (2 : Int32)), (2, .int (0 : Int32)), (3, .int (31 : Int32)), (4, .int (0 : Int32)), (5, .int (0 : Int32)), (6, .int (0 : Int32))]) (rest := []) (Ps := []) (L0 := [(0, .ref 120)]) h_m101 (z_at.mk 3 rfl rfl) (Or.inl ⟨rfl, rfl⟩) rfl rfl (by decide) (by decide) rfl rfl rfl rfl rfl rfl (by decide) rfl rfl rfl ?_
  refine w_p h_m96 1 (pc' := 1) (L' := [(0, .ref 120)]) (st' := [.ref 120]) rfl ?_
  refine w_gf H (pc' := 4) (L' := [(0, .ref 120)]) h_m96 (z_at.mk 3 rfl rfl) rfl (u := .int (0 : Int32)) rfl rfl rfl ?_
  refine w_p h_m96 3 (pc' := 49) (L' := []) (st' := [.int (0 : Int32)]) rfl ?_
  refine w_ri h_m96 (z_at.mk 1 rfl rfl) rfl rfl ?_
  show z_W 997 101 22 [(0, .ref 120), (1, .int (2 : Int32)), (2, .int (0 : Int32)), (3, .int (31 : Int32)), (4, .int (0 : Int32)), (5, .int (0 : Int32)), (6, .int (0 : Int32))] [.int (0 : Int32)] m _
  refine w_p h_m101 3 (pc' := 68) (L' := [(0, .ref 120), (2, .int (0 : Int32)), (3, .int (31 : Int32)), (4, .int (0 : Int32)), (5, .int (0 : Int32))]) (st' := [.ref 120]) rfl ?_
  refine w_gf H (pc' := 71) (L' := [(0, .ref 120), (2, .int (0 : Int32)), (3, .int (31 : Int32)), (4, .int (0 : Int32)), (5, .int (0 : Int32))]) h_m101 (z_at.mk 3 rfl rfl) rfl (u := .int (0 : Int32)) rfl rfl rfl ?_
  refine w_p h_m101 4 (pc' := 91) (L' := [(0, .ref 120), (4, .int (0 : Int32)), (5, .int (0 : Int32))]) (st' := [.int (0 : Int32), .ref 120]) rfl ?_
  refine w_cv (H.t rfl) (pc' := 94) (L' := [(5, .int (0 : Int32))]) (rest := []) (Ps := [.int (0 : Int32)]) (L0 := [(0, .ref 120), (1, .int (0 : Int32))]) h_m101 (z_at.mk 3 rfl rfl) (Or.inl ⟨rfl, rfl⟩) rfl rfl (by decide) (by decide) rfl rfl rfl rfl rfl rfl (by decide) rfl rfl rfl ?_
  refine w_p h_m95 1 (pc' := 1) (L' := [(0, .ref 120), (1, .int (0 : Int32))]) (st' := [.ref 120]) rfl ?_
  refine w_gf H (pc' := 4) (L' := [(0, .ref 120), (1, .int (0 : Int32))]) h_m95 (z_at.mk 3 rfl rfl) rfl (u := .int (0 : Int32)) rfl rfl rfl ?_
  refine w_p h_m95 2 (pc' := 13) (L' := []) (st' := []) rfl ?_
  refine w_rv h_m95 (z_at.mk 1 rfl rfl) rfl ?_
  show z_W 997 101 94 [(5, .int (0 : Int32))] [] m _
  refine w_p h_m101 1 (pc' := 96) (L' := [(5, .int (0 : Int32))]) (st' := [.int (0 : Int32)]) rfl ?_
  refine w_ri h_m101 (z_at.mk 1 rfl rfl) rfl rfl ?_
  show z_W 998 104 23 [(1, .int (0 : Int32)), (0, .ref 120)] [.int (0 : Int32)] m _
  refine w_p h_m104 3 (pc' := 27) (L' := [(2, .int (0 : Int32)), (1, .int (0 : Int32)), (0, .ref 120)]) (st' := [.int (44 : Int32), .ref 120]) rfl ?_
  refine w_cv (H.t rfl) (pc' := 30) (L' := [(2, .int (0 : Int32)), (1, .int (0 : Int32)), (0, .ref 120)]) (rest := []) (Ps := [.int (44 : Int32)]) (L0 := [(0, .ref 120), (1, .int (44 : Int32))]) h_m104 (z_at.mk 3 rfl rfl) (Or.inl ⟨rfl, rfl⟩) rfl rfl (by decide) (by decide) rfl rfl rfl rfl rfl rfl (by decide) rfl rfl rfl ?_
  refine w_p h_m98 1 (pc' := 1) (L' := [(0, .ref 120), (1, .int (44 : Int32))]) (st' := [.ref 120]) rfl ?_
  refine w_cv (H.t rfl) (pc' := 4) (L' := [(0, .ref 120), (1, .int (44 : Int32))]) (rest := []) (Ps := []) (L0 := [(0, .ref 120)]) h_m98 (z_at.mk 3 rfl rfl) (Or.inl ⟨rfl, rfl⟩) rfl rfl (by decide) (by decide) rfl rfl rfl rfl rfl rfl (by decide) rfl rfl rfl ?_
  refine w_p h_m96 1 (pc' := 1) (L' := [(0, .ref 120)]) (st' := [.ref 120]) rfl ?_
  refine w_gf H (pc' := 4) (L' := [(0, .ref 120)]) h_m96 (z_at.mk 3 rfl rfl) rfl (u := .int (0 : Int32)) rfl rfl rfl ?_
  refine w_p h_m96 3 (pc' := 49) (L' := []) (st' := [.int (0 : Int32)]) rfl ?_
  refine w_ri h_m96 (z_at.mk 1 rfl rfl) rfl rfl ?_
  show z_W 997 98 4 [(0, .ref 120), (1, .int (44 : Int32))] [.int (0 : Int32)] m _
  refine w_p h_m98 4 (pc' := 23) (L' := [(0, .ref 120), (1, .int (44 : Int32))]) (st' := [.ref 120, .ref 120]) rfl ?_
  refine w_gf H (pc' := 26) (L' := [(0, .ref 120), (1, .int (44 : Int32))]) h_m98 (z_at.mk 3 rfl rfl) rfl (u := .int (0 : Int32)) rfl rfl rfl ?_
  refine w_cv (H.t rfl) (pc' := 29) (L' := []) (rest := []) (Ps := [.int (0 : Int32)]) (L0 := [(0, .ref 120), (1, .int (0 : Int32))]) h_m98 (z_at.mk 3 rfl rfl) (Or.inl ⟨rfl, rfl⟩) rfl rfl (by decide) (by decide) rfl rfl rfl rfl rfl rfl (by decide) rfl rfl rfl ?_
  refine w_p h_m95 1 (pc' := 1) (L' := [(0, .ref 120), (1, .int (0 : Int32))]) (st' := [.ref 120]) rfl ?_
  refine w_gf H (pc' := 4) (L' := [(0, .ref 120), (1, .int (0 : Int32))]) h_m95 (z_at.mk 3 rfl rfl) rfl (u := .int (0 : Int32)) rfl rfl rfl ?_
  refine w_p h_m95 2 (pc' := 13) (L' := []) (st' := []) rfl ?_
  refine w_rv h_m95 (z_at.mk 1 rfl rfl) rfl ?_
  show z_W 997 98 29 [] [] m _
  refine w_rv h_m98 (z_at.mk 1 rfl rfl) rfl ?_
  show z_W 998 104 30 [(2, .int (0 : Int32)), (1, .int (0 : Int32)), (0, .ref 120)] [] m _
  refine w_p h_m104 4 (pc' := 35) (L' := [(2, .int (0 : Int32)), (1, .int (0 : Int32)), (0, .ref 120)]) (st' := [.int (31 : Int32), .int (0 : Int32), .int (2 : Int32), .ref 120]) rfl ?_
  refine w_cv (H.t rfl) (pc' := 38) (L' := [(2, .int (0 : Int32)), (1, .int (0 : Int32)), (0, .ref 120)]) (rest := []) (Ps := [.int (2 : Int32), .int (0 : Int32), .int (31 : Int32)]) (L0 := [(0, .ref 120), (1, .int (2 : Int32)), (2, .int (0 : Int32)), (3, .int (31 : Int32))]) h_m104 (z_at.mk 3 rfl rfl) (Or.inl ⟨rfl, rfl⟩) rfl rfl (by decide) (by decide) rfl rfl rfl rfl rfl rfl (by decide) rfl rfl rfl ?_
  refine w_p h_m101 1 (pc' := 1) (L' := [(0, .ref 120), (1, .int (2 : Int32)), (2, .int (0 : Int32)), (3, .int (31 : Int32))]) (st' := [.ref 120]) rfl ?_
  refine w_gf H (pc' := 4) (L' := [(0, .ref 120), (1, .int (2 : Int32)), (2, .int (0 : Int32)), (3, .int (31 : Int32))]) h_m101 (z_at.mk 3 rfl rfl) rfl (u := .int (0 : Int32)) rfl rfl rfl ?_
  refine w_p h_m101 9 (pc' := 19) (L' := [(0, .ref 120), (1, .int (2 : Int32)), (2, .int (0 : Int32)), (3, .int (31 : Int32)), (4, .int (0 : Int32)), (5, .int (0 : Int32)), (6, .int (0 : Int32))]) (st' := [.ref 120]) rfl ?_
  refine w_cv (H.t rfl) (pc' := 22) (L' := [(0, .ref 120), (1, .int (2 : Int32)), (2, .int (0 : Int32)), (3, .int (31 : Int32)), (4, .int (0 : Int32)), (5, .int (0 : Int32)), (6, .int (0 : Int32))]) (rest := []) (Ps := []) (L0 := [(0, .ref 120)]) h_m101 (z_at.mk 3 rfl rfl) (Or.inl ⟨rfl, rfl⟩) rfl rfl (by decide) (by decide) rfl rfl rfl rfl rfl rfl (by decide) rfl rfl rfl ?_
  refine w_p h_m96 1 (pc' := 1) (L' := [(0, .ref 120)]) (st' := [.ref 120]) rfl ?_
  refine w_gf H (pc' := 4) (L' := [(0, .ref 120)]) h_m96 (z_at.mk 3 rfl rfl) rfl (u := .int (0 : Int32)) rfl rfl rfl ?_
  refine w_p h_m96 3 (pc' := 49) (L' := []) (st' := [.int (0 : Int32)]) rfl ?_
  refine w_ri h_m96 (z_at.mk 1 rfl rfl) rfl rfl ?_
  show z_W 997 101 22 [(0, .ref 120), (1, .int (2 : Int32)), (2, .int (0 : Int32)), (3, .int (31 : Int32)), (4, .int (0 : Int32)), (5, .int (0 : Int32)), (6, .int (0 : Int32))] [.int (0 : Int32)] m _
  refine w_p h_m101 3 (pc' := 68) (L' := [(0, .ref 120), (2, .int (0 : Int32)), (3, .int (31 : Int32)), (4, .int (0 : Int32)), (5, .int (0 : Int32))]) (st' := [.ref 120]) rfl ?_
  refine w_gf H (pc' := 71) (L' := [(0, .ref 120), (2, .int (0 : Int32)), (3, .int (31 : Int32)), (4, .int (0 : Int32)), (5, .int (0 : Int32))]) h_m101 (z_at.mk 3 rfl rfl) rfl (u := .int (0 : Int32)) rfl rfl rfl ?_
  refine w_p h_m101 4 (pc' := 91) (L' := [(0, .ref 120), (4, .int (0 : Int32)), (5, .int (0 : Int32))]) (st' := [.int (0 : Int32), .ref 120]) rfl ?_
  refine w_cv (H.t rfl) (pc' := 94) (L' := [(5, .int (0 : Int32))]) (rest := []) (Ps := [.int (0 : Int32)]) (L0 := [(0, .ref 120), (1, .int (0 : Int32))]) h_m101 (z_at.mk 3 rfl rfl) (Or.inl ⟨rfl, rfl⟩) rfl rfl (by decide) (by decide) rfl rfl rfl rfl rfl rfl (by decide) rfl rfl rfl ?_
  refine w_p h_m95 1 (pc' := 1) (L' := [(0, .ref 120), (1, .int (0 : Int32))]) (st' := [.ref 120]) rfl ?_
  refine w_gf H (pc' := 4) (L' := [(0, .ref 120), (1, .int (0 : Int32))]) h_m95 (z_at.mk 3 rfl rfl) rfl (u := .int (0 : Int32)) rfl rfl rfl ?_
  refine w_p h_m95 2 (pc' := 13) (L' := []) (st' := []) rfl ?_
  refine w_rv h_m95 (z_at.mk 1 rfl rfl) rfl ?_
  show z_W 997 101 94 [(5, .int (0 : Int32))] [] m _
  refine w_p h_m101 1 (pc' := 96) (L' := [(5, .int (0 : Int32))]) (st' := [.int (0 : Int32)]) rfl ?_
  refine w_ri h_m101 (z_at.mk 1 rfl rfl) rfl rfl ?_
  show z_W 998 104 38 [(2, .int (0 : Int32)), (1, .int (0 : Int32)), (0, .ref 120)] [.int (0 : Int32)] m _
  refine w_p h_m104 3 (pc' := 42) (L' := [(3, .int (0 : Int32)), (2, .int (0 : Int32)), (1, .int (0 : Int32)), (0, .ref 120)]) (st' := [.int (45 : Int32), .ref 120]) rfl ?_
  refine w_cv (H.t rfl) (pc' := 45) (L' := [(3, .int (0 : Int32)), (2, .int (0 : Int32)), (1, .int (0 : Int32)), (0, .ref 120)]) (rest := []) (Ps := [.int (45 : Int32)]) (L0 := [(0, .ref 120), (1, .int (45 : Int32))]) h_m104 (z_at.mk 3 rfl rfl) (Or.inl ⟨rfl, rfl⟩) rfl rfl (by decide) (by decide) rfl rfl rfl rfl rfl rfl (by decide) rfl rfl rfl ?_
  refine w_p h_m98 1 (pc' := 1) (L' := [(0, .ref 120), (1, .int (45 : Int32))]) (st' := [.ref 120]) rfl ?_
  refine w_cv (H.t rfl) (pc' := 4) (L' := [(0, .ref 120), (1, .int (45 : Int32))]) (rest := []) (Ps := []) (L0 := [(0, .ref 120)]) h_m98 (z_at.mk 3 rfl rfl) (Or.inl ⟨rfl, rfl⟩) rfl rfl (by decide) (by decide) rfl rfl rfl rfl rfl rfl (by decide) rfl rfl rfl ?_
  refine w_p h_m96 1 (pc' := 1) (L' := [(0, .ref 120)]) (st' := [.ref 120]) rfl ?_
  refine w_gf H (pc' := 4) (L' := [(0, .ref 120)]) h_m96 (z_at.mk 3 rfl rfl) rfl (u := .int (0 : Int32)) rfl rfl rfl ?_
  refine w_p h_m96 3 (pc' := 49) (L' := []) (st' := [.int (0 : Int32)]) rfl ?_
  refine w_ri h_m96 (z_at.mk 1 rfl rfl) rfl rfl ?_
  show z_W 997 98 4 [(0, .ref 120), (1, .int (45 : Int32))] [.int (0 : Int32)] m _
  refine w_p h_m98 4 (pc' := 23) (L' := [(0, .ref 120), (1, .int (45 : Int32))]) (st' := [.ref 120, .ref 120]) rfl ?_
  refine w_gf H (pc' := 26) (L' := [(0, .ref 120), (1, .int (45 : Int32))]) h_m98 (z_at.mk 3 rfl rfl) rfl (u := .int (0 : Int32)) rfl rfl rfl ?_
  refine w_cv (H.t rfl) (pc' := 29) (L' := []) (rest := []) (Ps := [.int (0 : Int32)]) (L0 := [(0, .ref 120), (1, .int (0 : Int32))]) h_m98 (z_at.mk 3 rfl rfl) (Or.inl ⟨rfl, rfl⟩) rfl rfl (by decide) (by decide) rfl rfl rfl rfl rfl rfl (by decide) rfl rfl rfl ?_
  refine w_p h_m95 1 (pc' := 1) (L' := [(0, .ref 120), (1, .int (0 : Int32))]) (st' := [.ref 120]) rfl ?_
  refine w_gf H (pc' := 4) (L' := [(0, .ref 120), (1, .int (0 : Int32))]) h_m95 (z_at.mk 3 rfl rfl) rfl (u := .int (0 : Int32)) rfl rfl rfl ?_
  refine w_p h_m95 2 (pc' := 13) (L' := []) (st' := []) rfl ?_
  refine w_rv h_m95 (z_at.mk 1 rfl rfl) rfl ?_
  show z_W 997 98 29 [] [] m _
  refine w_rv h_m98 (z_at.mk 1 rfl rfl) rfl ?_
  show z_W 998 104 45 [(3, .int (0 : Int32)), (2, .int (0 : Int32)), (1, .int (0 : Int32)), (0, .ref 120)] [] m _
  refine w_p h_m104 4 (pc' := 50) (L' := [(3, .int (0 : Int32)), (2, .int (0 : Int32)), (1, .int (0 : Int32)), (0, .ref 120)]) (st' := [.int (31 : Int32), .int (0 : Int32), .int (2 : Int32), .ref 120]) rfl ?_
  refine w_cv (H.t rfl) (pc' := 53) (L' := [(3, .int (0 : Int32)), (2, .int (0 : Int32)), (1, .int (0 : Int32)), (0, .ref 120)]) (rest := []) (Ps := [.int (2 : Int32), .int (0 : Int32), .int (31 : Int32)]) (L0 := [(0, .ref 120), (1, .int (2 : Int32)), (2, .int (0 : Int32)), (3, .int (31 : Int32))]) h_m104 (z_at.mk 3 rfl rfl) (Or.inl ⟨rfl, rfl⟩) rfl rfl (by decide) (by decide) rfl rfl rfl rfl rfl rfl (by decide) rfl rfl rfl ?_
  refine w_p h_m101 1 (pc' := 1) (L' := [(0, .ref 120), (1, .int (2 : Int32)), (2, .int (0 : Int32)), (3, .int (31 : Int32))]) (st' := [.ref 120]) rfl ?_
  refine w_gf H (pc' := 4) (L' := [(0, .ref 120), (1, .int (2 : Int32)), (2, .int (0 : Int32)), (3, .int (31 : Int32))]) h_m101 (z_at.mk 3 rfl rfl) rfl (u := .int (0 : Int32)) rfl rfl rfl ?_
  refine w_p h_m101 9 (pc' := 19) (L' := [(0, .ref 120), (1, .int (2 : Int32)), (2, .int (0 : Int32)), (3, .int (31 : Int32)), (4, .int (0 : Int32)), (5, .int (0 : Int32)), (6, .int (0 : Int32))]) (st' := [.ref 120]) rfl ?_
  refine w_cv (H.t rfl) (pc' := 22) (L' := [(0, .ref 120), (1, .int (2 : Int32)), (2, .int (0 : Int32)), (3, .int (31 : Int32)), (4, .int (0 : Int32)), (5, .int (0 : Int32)), (6, .int (0 : Int32))]) (rest := []) (Ps := []) (L0 := [(0, .ref 120)]) h_m101 (z_at.mk 3 rfl rfl) (Or.inl ⟨rfl, rfl⟩) rfl rfl (by decide) (by decide) rfl rfl rfl rfl rfl rfl (by decide) rfl rfl rfl ?_
  refine w_p h_m96 1 (pc' := 1) (L' := [(0, .ref 120)]) (st' := [.ref 120]) rfl ?_
  refine w_gf H (pc' := 4) (L' := [(0, .ref 120)]) h_m96 (z_at.mk 3 rfl rfl) rfl (u := .int (0 : Int32)) rfl rfl rfl ?_
  refine w_p h_m96 3 (pc' := 49) (L' := []) (st' := [.int (0 : Int32)]) rfl ?_
  refine w_ri h_m96 (z_at.mk 1 rfl rfl) rfl rfl ?_
  show z_W 997 101 22 [(0, .ref 120), (1, .int (2 : Int32)), (2, .int (0 : Int32)), (3, .int (31 : Int32)), (4, .int (0 : Int32)), (5, .int (0 : Int32)), (6, .int (0 : Int32))] [.int (0 : Int32)] m _
  refine w_p h_m101 3 (pc' := 68) (L' := [(0, .ref 120), (2, .int (0 : Int32)), (3, .int (31 : Int32)), (4, .int (0 : Int32)), (5, .int (0 : Int32))]) (st' := [.ref 120]) rfl ?_
  refine w_gf H (pc' := 71) (L' := [(0, .ref 120), (2, .int (0 : Int32)), (3, .int (31 : Int32)), (4, .int (0 : Int32)), (5, .int (0 : Int32))]) h_m101 (z_at.mk 3 rfl rfl) rfl (u := .int (0 : Int32)) rfl rfl rfl ?_
  refine w_p h_m101 4 (pc' := 91) (L' := [(0, .ref 120), (4, .int (0 : Int32)), (5, .int (0 : Int32))]) (st' := [.int (0 : Int32), .ref 120]) rfl ?_
  refine w_cv (H.t rfl) (pc' := 94) (L' := [(5, .int (0 : Int32))]) (rest := []) (Ps := [.int (0 : Int32)]) (L0 := [(0, .ref 120), (1, .int (0 : Int32))]) h_m101 (z_at.mk 3 rfl rfl) (Or.inl ⟨rfl, rfl⟩) rfl rfl (by decide) (by decide) rfl rfl rfl rfl rfl rfl (by decide) rfl rfl rfl ?_
  refine w_p h_m95 1 (pc' := 1) (L' := [(0, .ref 120), (1, .int (0 : Int32))]) (st' := [.ref 120]) rfl ?_
  refine w_gf H (pc' := 4) (L' := [(0, .ref 120), (1, .int (0 : Int32))]) h_m95 (z_at.mk 3 rfl rfl) rfl (u := .int (0 : Int32)) rfl rfl rfl ?_
  refine w_p h_m95 2 (pc' := 13) (L' := []) (st' := []) rfl ?_
  refine w_rv h_m95 (z_at.mk 1 rfl rfl) rfl ?_
  show z_W 997 101 94 [(5, .int (0 : Int32))] [] m _
  refine w_p h_m101 1 (pc' := 96) (L' := [(5, .int (0 : Int32))]) (st' := [.int (0 : Int32)]) rfl ?_
  refine w_ri h_m101 (z_at.mk 1 rfl rfl) rfl rfl ?_
  show z_W 998 104 53 [(3, .int (0 : Int32)), (2, .int (0 : Int32)), (1, .int (0 : Int32)), (0, .ref 120)] [.int (0 : Int32)] m _
  refine w_p h_m104 2 (pc' := 56) (L' := [(4, .int (0 : Int32)), (3, .int (0 : Int32)), (2, .int (0 : Int32)), (1, .int (0 : Int32)), (0, .ref 120)]) (st' := [.ref 120]) rfl ?_
  refine w_cv (H.t rfl) (pc' := 59) (L' := [(4, .int (0 : Int32)), (3, .int (0 : Int32)), (2, .int (0 : Int32)), (1, .int (0 : Int32)), (0, .ref 120)]) (rest := []) (Ps := []) (L0 := [(0, .ref 120)]) h_m104 (z_at.mk 3 rfl rfl) (Or.inl ⟨rfl, rfl⟩) rfl rfl (by decide) (by decide) rfl rfl rfl rfl rfl rfl (by decide) rfl rfl rfl ?_
  refine w_p h_m93 1 (pc' := 1) (L' := [(0, .ref 120)]) (st' := [.ref 120]) rfl ?_
  refine w_gf H (pc' := 4) (L' := [(0, .ref 120)]) h_m93 (z_at.mk 3 rfl rfl) rfl (u := .int (0 : Int32)) rfl rfl rfl ?_
  refine w_p h_m93 3 (pc' := 13) (L' := []) (st' := [.int (0 : Int32)]) rfl ?_
  refine w_ri h_m93 (z_at.mk 1 rfl rfl) rfl rfl ?_
  show z_W 998 104 59 [(4, .int (0 : Int32)), (3, .int (0 : Int32)), (2, .int (0 : Int32)), (1, .int (0 : Int32)), (0, .ref 120)] [.int (0 : Int32)] m _
  refine w_p h_m104 2 (pc' := 74) (L' := []) (st' := [.int (-1 : Int32)]) rfl ?_
  refine w_ri h_m104 (z_at.mk 1 rfl rfl) rfl rfl ?_
  show z_W 999 129 40 [(0, .ref 39), (1, .int (1 : Int32)), (2, .int (1 : Int32))] [.int (-1 : Int32), .ref 126] m _
  refine w_cv (H.t rfl) (pc' := 43) (L' := [(0, .ref 39), (1, .int (1 : Int32)), (2, .int (1 : Int32))]) (rest := []) (Ps := [.int (-1 : Int32)]) (L0 := [(0, .ref 126), (1, .int (-1 : Int32))]) h_m129 (z_at.mk 3 rfl rfl) (Or.inl ⟨rfl, rfl⟩) rfl rfl (by decide) (by decide) rfl rfl rfl rfl rfl rfl (by decide) rfl rfl rfl ?_
  refine w_p h_m14 1 (pc' := 1) (L' := [(0, .ref 126), (1, .int (-1 : Int32))]) (st' := [.ref 126]) rfl ?_
  refine w_gf H (pc' := 4) (L' := [(0, .ref 126), (1, .int (-1 : Int32))]) h_m14 (z_at.mk 3 rfl rfl) rfl (u := .int (0 : Int32)) rfl rfl rfl ?_
  refine w_p h_m14 2 (pc' := 8) (L' := [(0, .ref 126), (1, .int (-1 : Int32))]) (st' := [.ref 126]) rfl ?_
  refine w_gf H (pc' := 11) (L' := [(0, .ref 126), (1, .int (-1 : Int32))]) h_m14 (z_at.mk 3 rfl rfl) rfl (u := .int (0 : Int32)) rfl rfl rfl ?_
  refine w_p h_m14 1 (pc' := 12) (L' := [(0, .ref 126), (1, .int (-1 : Int32))]) (st' := [.ref 126, .int (0 : Int32)]) rfl ?_
  refine w_gf H (pc' := 15) (L' := [(0, .ref 126), (1, .int (-1 : Int32))]) h_m14 (z_at.mk 3 rfl rfl) rfl (u := .ref 127) rfl rfl rfl ?_
  refine w_len H (t := 0) (n := 12) (x := (12 : Int32)) (pc' := 16) (L' := [(0, .ref 126), (1, .int (-1 : Int32))]) h_m14 (z_at.mk 1 rfl rfl) rfl (by decide) rfl rfl rfl ?_
  refine w_p h_m14 2 (pc' := 22) (L' := [(0, .ref 126), (1, .int (-1 : Int32))]) (st' := [.ref 126]) rfl ?_
  refine w_gf H (pc' := 25) (L' := [(0, .ref 126), (1, .int (-1 : Int32))]) h_m14 (z_at.mk 3 rfl rfl) rfl (u := .ref 127) rfl rfl rfl ?_
  refine w_p h_m14 1 (pc' := 26) (L' := [(0, .ref 126), (1, .int (-1 : Int32))]) (st' := [.ref 126, .ref 127]) rfl ?_
  refine w_gf H (pc' := 29) (L' := [(0, .ref 126), (1, .int (-1 : Int32))]) h_m14 (z_at.mk 3 rfl rfl) rfl (u := .int (0 : Int32)) rfl rfl rfl ?_
  refine w_p h_m14 1 (pc' := 30) (L' := [(0, .ref 126), (1, .int (-1 : Int32))]) (st' := [.int (-1 : Int32), .int (0 : Int32), .ref 127]) rfl ?_
  refine w_as H (t := 0) (j := 0) (u := .int (-1 : Int32)) (0, 12, [(0, .int (-1 : Int32))], some (.int (0 : Int32))) (pc' := 31) (L' := [(0, .ref 126), (1, .int (-1 : Int32))]) h_m14 (z_at.mk 1 rfl rfl) rfl rfl (w_ui _ _ (by decide)) rfl rfl rfl rfl ?_
  clear H m; intro m H
  refine w_p h_m14 2 (pc' := 33) (L' := [(0, .ref 126), (1, .int (-1 : Int32))]) (st' := [.ref 126, .ref 126]) rfl ?_
  refine w_gf H (pc' := 36) (L' := [(0, .ref 126), (1, .int (-1 : Int32))]) h_m14 (z_at.mk 3 rfl rfl) rfl (u := .int (0 : Int32)) rfl rfl rfl ?_
  refine w_p h_m14 2 (pc' := 38) (L' := [(0, .ref 126), (1, .int (-1 : Int32))]) (st' := [.int (1 : Int32), .ref 126]) rfl ?_
  refine w_pf H (11, 2, [(1, .int (1 : Int32)), (0, .ref 127)], none) (pc' := 41) (L' := [(0, .ref 126), (1, .int (-1 : Int32))]) h_m14 (z_at.mk 3 rfl rfl) rfl (by decide) rfl (Or.inl rfl) rfl rfl rfl ?_
  clear H m; intro m H
  refine w_p h_m14 1 (pc' := 42) (L' := [(0, .ref 126), (1, .int (-1 : Int32))]) (st' := [.int (1 : Int32)]) rfl ?_
  refine w_ri h_m14 (z_at.mk 1 rfl rfl) rfl rfl ?_
  show z_W 999 129 43 [(0, .ref 39), (1, .int (1 : Int32)), (2, .int (1 : Int32))] [.int (1 : Int32)] m _
  refine w_p h_m129 2 (pc' := 45) (L' := [(0, .ref 39), (1, .int (1 : Int32)), (2, .int (1 : Int32))]) (st' := [.ref 39]) rfl ?_
  refine w_gf H (pc' := 48) (L' := [(0, .ref 39), (1, .int (1 : Int32)), (2, .int (1 : Int32))]) h_m129 (z_at.mk 3 rfl rfl) rfl (u := .ref 120) rfl rfl rfl ?_
  refine w_p h_m129 5 (pc' := 59) (L' := [(0, .ref 39), (2, .int (1 : Int32))]) (st' := [.int (1 : Int32), .ref 120]) rfl ?_
  refine w_cv (H.t rfl) (pc' := 62) (L' := [(0, .ref 39), (2, .int (1 : Int32))]) (rest := []) (Ps := [.int (1 : Int32)]) (L0 := [(0, .ref 120), (1, .int (1 : Int32))]) h_m129 (z_at.mk 3 rfl rfl) (Or.inl ⟨rfl, rfl⟩) rfl rfl (by decide) (by decide) rfl rfl rfl rfl rfl rfl (by decide) rfl rfl rfl ?_
  refine w_p h_m100 4 (pc' := 7) (L' := [(0, .ref 120), (1, .int (1 : Int32))]) (st' := [.int (59 : Int32), .ref 120]) rfl ?_
  refine w_cv (H.t rfl) (pc' := 10) (L' := [(0, .ref 120), (1, .int (1 : Int32))]) (rest := []) (Ps := [.int (59 : Int32)]) (L0 := [(0, .ref 120), (1, .int (59 : Int32))]) h_m100 (z_at.mk 3 rfl rfl) (Or.inl ⟨rfl, rfl⟩) rfl rfl (by decide) (by decide) rfl rfl rfl rfl rfl rfl (by decide) rfl rfl rfl ?_
  refine w_p h_m97 1 (pc' := 1) (L' := [(0, .ref 120), (1, .int (59 : Int32))]) (st' := [.ref 120]) rfl ?_
  refine w_cv (H.t rfl) (pc' := 4) (L' := [(0, .ref 120), (1, .int (59 : Int32))]) (rest := []) (Ps := []) (L0 := [(0, .ref 120)]) h_m97 (z_at.mk 3 rfl rfl) (Or.inl ⟨rfl, rfl⟩) rfl rfl (by decide) (by decide) rfl rfl rfl rfl rfl rfl (by decide) rfl rfl rfl ?_
  refine w_p h_m96 1 (pc' := 1) (L' := [(0, .ref 120)]) (st' := [.ref 120]) rfl ?_
  refine w_gf H (pc' := 4) (L' := [(0, .ref 120)]) h_m96 (z_at.mk 3 rfl rfl) rfl (u := .int (0 : Int32)) rfl rfl rfl ?_
  refine w_p h_m96 3 (pc' := 49) (L' := []) (st' := [.int (0 : Int32)]) rfl ?_
  refine w_ri h_m96 (z_at.mk 1 rfl rfl) rfl rfl ?_
  show z_W 997 97 4 [(0, .ref 120), (1, .int (59 : Int32))] [.int (0 : Int32)] m _
  refine w_p h_m97 3 (pc' := 9) (L' := [(0, .ref 120), (1, .int (59 : Int32))]) (st' := [.int (0 : Int32)]) rfl ?_
  refine w_ri h_m97 (z_at.mk 1 rfl rfl) rfl rfl ?_
  show z_W 998 100 10 [(0, .ref 120), (1, .int (1 : Int32))] [.int (0 : Int32)] m _
  refine w_p h_m100 2 (pc' := 16) (L' := [(0, .ref 120)]) (st' := [.ref 120]) rfl ?_
  refine w_cv (H.t rfl) (pc' := 19) (L' := [(0, .ref 120)]) (rest := []) (Ps := []) (L0 := [(0, .ref 120)]) h_m100 (z_at.mk 3 rfl rfl) (Or.inl ⟨rfl, rfl⟩) rfl rfl (by decide) (by decide) rfl rfl rfl rfl rfl rfl (by decide) rfl rfl rfl ?_
  refine w_p h_m96 1 (pc' := 1) (L' := [(0, .ref 120)]) (st' := [.ref 120]) rfl ?_
  refine w_gf H (pc' := 4) (L' := [(0, .ref 120)]) h_m96 (z_at.mk 3 rfl rfl) rfl (u := .int (0 : Int32)) rfl rfl rfl ?_
  refine w_p h_m96 3 (pc' := 49) (L' := []) (st' := [.int (0 : Int32)]) rfl ?_
  refine w_ri h_m96 (z_at.mk 1 rfl rfl) rfl rfl ?_
  show z_W 998 100 19 [(0, .ref 120)] [.int (0 : Int32)] m _
  refine w_p h_m100 2 (pc' := 31) (L' := []) (st' := [.int (0 : Int32)]) rfl ?_
  refine w_ri h_m100 (z_at.mk 1 rfl rfl) rfl rfl ?_
  show z_W 999 129 62 [(0, .ref 39), (2, .int (1 : Int32))] [.int (0 : Int32)] m _
  refine w_p h_m129 6 (pc' := 70) (L' := [(0, .ref 39)]) (st' := [.ref 39]) rfl ?_
  refine w_gf H (pc' := 73) (L' := [(0, .ref 39)]) h_m129 (z_at.mk 3 rfl rfl) rfl (u := .ref 120) rfl rfl rfl ?_
  refine w_p h_m129 1 (pc' := 74) (L' := [(0, .ref 39)]) (st' := [.ref 39, .ref 120]) rfl ?_
  refine w_gf H (pc' := 77) (L' := [(0, .ref 39)]) h_m129 (z_at.mk 3 rfl rfl) rfl (u := .ref 120) rfl rfl rfl ?_
  refine w_cv (H.t rfl) (pc' := 80) (L' := [(0, .ref 39)]) (rest := [.ref 120]) (Ps := []) (L0 := [(0, .ref 120)]) h_m129 (z_at.mk 3 rfl rfl) (Or.inl ⟨rfl, rfl⟩) rfl rfl (by decide) (by decide) rfl rfl rfl rfl rfl rfl (by decide) rfl rfl rfl ?_
  refine w_p h_m93 1 (pc' := 1) (L' := [(0, .ref 120)]) (st' := [.ref 120]) rfl ?_
  refine w_gf H (pc' := 4) (L' := [(0, .ref 120)]) h_m93 (z_at.mk 3 rfl rfl) rfl (u := .int (0 : Int32)) rfl rfl rfl ?_
  refine w_p h_m93 3 (pc' := 13) (L' := []) (st' := [.int (0 : Int32)]) rfl ?_
  refine w_ri h_m93 (z_at.mk 1 rfl rfl) rfl rfl ?_
  show z_W 999 129 80 [(0, .ref 39)] [.int (0 : Int32), .ref 120] m _
  refine w_p h_m129 2 (pc' := 101) (L' := []) (st' := [.int (0 : Int32), .ref 120]) rfl ?_
  refine w_cv (H.t rfl) (pc' := 104) (L' := []) (rest := []) (Ps := [.int (0 : Int32)]) (L0 := [(0, .ref 120), (1, .int (0 : Int32))]) h_m129 (z_at.mk 3 rfl rfl) (Or.inl ⟨rfl, rfl⟩) rfl rfl (by decide) (by decide) rfl rfl rfl rfl rfl rfl (by decide) rfl rfl rfl ?_
  refine w_p h_m94 2 (pc' := 2) (L' := [(0, .ref 120), (1, .int (0 : Int32))]) (st' := [.int (0 : Int32), .ref 120]) rfl ?_
  refine w_pf H (19, 4, [(1, .int (0 : Int32)), (3, .int (0 : Int32)), (2, .int (0 : Int32)), (0, .ref 121)], none) (pc' := 5) (L' := [(0, .ref 120), (1, .int (0 : Int32))]) h_m94 (z_at.mk 3 rfl rfl) rfl (by decide) rfl (Or.inl rfl) rfl rfl rfl ?_
  clear H m; intro m H
  refine w_p h_m94 1 (pc' := 6) (L' := [(0, .ref 120), (1, .int (0 : Int32))]) (st' := [.ref 120]) rfl ?_
  refine w_cv (H.t rfl) (pc' := 9) (L' := [(0, .ref 120), (1, .int (0 : Int32))]) (rest := []) (Ps := []) (L0 := [(0, .ref 120)]) h_m94 (z_at.mk 3 rfl rfl) (Or.inl ⟨rfl, rfl⟩) rfl rfl (by decide) (by decide) rfl rfl rfl rfl rfl rfl (by decide) rfl rfl rfl ?_
  refine w_p h_m93 1 (pc' := 1) (L' := [(0, .ref 120)]) (st' := [.ref 120]) rfl ?_
  refine w_gf H (pc' := 4) (L' := [(0, .ref 120)]) h_m93 (z_at.mk 3 rfl rfl) rfl (u := .int (0 : Int32)) rfl rfl rfl ?_
  refine w_p h_m93 3 (pc' := 13) (L' := []) (st' := [.int (0 : Int32)]) rfl ?_
  refine w_ri h_m93 (z_at.mk 1 rfl rfl) rfl rfl ?_
  show z_W 998 94 9 [(0, .ref 120), (1, .int (0 : Int32))] [.int (0 : Int32)] m _
  refine w_p h_m94 3 (pc' := 19) (L' := [(0, .ref 120), (1, .int (0 : Int32))]) (st' := [.ref 120, .int (-100 : Int32)]) rfl ?_
  refine w_gf H (pc' := 22) (L' := [(0, .ref 120), (1, .int (0 : Int32))]) h_m94 (z_at.mk 3 rfl rfl) rfl (u := .int (0 : Int32)) rfl rfl rfl ?_
  refine w_p h_m94 1 (pc' := 23) (L' := []) (st' := [.int (-100 : Int32)]) rfl ?_
  refine w_ri h_m94 (z_at.mk 1 rfl rfl) rfl rfl ?_
  show z_W 999 129 104 [] [.int (-100 : Int32)] m _
  refine w_ri h_m129 (z_at.mk 1 rfl rfl) rfl rfl ?_
  show z_W 1000 1000 485 [(0, .ref 0), (1, .ref 39), (2, .ref 143), (3, .int (0 : Int32))] [.int (-100 : Int32)] m _
  refine w_p h_m1000 1 (pc' := 486) (L' := [(0, .ref 0), (1, .ref 39), (2, .ref 143), (3, .int (0 : Int32))]) (st' := [.ref 143, .int (-100 : Int32)]) rfl ?_
  refine w_cv (H.t rfl) (pc' := 489) (L' := [(0, .ref 0), (1, .ref 39), (2, .ref 143), (3, .int (0 : Int32))]) (rest := [.int (-100 : Int32)]) (Ps := []) (L0 := [(0, .ref 143)]) h_m1000 (z_at.mk 3 rfl rfl) (Or.inl ⟨rfl, rfl⟩) rfl rfl (by decide) (by decide) rfl rfl rfl rfl rfl rfl (by decide) rfl rfl rfl ?_
  refine w_p h_m243 1 (pc' := 1) (L' := [(0, .ref 143)]) (st' := [.ref 143]) rfl ?_
  refine w_cv (H.t rfl) (pc' := 4) (L' := [(0, .ref 143)]) (rest := []) (Ps := []) (L0 := [(0, .ref 143)]) h_m243 (z_at.mk 3 rfl rfl) (Or.inl ⟨rfl, rfl⟩) rfl rfl (by decide) (by decide) rfl rfl rfl rfl rfl rfl (by decide) rfl rfl rfl ?_
  refine w_p h_m222 2 (pc' := 2) (L' := [(0, .ref 143)]) (st' := [.int (0 : Int32), .ref 143]) rfl ?_
  refine w_pf H (22, 35, [(21, .int (0 : Int32)), (34, .ref 167), (33, .ref 166), (31, .ref 165), (30, .ref 164), (28, .ref 163), (26, .ref 162), (25, .ref 161), (24, .ref 160), (19, .ref 159), (18, .ref 158), (17, .ref 157), (16, .ref 156), (13, .ref 155), (12, .ref 154), (11, .ref 153), (9, .ref 152), (8, .ref 151), (7, .ref 150), (5, .ref 149), (4, .ref 148), (3, .ref 147), (2, .ref 146), (1, .ref 145), (0, .ref 144), (6, .int (0 : Int32)), (10, .int (0 : Int32)), (14, .int (0 : Int32)), (15, .int (0 : Int32)), (20, .int (0 : Int32)), (22, .int (0 : Int32)), (23, .int (0 : Int32)), (27, .int (0 : Int32)), (29, .int (0 : Int32)), (32, .int (0 : Int32))], none) (pc' := 5) (L' := [(0, .ref 143)]) h_m222 (z_at.mk 3 rfl rfl) rfl (by decide) rfl (Or.inl rfl) rfl rfl rfl ?_
  clear H m; intro m H
  refine w_p h_m222 2 (pc' := 7) (L' := [(0, .ref 143)]) (st' := [.int (-1 : Int32), .ref 143]) rfl ?_
  refine w_pf H (22, 35, [(22, .int (-1 : Int32)), (21, .int (0 : Int32)), (34, .ref 167), (33, .ref 166), (31, .ref 165), (30, .ref 164), (28, .ref 163), (26, .ref 162), (25, .ref 161), (24, .ref 160), (19, .ref 159), (18, .ref 158), (17, .ref 157), (16, .ref 156), (13, .ref 155), (12, .ref 154), (11, .ref 153), (9, .ref 152), (8, .ref 151), (7, .ref 150), (5, .ref 149), (4, .ref 148), (3, .ref 147), (2, .ref 146), (1, .ref 145), (0, .ref 144), (6, .int (0 : Int32)), (10, .int (0 : Int32)), (14, .int (0 : Int32)), (15, .int (0 : Int32)), (20, .int (0 : Int32)), (23, .int (0 : Int32)), (27, .int (0 : Int32)), (29, .int (0 : Int32)), (32, .int (0 : Int32))], none) (pc' := 10) (L' := [(0, .ref 143)]) h_m222 (z_at.mk 3 rfl rfl) rfl (by decide) rfl (Or.inl rfl) rfl rfl rfl ?_
  clear H m; intro m H
  refine w_rv h_m222 (z_at.mk 1 rfl rfl) rfl ?_
  show z_W 999 243 4 [(0, .ref 143)] [] m _
  refine w_p h_m243 10 (pc' := 16) (L' := [(0, .ref 143), (1, .int (0 : Int32)), (2, .int (1 : Int32))]) (st' := [.int (0 : Int32), .ref 143]) rfl ?_
  refine w_cv (H.t rfl) (pc' := 19) (L' := [(0, .ref 143), (1, .int (0 : Int32)), (2, .int (1 : Int32))]) (rest := []) (Ps := [.int (0 : Int32)]) (L0 := [(0, .ref 143), (1, .int (0 : Int32))]) h_m243 (z_at.mk 3 rfl rfl) (Or.inl ⟨rfl, rfl⟩) rfl rfl (by decide) (by decide) rfl rfl rfl rfl rfl rfl (by decide) rfl rfl rfl ?_
  refine w_p h_m241 4 (pc' := 5) (L' := [(0, .ref 143), (1, .int (0 : Int32))]) (st' := [.int (31 : Int32), .int (0 : Int32), .int (2 : Int32), .ref 143]) rfl ?_
  refine w_cv (H.t rfl) (pc' := 8) (L' := [(0, .ref 143), (1, .int (0 : Int32))]) (rest := []) (Ps := [.int (2 : Int32), .int (0 : Int32), .int (31 : Int32)]) (L0 := [(0, .ref 143), (1, .int (2 : Int32)), (2, .int (0 : Int32)), (3, .int (31 : Int32))]) h_m241 (z_at.mk 3 rfl rfl) (Or.inl ⟨rfl, rfl⟩) rfl rfl (by decide) (by decide) rfl rfl rfl rfl rfl rfl (by decide) rfl rfl rfl ?_
  refine w_p h_m216 1 (pc' := 1) (L' := [(0, .ref 143), (1, .int (2 : Int32)), (2, .int (0 : Int32)), (3, .int (31 : Int32))]) (st' := [.ref 143]) rfl ?_
  refine w_gf H (pc' := 4) (L' := [(0, .ref 143), (1, .int (2 : Int32)), (2, .int (0 : Int32)), (3, .int (31 : Int32))]) h_m216 (z_at.mk 3 rfl rfl) rfl (u := .int (0 : Int32)) rfl rfl rfl ?_
  refine w_p h_m216 3 (pc' := 8) (L' := [(4, .int (0 : Int32)), (0, .ref 143), (1, .int (2 : Int32)), (2, .int (0 : Int32)), (3, .int (31 : Int32))]) (st' := [.int (0 : Int32), .ref 143]) rfl ?_
  refine w_pf H (22, 35, [(23, .int (0 : Int32)), (22, .int (-1 : Int32)), (21, .int (0 : Int32)), (34, .ref 167), (33, .ref 166), (31, .ref 165), (30, .ref 164), (28, .ref 163), (26, .ref 162), (25, .ref 161), (24, .ref 160), (19, .ref 159), (18, .ref 158), (17, .ref 157), (16, .ref 156), (13, .ref 155), (12, .ref 154), (11, .ref 153), (9, .ref 152), (8, .ref 151), (7, .ref 150), (5, .ref 149), (4, .ref 148), (3, .ref 147), (2, .ref 146), (1, .ref 145), (0, .ref 144), (6, .int (0 : Int32)), (10, .int (0 : Int32)), (14, .int (0 : Int32)), (15, .int (0 : Int32)), (20, .int (0 : Int32)), (27, .int (0 : Int32)), (29, .int (0 : Int32)), (32, .int (0 : Int32))], none) (pc' := 11) (L' := [(4, .int (0 : Int32)), (0, .ref 143), (1, .int (2 : Int32)), (2, .int (0 : Int32)), (3, .int (31 : Int32))]) h_m216 (z_at.mk 3 rfl rfl) rfl (by decide) rfl (Or.inl rfl) rfl rfl rfl ?_
  clear H m; intro m H
  refine w_p h_m216 1 (pc' := 12) (L' := [(4, .int (0 : Int32)), (0, .ref 143), (1, .int (2 : Int32)), (2, .int (0 : Int32)), (3, .int (31 : Int32))]) (st' := [.ref 143]) rfl ?_
  refine w_cv (H.t rfl) (pc' := 15) (L' := [(4, .int (0 : Int32)), (0, .ref 143), (1, .int (2 : Int32)), (2, .int (0 : Int32)), (3, .int (31 : Int32))]) (rest := []) (Ps := []) (L0 := [(0, .ref 143)]) h_m216 (z_at.mk 3 rfl rfl) (Or.inl ⟨rfl, rfl⟩) rfl rfl (by decide) (by decide) rfl rfl rfl rfl rfl rfl (by decide) rfl rfl rfl ?_
  refine w_p h_m212 1 (pc' := 1) (L' := [(0, .ref 143)]) (st' := [.ref 143]) rfl ?_
  refine w_gf H (pc' := 4) (L' := [(0, .ref 143)]) h_m212 (z_at.mk 3 rfl rfl) rfl (u := .int (0 : Int32)) rfl rfl rfl ?_
  refine w_p h_m212 1 (pc' := 5) (L' := [(0, .ref 143)]) (st' := [.ref 143, .int (0 : Int32)]) rfl ?_
  refine w_gf H (pc' := 8) (L' := [(0, .ref 143)]) h_m212 (z_at.mk 3 rfl rfl) rfl (u := .int (0 : Int32)) rfl rfl rfl ?_
  refine w_p h_m212 2 (pc' := 24) (L' := []) (st' := [.int (-1 : Int32)]) rfl ?_
  refine w_ri h_m212 (z_at.mk 1 rfl rfl) rfl rfl ?_
  show z_W 997 216 15 [(4, .int (0 : Int32)), (0, .ref 143), (1, .int (2 : Int32)), (2, .int (0 : Int32)), (3, .int (31 : Int32))] [.int (-1 : Int32)] m _
  refine w_cs (As := [.int (-1 : Int32)]) (rest := []) (j := 215) (L0 := [(0, .int (-1 : Int32))]) (pc' := 18) (L' := [(4, .int (0 : Int32)), (0, .ref 143), (1, .int (2 : Int32)), (2, .int (0 : Int32)), (3, .int (31 : Int32))]) h_m216 (z_at.mk 3 rfl rfl) (Or.inl ⟨rfl, rfl⟩) rfl rfl rfl rfl rfl ?_
  refine w_p h_m215 3 (pc' := 5) (L' := [(0, .int (-1 : Int32))]) (st' := [.int (57 : Int32), .int (48 : Int32), .int (-1 : Int32)]) rfl ?_
  refine w_cs (As := [.int (-1 : Int32), .int (48 : Int32), .int (57 : Int32)]) (rest := []) (j := 159) (L0 := [(0, .int (-1 : Int32)), (1, .int (48 : Int32)), (2, .int (57 : Int32))]) (pc' := 8) (L' := [(0, .int (-1 : Int32))]) h_m215 (z_at.mk 3 rfl rfl) (Or.inl ⟨rfl, rfl⟩) rfl rfl rfl rfl rfl ?_
  refine w_p h_m159 4 (pc' := 15) (L' := []) (st' := [.int (0 : Int32)]) rfl ?_
  refine w_ri h_m159 (z_at.mk 1 rfl rfl) rfl rfl ?_
  show z_W 996 215 8 [(0, .int (-1 : Int32))] [.int (0 : Int32)] m _
  refine w_ri h_m215 (z_at.mk 1 rfl rfl) rfl rfl ?_
  show z_W 997 216 18 [(4, .int (0 : Int32)), (0, .ref 143), (1, .int (2 : Int32)), (2, .int (0 : Int32)), (3, .int (31 : Int32))] [.int (0 : Int32)] m _
  refine w_p h_m216 3 (pc' := 23) (L' := [(4, .int (0 : Int32)), (0, .ref 143), (1, .int (2 : Int32)), (2, .int (0 : Int32)), (3, .int (31 : Int32))]) (st' := [.ref 143, .ref 143]) rfl ?_
  refine w_gf H (pc' := 26) (L' := [(4, .int (0 : Int32)), (0, .ref 143), (1, .int (2 : Int32)), (2, .int (0 : Int32)), (3, .int (31 : Int32))]) h_m216 (z_at.mk 3 rfl rfl) rfl (u := .int (0 : Int32)) rfl rfl rfl ?_
  refine w_cv (H.t rfl) (pc' := 29) (L' := [(4, .int (0 : Int32)), (0, .ref 143), (1, .int (2 : Int32)), (2, .int (0 : Int32)), (3, .int (31 : Int32))]) (rest := []) (Ps := [.int (0 : Int32)]) (L0 := [(0, .ref 143), (1, .int (0 : Int32))]) h_m216 (z_at.mk 3 rfl rfl) (Or.inl ⟨rfl, rfl⟩) rfl rfl (by decide) (by decide) rfl rfl rfl rfl rfl rfl (by decide) rfl rfl rfl ?_
  refine w_p h_m213 1 (pc' := 1) (L' := [(0, .ref 143), (1, .int (0 : Int32))]) (st' := [.ref 143]) rfl ?_
  refine w_gf H (pc' := 4) (L' := [(0, .ref 143), (1, .int (0 : Int32))]) h_m213 (z_at.mk 3 rfl rfl) rfl (u := .int (-1 : Int32)) rfl rfl rfl ?_
  refine w_p h_m213 3 (pc' := 9) (L' := [(0, .ref 143), (1, .int (0 : Int32))]) (st' := [.int (0 : Int32), .ref 143]) rfl ?_
  refine w_pf H (22, 35, [(22, .int (0 : Int32)), (23, .int (0 : Int32)), (21, .int (0 : Int32)), (34, .ref 167), (33, .ref 166), (31, .ref 165), (30, .ref 164), (28, .ref 163), (26, .ref 162), (25, .ref 161), (24, .ref 160), (19, .ref 159), (18, .ref 158), (17, .ref 157), (16, .ref 156), (13, .ref 155), (12, .ref 154), (11, .ref 153), (9, .ref 152), (8, .ref 151), (7, .ref 150), (5, .ref 149), (4, .ref 148), (3, .ref 147), (2, .ref 146), (1, .ref 145), (0, .ref 144), (6, .int (0 : Int32)), (10, .int (0 : Int32)), (14, .int (0 : Int32)), (15, .int (0 : Int32)), (20, .int (0 : Int32)), (27, .int (0 : Int32)), (29, .int (0 : Int32)), (32, .int (0 : Int32))], none) (pc' := 12) (L' := []) h_m213 (z_at.mk 3 rfl rfl) rfl (by decide) rfl (Or.inl rfl) rfl rfl rfl ?_
  clear H m; intro m H
  refine w_p h_m213 1 (pc' := 13) (L' := []) (st' := [.int (0 : Int32)]) rfl ?_
  refine w_ri h_m213 (z_at.mk 1 rfl rfl) rfl rfl ?_
  show z_W 997 216 29 [(4, .int (0 : Int32)), (0, .ref 143), (1, .int (2 : Int32)), (2, .int (0 : Int32)), (3, .int (31 : Int32))] [.int (0 : Int32)] m _
  refine w_ri h_m216 (z_at.mk 1 rfl rfl) rfl rfl ?_
  show z_W 998 241 8 [(0, .ref 143), (1, .int (0 : Int32))] [.int (0 : Int32)] m _
  refine w_p h_m241 2 (pc' := 12) (L' := [(0, .ref 143), (1, .int (0 : Int32))]) (st' := [.int (0 : Int32)]) rfl ?_
  refine w_ri h_m241 (z_at.mk 1 rfl rfl) rfl rfl ?_
  show z_W 999 243 19 [(0, .ref 143), (1, .int (0 : Int32)), (2, .int (1 : Int32))] [.int (0 : Int32)] m _
  refine w_p h_m243 10 (pc' := 76) (L' := [(0, .ref 143), (1, .int (1 : Int32)), (2, .int (0 : Int32))]) (st' := [.int (0 : Int32), .ref 143]) rfl ?_
  refine w_pf H (22, 35, [(20, .int (0 : Int32)), (22, .int (0 : Int32)), (23, .int (0 : Int32)), (21, .int (0 : Int32)), (34, .ref 167), (33, .ref 166), (31, .ref 165), (30, .ref 164), (28, .ref 163), (26, .ref 162), (25, .ref 161), (24, .ref 160), (19, .ref 159), (18, .ref 158), (17, .ref 157), (16, .ref 156), (13, .ref 155), (12, .ref 154), (11, .ref 153), (9, .ref 152), (8, .ref 151), (7, .ref 150), (5, .ref 149), (4, .ref 148), (3, .ref 147), (2, .ref 146), (1, .ref 145), (0, .ref 144), (6, .int (0 : Int32)), (10, .int (0 : Int32)), (14, .int (0 : Int32)), (15, .int (0 : Int32)), (27, .int (0 : Int32)), (29, .int (0 : Int32)), (32, .int (0 : Int32))], none) (pc' := 79) (L' := [(0, .ref 143), (1, .int (1 : Int32)), (2, .int (0 : Int32))]) h_m243 (z_at.mk 3 rfl rfl) rfl (by decide) rfl (Or.inl rfl) rfl rfl rfl ?_
  clear H m; intro m H
  refine w_p h_m243 1 (pc' := 80) (L' := [(0, .ref 143), (1, .int (1 : Int32)), (2, .int (0 : Int32))]) (st' := [.ref 143]) rfl ?_
  refine w_gf H (pc' := 83) (L' := [(0, .ref 143), (1, .int (1 : Int32)), (2, .int (0 : Int32))]) h_m243 (z_at.mk 3 rfl rfl) rfl (u := .int (0 : Int32)) rfl rfl rfl ?_
  refine w_p h_m243 3 (pc' := 89) (L' := [(0, .ref 143), (1, .int (1 : Int32)), (2, .int (0 : Int32))]) (st' := [.ref 143, .int (-100 : Int32)]) rfl ?_
  refine w_gf H (pc' := 92) (L' := [(0, .ref 143), (1, .int (1 : Int32)), (2, .int (0 : Int32))]) h_m243 (z_at.mk 3 rfl rfl) rfl (u := .int (0 : Int32)) rfl rfl rfl ?_
  refine w_p h_m243 1 (pc' := 93) (L' := [(0, .ref 143), (1, .int (1 : Int32)), (2, .int (0 : Int32))]) (st' := [.int (-100 : Int32)]) rfl ?_
  refine w_ri h_m243 (z_at.mk 1 rfl rfl) rfl rfl ?_
  show z_W 1000 1000 489 [(0, .ref 0), (1, .ref 39), (2, .ref 143), (3, .int (0 : Int32))] [.int (-100 : Int32), .int (-100 : Int32)] m _
  refine w_p h_m1000 5 (pc' := 20) (L' := [(0, .ref 0), (1, .ref 39), (2, .ref 143), (3, .int (6 : Int32))]) (st' := [.ref 0, .int (6 : Int32)]) rfl ?_
  refine w_lene H (x := (6 : Int32)) (pc' := 21) (L' := [(0, .ref 0), (1, .ref 39), (2, .ref 143), (3, .int (6 : Int32))]) h_m1000 (z_at.mk 1 rfl rfl) (by decide) rfl (by decide) rfl rfl rfl ?_
  refine w_p h_m1000 4 (pc' := 1381) (L' := [(0, .ref 0), (1, .ref 39), (2, .ref 143), (3, .int (6 : Int32))]) (st' := [.int (1 : Int32)]) rfl ?_
  refine w_ri h_m1000 (z_at.mk 1 rfl rfl) rfl rfl ?_
  exact hQ _ _ _ _ H (by decide) (by decide)
set_option maxHeartbeats 400000000 in
set_option maxRecDepth 20000 in
theorem w_c23 {xs : Nat → Int32} {m : zM} {Q : Option Value → zM → Prop} (H : w_ok 6 xs 168 63950 w_T0 m) (hQ : ∀ N S T m, w_ok 6 xs N S T m → N ≤ 600039 → S ≤ 7302250 → Q (some (.int 1)) m) : z_W 1000 1000 860 [(0, .ref 0), (1, .ref 39), (2, .ref 143), (3, .int (0 : Int32))] [] m Q := by
  have b1 := zi_bd (xs 1)
  have b2 := zi_bd (xs 2)
  have b3 := zi_bd (xs 3)
  have b4 := zi_bd (xs 4)
  have b5 := zi_bd (xs 5)
  refine w_p h_m1000 5 (pc' := 865) (L' := [(0, .ref 0), (1, .ref 39), (2, .ref 143), (3, .int (0 : Int32))]) (st' := [.int (1 : Int32), .ref 0, .ref 39]) rfl ?_
  refine w_ae H (j := 1) (pc' := 866) (L' := [(0, .ref 0), (1, .ref 39), (2, .ref 143), (3, .int (0 : Int32))]) h_m1000 (z_at.mk 1 rfl rfl) rfl rfl rfl (by decide) rfl (by decide) rfl rfl rfl ?_
  refine w_p h_m1000 4 (pc' := 870) (L' := [(0, .ref 0), (1, .ref 39), (2, .ref 143), (3, .int (0 : Int32))]) (st' := [.int (2 : Int32), .ref 0, .int (xs 1), .ref 39]) rfl ?_
  refine w_ae H (j := 2) (pc' := 871) (L' := [(0, .ref 0), (1, .ref 39), (2, .ref 143), (3, .int (0 : Int32))]) h_m1000 (z_at.mk 1 rfl rfl) rfl rfl rfl (by decide) rfl (by decide) rfl rfl rfl ?_
  refine w_p h_m1000 4 (pc' := 875) (L' := [(0, .ref 0), (1, .ref 39), (2, .ref 143), (3, .int (0 : Int32))]) (st' := [.int (3 : Int32), .ref 0, .int (xs 2), .int (xs 1), .ref 39]) rfl ?_
  refine w_ae H (j := 3) (pc' := 876) (L' := [(0, .ref 0), (1, .ref 39), (2, .ref 143), (3, .int (0 : Int32))]) h_m1000 (z_at.mk 1 rfl rfl) rfl rfl rfl (by decide) rfl (by decide) rfl rfl rfl ?_
  refine w_p h_m1000 4 (pc' := 880) (L' := [(0, .ref 0), (1, .ref 39), (2, .ref 143), (3, .int (0 : Int32))]) (st' := [.int (4 : Int32), .ref 0, .int (xs 3), .int (xs 2), .int (xs 1), .ref 39]) rfl ?_
  refine w_ae H (j := 4) (pc' := 881) (L' := [(0, .ref 0), (1, .ref 39), (2, .ref 143), (3, .int (0 : Int32))]) h_m1000 (z_at.mk 1 rfl rfl) rfl rfl rfl (by decide) rfl (by decide) rfl rfl rfl ?_
  refine w_cv (H.t rfl) (pc' := 884) (L' := [(0, .ref 0), (1, .ref 39), (2, .ref 143), (3, .int (0 : Int32))]) (rest := []) (Ps := [.int (xs 1), .int (xs 2), .int (xs 3), .int (xs 4)]) (L0 := [(0, .ref 39), (1, .int (xs 1)), (2, .int (xs 2)), (3, .int (xs 3)), (4, .int (xs 4))]) h_m1000 (z_at.mk 3 rfl rfl) (Or.inl ⟨rfl, rfl⟩) rfl rfl (by decide) (by decide) rfl rfl rfl rfl rfl rfl (by decide) rfl rfl rfl ?_
  refine w_p h_m143 2 (pc' := 2) (L' := [(0, .ref 39), (1, .int (xs 1)), (2, .int (xs 2)), (3, .int (xs 3)), (4, .int (xs 4))]) (st' := [.int (-1 : Int32), .int (xs 1)]) rfl ?_
  by_cases c_1 : (xs 1).toInt = (-1)
  · refine w_f2 (pc' := 5) (L' := [(0, .ref 39), (1, .int (xs 1)), (2, .int (xs 2)), (3, .int (xs 3)), (4, .int (xs 4))]) h_m143 (z_at.mk 3 rfl rfl) rfl (zc (a := (xs 1).toInt) (b := (-1)) rfl rfl (decide_eq_false (by omega))) rfl rfl ?_
    refine w_p h_m143 1 (pc' := 6) (L' := [(0, .ref 39), (1, .int (xs 1)), (2, .int (xs 2)), (3, .int (xs 3)), (4, .int (xs 4))]) (st' := [.ref 39]) rfl ?_
    refine w_gf H (pc' := 9) (L' := [(0, .ref 39), (1, .int (xs 1)), (2, .int (xs 2)), (3, .int (xs 3)), (4, .int (xs 4))]) h_m143 (z_at.mk 3 rfl rfl) rfl (u := .ref 40) rfl rfl rfl ?_
    refine w_gf H (pc' := 12) (L' := [(0, .ref 39), (1, .int (xs 1)), (2, .int (xs 2)), (3, .int (xs 3)), (4, .int (xs 4))]) h_m143 (z_at.mk 3 rfl rfl) rfl (u := .ref 63) rfl rfl rfl ?_
    refine w_p h_m143 1 (pc' := 13) (L' := [(0, .ref 39), (1, .int (xs 1)), (2, .int (xs 2)), (3, .int (xs 3)), (4, .int (xs 4))]) (st' := [.int (0 : Int32), .ref 63]) rfl ?_
    refine w_pf H (11, 2, [(1, .int (0 : Int32)), (0, .ref 64)], none) (pc' := 16) (L' := [(0, .ref 39), (1, .int (xs 1)), (2, .int (xs 2)), (3, .int (xs 3)), (4, .int (xs 4))]) h_m143 (z_at.mk 3 rfl rfl) rfl (by decide) rfl (Or.inl rfl) rfl rfl rfl ?_
    clear H m; intro m H
    refine w_p h_m143 1 (pc' := 17) (L' := [(0, .ref 39), (1, .int (xs 1)), (2, .int (xs 2)), (3, .int (xs 3)), (4, .int (xs 4))]) (st' := [.int (0 : Int32)]) rfl ?_
    refine w_ri h_m143 (z_at.mk 1 rfl rfl) rfl rfl ?_
    show z_W 1000 1000 884 [(0, .ref 0), (1, .ref 39), (2, .ref 143), (3, .int (0 : Int32))] [.int (0 : Int32)] m _
    refine w_p h_m1000 5 (pc' := 889) (L' := [(0, .ref 0), (1, .ref 39), (2, .ref 143), (3, .int (0 : Int32))]) (st' := [.int (1 : Int32), .ref 0, .ref 143, .int (0 : Int32)]) rfl ?_
    refine w_ae H (j := 1) (pc' := 890) (L' := [(0, .ref 0), (1, .ref 39), (2, .ref 143), (3, .int (0 : Int32))]) h_m1000 (z_at.mk 1 rfl rfl) rfl rfl rfl (by decide) rfl (by decide) rfl rfl rfl ?_
    refine w_p h_m1000 4 (pc' := 894) (L' := [(0, .ref 0), (1, .ref 39), (2, .ref 143), (3, .int (0 : Int32))]) (st' := [.int (2 : Int32), .ref 0, .int (xs 1), .ref 143, .int (0 : Int32)]) rfl ?_
    refine w_ae H (j := 2) (pc' := 895) (L' := [(0, .ref 0), (1, .ref 39), (2, .ref 143), (3, .int (0 : Int32))]) h_m1000 (z_at.mk 1 rfl rfl) rfl rfl rfl (by decide) rfl (by decide) rfl rfl rfl ?_
    refine w_p h_m1000 4 (pc' := 899) (L' := [(0, .ref 0), (1, .ref 39), (2, .ref 143), (3, .int (0 : Int32))]) (st' := [.int (3 : Int32), .ref 0, .int (xs 2), .int (xs 1), .ref 143, .int (0 : Int32)]) rfl ?_
    refine w_ae H (j := 3) (pc' := 900) (L' := [(0, .ref 0), (1, .ref 39), (2, .ref 143), (3, .int (0 : Int32))]) h_m1000 (z_at.mk 1 rfl rfl) rfl rfl rfl (by decide) rfl (by decide) rfl rfl rfl ?_
    refine w_p h_m1000 4 (pc' := 904) (L' := [(0, .ref 0), (1, .ref 39), (2, .ref 143), (3, .int (0 : Int32))]) (st' := [.int (4 : Int32), .ref 0, .int (xs 3), .int (xs 2), .int (xs 1), .ref 143, .int (0 : Int32)]) rfl ?_
    refine w_ae H (j := 4) (pc' := 905) (L' := [(0, .ref 0), (1, .ref 39), (2, .ref 143), (3, .int (0 : Int32))]) h_m1000 (z_at.mk 1 rfl rfl) rfl rfl rfl (by decide) rfl (by decide) rfl rfl rfl ?_
    refine w_cv (H.t rfl) (pc' := 908) (L' := [(0, .ref 0), (1, .ref 39), (2, .ref 143), (3, .int (0 : Int32))]) (rest := [.int (0 : Int32)]) (Ps := [.int (xs 1), .int (xs 2), .int (xs 3), .int (xs 4)]) (L0 := [(0, .ref 143), (1, .int (xs 1)), (2, .int (xs 2)), (3, .int (xs 3)), (4, .int (xs 4))]) h_m1000 (z_at.mk 3 rfl rfl) (Or.inl ⟨rfl, rfl⟩) rfl rfl (by decide) (by decide) rfl rfl rfl rfl rfl rfl (by decide) rfl rfl rfl ?_
    refine w_p h_m254 2 (pc' := 2) (L' := [(0, .ref 143), (1, .int (xs 1)), (2, .int (xs 2)), (3, .int (xs 3)), (4, .int (xs 4))]) (st' := [.int (-1 : Int32), .int (xs 1)]) rfl ?_
    refine w_f2 (pc' := 5) (L' := [(0, .ref 143), (1, .int (xs 1)), (2, .int (xs 2)), (3, .int (xs 3)), (4, .int (xs 4))]) h_m254 (z_at.mk 3 rfl rfl) rfl (zc (a := (xs 1).toInt) (b := (-1)) rfl rfl (decide_eq_false (by omega))) rfl rfl ?_
    refine w_p h_m254 1 (pc' := 6) (L' := [(0, .ref 143), (1, .int (xs 1)), (2, .int (xs 2)), (3, .int (xs 3)), (4, .int (xs 4))]) (st' := [.ref 143]) rfl ?_
    refine w_gf H (pc' := 9) (L' := [(0, .ref 143), (1, .int (xs 1)), (2, .int (xs 2)), (3, .int (xs 3)), (4, .int (xs 4))]) h_m254 (z_at.mk 3 rfl rfl) rfl (u := .ref 144) rfl rfl rfl ?_
    refine w_p h_m254 2 (pc' := 12) (L' := [(0, .ref 143), (1, .int (xs 1)), (2, .int (xs 2)), (3, .int (xs 3)), (4, .int (xs 4))]) (st' := [.int (0 : Int32), .int (9 : Int32), .ref 144]) rfl ?_
    refine w_as H (t := 0) (j := 9) (u := .int (0 : Int32)) (0, 2740, [(9, .int (0 : Int32)), (17, .int (1024 : Int32)), (16, .int (1 : Int32)), (15, .int (1 : Int32)), (13, .int (12 : Int32)), (12, .int (40 : Int32)), (11, .int (10 : Int32))], some (.int (0 : Int32))) (pc' := 13) (L' := [(0, .ref 143), (1, .int (xs 1)), (2, .int (xs 2)), (3, .int (xs 3)), (4, .int (xs 4))]) h_m254 (z_at.mk 1 rfl rfl) rfl rfl (w_ui _ _ (by decide)) rfl rfl rfl rfl ?_
    clear H m; intro m H
    refine w_p h_m254 1 (pc' := 14) (L' := [(0, .ref 143), (1, .int (xs 1)), (2, .int (xs 2)), (3, .int (xs 3)), (4, .int (xs 4))]) (st' := [.int (0 : Int32)]) rfl ?_
    refine w_ri h_m254 (z_at.mk 1 rfl rfl) rfl rfl ?_
    show z_W 1000 1000 908 [(0, .ref 0), (1, .ref 39), (2, .ref 143), (3, .int (0 : Int32))] [.int (0 : Int32), .int (0 : Int32)] m _
    refine w_p h_m1000 5 (pc' := 20) (L' := [(0, .ref 0), (1, .ref 39), (2, .ref 143), (3, .int (6 : Int32))]) (st' := [.ref 0, .int (6 : Int32)]) rfl ?_
    refine w_lene H (x := (6 : Int32)) (pc' := 21) (L' := [(0, .ref 0), (1, .ref 39), (2, .ref 143), (3, .int (6 : Int32))]) h_m1000 (z_at.mk 1 rfl rfl) (by decide) rfl (by decide) rfl rfl rfl ?_
    refine w_p h_m1000 4 (pc' := 1381) (L' := [(0, .ref 0), (1, .ref 39), (2, .ref 143), (3, .int (6 : Int32))]) (st' := [.int (1 : Int32)]) rfl ?_
    refine w_ri h_m1000 (z_at.mk 1 rfl rfl) rfl rfl ?_
    exact hQ _ _ _ _ H (by decide) (by decide)
  · refine w_t2 (pc' := 18) (L' := [(0, .ref 39), (1, .int (xs 1)), (2, .int (xs 2)), (3, .int (xs 3)), (4, .int (xs 4))]) h_m143 (z_at.mk 3 rfl rfl) rfl (zc (a := (xs 1).toInt) (b := (-1)) rfl rfl (decide_eq_true (by omega))) rfl rfl ?_
    refine w_p h_m143 4 (pc' := 23) (L' := [(0, .ref 39), (1, .int (xs 1)), (2, .int (xs 2)), (3, .int (xs 3)), (4, .int (xs 4))]) (st' := [.int (xs 4), .int (xs 3), .int (xs 2), .int (xs 1)]) rfl ?_
    refine w_cs (As := [.int (xs 1), .int (xs 2), .int (xs 3), .int (xs 4)]) (rest := []) (j := 1) (L0 := [(0, .int (xs 1)), (1, .int (xs 2)), (2, .int (xs 3)), (3, .int (xs 4))]) (pc' := 26) (L' := [(0, .ref 39), (1, .int (xs 1)), (2, .int (xs 2)), (3, .int (xs 3)), (4, .int (xs 4))]) h_m143 (z_at.mk 3 rfl rfl) (Or.inl ⟨rfl, rfl⟩) rfl rfl rfl rfl rfl ?_
    refine w_p h_m1 2 (pc' := 2) (L' := [(0, .int (xs 1)), (1, .int (xs 2)), (2, .int (xs 3)), (3, .int (xs 4))]) (st' := [.int (xs 3), .int (xs 1)]) rfl ?_
    refine w_cs (As := [.int (xs 1), .int (xs 3)]) (rest := []) (j := 0) (L0 := [(0, .int (xs 1)), (1, .int (xs 3))]) (pc' := 5) (L' := [(0, .int (xs 1)), (1, .int (xs 2)), (2, .int (xs 3)), (3, .int (xs 4))]) h_m1 (z_at.mk 3 rfl rfl) (Or.inl ⟨rfl, rfl⟩) rfl rfl rfl rfl rfl ?_
    refine w_p h_m0 1 (pc' := 1) (L' := [(0, .int (xs 1)), (1, .int (xs 3))]) (st' := [.int (xs 1)]) rfl ?_
    by_cases c_2 : (xs 1).toInt < 0
    · refine w_t1 (pc' := 24) (L' := []) h_m0 (z_at.mk 3 rfl rfl) rfl (zc (a := (xs 1).toInt) (b := 0) rfl rfl (decide_eq_true (by omega))) rfl rfl ?_
      refine w_p h_m0 1 (pc' := 25) (L' := []) (st' := [.int (0 : Int32)]) rfl ?_
      refine w_ri h_m0 (z_at.mk 1 rfl rfl) rfl rfl ?_
      show z_W 998 1 5 [(0, .int (xs 1)), (1, .int (xs 2)), (2, .int (xs 3)), (3, .int (xs 4))] [.int (0 : Int32)] m _
      refine w_p h_m1 2 (pc' := 31) (L' := []) (st' := [.int (0 : Int32)]) rfl ?_
      refine w_ri h_m1 (z_at.mk 1 rfl rfl) rfl rfl ?_
      show z_W 999 143 26 [(0, .ref 39), (1, .int (xs 1)), (2, .int (xs 2)), (3, .int (xs 3)), (4, .int (xs 4))] [.int (0 : Int32)] m _
      refine w_p h_m143 2 (pc' := 31) (L' := [(0, .ref 39), (1, .int (xs 1)), (2, .int (xs 2)), (3, .int (xs 3)), (4, .int (xs 4))]) (st' := [.int (-2 : Int32)]) rfl ?_
      refine w_ri h_m143 (z_at.mk 1 rfl rfl) rfl rfl ?_
      show z_W 1000 1000 884 [(0, .ref 0), (1, .ref 39), (2, .ref 143), (3, .int (0 : Int32))] [.int (-2 : Int32)] m _
      refine w_p h_m1000 5 (pc' := 889) (L' := [(0, .ref 0), (1, .ref 39), (2, .ref 143), (3, .int (0 : Int32))]) (st' := [.int (1 : Int32), .ref 0, .ref 143, .int (-2 : Int32)]) rfl ?_
      refine w_ae H (j := 1) (pc' := 890) (L' := [(0, .ref 0), (1, .ref 39), (2, .ref 143), (3, .int (0 : Int32))]) h_m1000 (z_at.mk 1 rfl rfl) rfl rfl rfl (by decide) rfl (by decide) rfl rfl rfl ?_
      refine w_p h_m1000 4 (pc' := 894) (L' := [(0, .ref 0), (1, .ref 39), (2, .ref 143), (3, .int (0 : Int32))]) (st' := [.int (2 : Int32), .ref 0, .int (xs 1), .ref 143, .int (-2 : Int32)]) rfl ?_
      refine w_ae H (j := 2) (pc' := 895) (L' := [(0, .ref 0), (1, .ref 39), (2, .ref 143), (3, .int (0 : Int32))]) h_m1000 (z_at.mk 1 rfl rfl) rfl rfl rfl (by decide) rfl (by decide) rfl rfl rfl ?_
      refine w_p h_m1000 4 (pc' := 899) (L' := [(0, .ref 0), (1, .ref 39), (2, .ref 143), (3, .int (0 : Int32))]) (st' := [.int (3 : Int32), .ref 0, .int (xs 2), .int (xs 1), .ref 143, .int (-2 : Int32)]) rfl ?_
      refine w_ae H (j := 3) (pc' := 900) (L' := [(0, .ref 0), (1, .ref 39), (2, .ref 143), (3, .int (0 : Int32))]) h_m1000 (z_at.mk 1 rfl rfl) rfl rfl rfl (by decide) rfl (by decide) rfl rfl rfl ?_
      refine w_p h_m1000 4 (pc' := 904) (L' := [(0, .ref 0), (1, .ref 39), (2, .ref 143), (3, .int (0 : Int32))]) (st' := [.int (4 : Int32), .ref 0, .int (xs 3), .int (xs 2), .int (xs 1), .ref 143, .int (-2 : Int32)]) rfl ?_
      refine w_ae H (j := 4) (pc' := 905) (L' := [(0, .ref 0), (1, .ref 39), (2, .ref 143), (3, .int (0 : Int32))]) h_m1000 (z_at.mk 1 rfl rfl) rfl rfl rfl (by decide) rfl (by decide) rfl rfl rfl ?_
      refine w_cv (H.t rfl) (pc' := 908) (L' := [(0, .ref 0), (1, .ref 39), (2, .ref 143), (3, .int (0 : Int32))]) (rest := [.int (-2 : Int32)]) (Ps := [.int (xs 1), .int (xs 2), .int (xs 3), .int (xs 4)]) (L0 := [(0, .ref 143), (1, .int (xs 1)), (2, .int (xs 2)), (3, .int (xs 3)), (4, .int (xs 4))]) h_m1000 (z_at.mk 3 rfl rfl) (Or.inl ⟨rfl, rfl⟩) rfl rfl (by decide) (by decide) rfl rfl rfl rfl rfl rfl (by decide) rfl rfl rfl ?_
      refine w_p h_m254 2 (pc' := 2) (L' := [(0, .ref 143), (1, .int (xs 1)), (2, .int (xs 2)), (3, .int (xs 3)), (4, .int (xs 4))]) (st' := [.int (-1 : Int32), .int (xs 1)]) rfl ?_
      refine w_t2 (pc' := 15) (L' := [(0, .ref 143), (1, .int (xs 1)), (2, .int (xs 2)), (3, .int (xs 3)), (4, .int (xs 4))]) h_m254 (z_at.mk 3 rfl rfl) rfl (zc (a := (xs 1).toInt) (b := (-1)) rfl rfl (decide_eq_true (by omega))) rfl rfl ?_
      refine w_p h_m254 4 (pc' := 20) (L' := [(0, .ref 143), (1, .int (xs 1)), (2, .int (xs 2)), (3, .int (xs 3)), (4, .int (xs 4))]) (st' := [.int (xs 4), .int (xs 3), .int (xs 2), .int (xs 1)]) rfl ?_
      refine w_cs (As := [.int (xs 1), .int (xs 2), .int (xs 3), .int (xs 4)]) (rest := []) (j := 164) (L0 := [(0, .int (xs 1)), (1, .int (xs 2)), (2, .int (xs 3)), (3, .int (xs 4))]) (pc' := 23) (L' := [(0, .ref 143), (1, .int (xs 1)), (2, .int (xs 2)), (3, .int (xs 3)), (4, .int (xs 4))]) h_m254 (z_at.mk 3 rfl rfl) (Or.inl ⟨rfl, rfl⟩) rfl rfl rfl rfl rfl ?_
      refine w_p h_m164 3 (pc' := 4) (L' := [(0, .int (xs 1)), (1, .int (xs 2)), (2, .int (xs 3)), (3, .int (xs 4))]) (st' := [.int (31 : Int32), .int (0 : Int32), .int (xs 1)]) rfl ?_
      refine w_cs (As := [.int (xs 1), .int (0 : Int32), .int (31 : Int32)]) (rest := []) (j := 159) (L0 := [(0, .int (xs 1)), (1, .int (0 : Int32)), (2, .int (31 : Int32))]) (pc' := 7) (L' := [(0, .int (xs 1)), (1, .int (xs 2)), (2, .int (xs 3)), (3, .int (xs 4))]) h_m164 (z_at.mk 3 rfl rfl) (Or.inl ⟨rfl, rfl⟩) rfl rfl rfl rfl rfl ?_
      refine w_p h_m159 2 (pc' := 2) (L' := [(0, .int (xs 1)), (1, .int (0 : Int32)), (2, .int (31 : Int32))]) (st' := [.int (0 : Int32), .int (xs 1)]) rfl ?_
      refine w_t2 (pc' := 14) (L' := []) h_m159 (z_at.mk 3 rfl rfl) rfl (zc (a := (xs 1).toInt) (b := 0) rfl rfl (decide_eq_true (by omega))) rfl rfl ?_
      refine w_p h_m159 1 (pc' := 15) (L' := []) (st' := [.int (0 : Int32)]) rfl ?_
      refine w_ri h_m159 (z_at.mk 1 rfl rfl) rfl rfl ?_
      show z_W 998 164 7 [(0, .int (xs 1)), (1, .int (xs 2)), (2, .int (xs 3)), (3, .int (xs 4))] [.int (0 : Int32)] m _
      refine w_p h_m164 2 (pc' := 45) (L' := []) (st' := [.int (0 : Int32)]) rfl ?_
      refine w_ri h_m164 (z_at.mk 1 rfl rfl) rfl rfl ?_
      show z_W 999 254 23 [(0, .ref 143), (1, .int (xs 1)), (2, .int (xs 2)), (3, .int (xs 3)), (4, .int (xs 4))] [.int (0 : Int32)] m _
      refine w_p h_m254 2 (pc' := 28) (L' := [(0, .ref 143), (1, .int (xs 1)), (2, .int (xs 2)), (3, .int (xs 3)), (4, .int (xs 4))]) (st' := [.int (-2 : Int32)]) rfl ?_
      refine w_ri h_m254 (z_at.mk 1 rfl rfl) rfl rfl ?_
      show z_W 1000 1000 908 [(0, .ref 0), (1, .ref 39), (2, .ref 143), (3, .int (0 : Int32))] [.int (-2 : Int32), .int (-2 : Int32)] m _
      refine w_p h_m1000 5 (pc' := 20) (L' := [(0, .ref 0), (1, .ref 39), (2, .ref 143), (3, .int (6 : Int32))]) (st' := [.ref 0, .int (6 : Int32)]) rfl ?_
      refine w_lene H (x := (6 : Int32)) (pc' := 21) (L' := [(0, .ref 0), (1, .ref 39), (2, .ref 143), (3, .int (6 : Int32))]) h_m1000 (z_at.mk 1 rfl rfl) (by decide) rfl (by decide) rfl rfl rfl ?_
      refine w_p h_m1000 4 (pc' := 1381) (L' := [(0, .ref 0), (1, .ref 39), (2, .ref 143), (3, .int (6 : Int32))]) (st' := [.int (1 : Int32)]) rfl ?_
      refine w_ri h_m1000 (z_at.mk 1 rfl rfl) rfl rfl ?_
      exact hQ _ _ _ _ H (by decide) (by decide)
    · refine w_f1 (pc' := 4) (L' := [(0, .int (xs 1)), (1, .int (xs 3))]) h_m0 (z_at.mk 3 rfl rfl) rfl (zc (a := (xs 1).toInt) (b := 0) rfl rfl (decide_eq_false (by omega))) rfl rfl ?_
      refine w_p h_m0 2 (pc' := 7) (L' := [(0, .int (xs 1)), (1, .int (xs 3))]) (st' := [.int (32 : Int32), .int (xs 1)]) rfl ?_
      by_cases c_3 : (xs 1).toInt < 32
      · refine w_f2 (pc' := 10) (L' := [(0, .int (xs 1)), (1, .int (xs 3))]) h_m0 (z_at.mk 3 rfl rfl) rfl (zc (a := (xs 1).toInt) (b := 32) rfl rfl (decide_eq_false (by omega))) rfl rfl ?_
        refine w_p h_m0 1 (pc' := 11) (L' := [(0, .int (xs 1)), (1, .int (xs 3))]) (st' := [.int (xs 3)]) rfl ?_
        by_cases c_4 : (xs 3).toInt < 0
        · refine w_t1 (pc' := 24) (L' := []) h_m0 (z_at.mk 3 rfl rfl) rfl (zc (a := (xs 3).toInt) (b := 0) rfl rfl (decide_eq_true (by omega))) rfl rfl ?_
          refine w_p h_m0 1 (pc' := 25) (L' := []) (st' := [.int (0 : Int32)]) rfl ?_
          refine w_ri h_m0 (z_at.mk 1 rfl rfl) rfl rfl ?_
          show z_W 998 1 5 [(0, .int (xs 1)), (1, .int (xs 2)), (2, .int (xs 3)), (3, .int (xs 4))] [.int (0 : Int32)] m _
          refine w_p h_m1 2 (pc' := 31) (L' := []) (st' := [.int (0 : Int32)]) rfl ?_
          refine w_ri h_m1 (z_at.mk 1 rfl rfl) rfl rfl ?_
          show z_W 999 143 26 [(0, .ref 39), (1, .int (xs 1)), (2, .int (xs 2)), (3, .int (xs 3)), (4, .int (xs 4))] [.int (0 : Int32)] m _
          refine w_p h_m143 2 (pc' := 31) (L' := [(0, .ref 39), (1, .int (xs 1)), (2, .int (xs 2)), (3, .int (xs 3)), (4, .int (xs 4))]) (st' := [.int (-2 : Int32)]) rfl ?_
          refine w_ri h_m143 (z_at.mk 1 rfl rfl) rfl rfl ?_
          show z_W 1000 1000 884 [(0, .ref 0), (1, .ref 39), (2, .ref 143), (3, .int (0 : Int32))] [.int (-2 : Int32)] m _
          refine w_p h_m1000 5 (pc' := 889) (L' := [(0, .ref 0), (1, .ref 39), (2, .ref 143), (3, .int (0 : Int32))]) (st' := [.int (1 : Int32), .ref 0, .ref 143, .int (-2 : Int32)]) rfl ?_
          refine w_ae H (j := 1) (pc' := 890) (L' := [(0, .ref 0), (1, .ref 39), (2, .ref 143), (3, .int (0 : Int32))]) h_m1000 (z_at.mk 1 rfl rfl) rfl rfl rfl (by decide) rfl (by decide) rfl rfl rfl ?_
          refine w_p h_m1000 4 (pc' := 894) (L' := [(0, .ref 0), (1, .ref 39), (2, .ref 143), (3, .int (0 : Int32))]) (st' := [.int (2 : Int32), .ref 0, .int (xs 1), .ref 143, .int (-2 : Int32)]) rfl ?_
          refine w_ae H (j := 2) (pc' := 895) (L' := [(0, .ref 0), (1, .ref 39), (2, .ref 143), (3, .int (0 : Int32))]) h_m1000 (z_at.mk 1 rfl rfl) rfl rfl rfl (by decide) rfl (by decide) rfl rfl rfl ?_
          refine w_p h_m1000 4 (pc' := 899) (L' := [(0, .ref 0), (1, .ref 39), (2, .ref 143), (3, .int (0 : Int32))]) (st' := [.int (3 : Int32), .ref 0, .int (xs 2), .int (xs 1), .ref 143, .int (-2 : Int32)]) rfl ?_
          refine w_ae H (j := 3) (pc' := 900) (L' := [(0, .ref 0), (1, .ref 39), (2, .ref 143), (3, .int (0 : Int32))]) h_m1000 (z_at.mk 1 rfl rfl) rfl rfl rfl (by decide) rfl (by decide) rfl rfl rfl ?_
          refine w_p h_m1000 4 (pc' := 904) (L' := [(0, .ref 0), (1, .ref 39), (2, .ref 143), (3, .int (0 : Int32))]) (st' := [.int (4 : Int32), .ref 0, .int (xs 3), .int (xs 2), .int (xs 1), .ref 143, .int (-2 : Int32)]) rfl ?_
          refine w_ae H (j := 4) (pc' := 905) (L' := [(0, .ref 0), (1, .ref 39), (2, .ref 143), (3, .int (0 : Int32))]) h_m1000 (z_at.mk 1 rfl rfl) rfl rfl rfl (by decide) rfl (by decide) rfl rfl rfl ?_
          refine w_cv (H.t rfl) (pc' := 908) (L' := [(0, .ref 0), (1, .ref 39), (2, .ref 143), (3, .int (0 : Int32))]) (rest := [.int (-2 : Int32)]) (Ps := [.int (xs 1), .int (xs 2), .int (xs 3), .int (xs 4)]) (L0 := [(0, .ref 143), (1, .int (xs 1)), (2, .int (xs 2)), (3, .int (xs 3)), (4, .int (xs 4))]) h_m1000 (z_at.mk 3 rfl rfl) (Or.inl ⟨rfl, rfl⟩) rfl rfl (by decide) (by decide) rfl rfl rfl rfl rfl rfl (by decide) rfl rfl rfl ?_
          refine w_p h_m254 2 (pc' := 2) (L' := [(0, .ref 143), (1, .int (xs 1)), (2, .int (xs 2)), (3, .int (xs 3)), (4, .int (xs 4))]) (st' := [.int (-1 : Int32), .int (xs 1)]) rfl ?_
          refine w_t2 (pc' := 15) (L' := [(0, .ref 143), (1, .int (xs 1)), (2, .int (xs 2)), (3, .int (xs 3)), (4, .int (xs 4))]) h_m254 (z_at.mk 3 rfl rfl) rfl (zc (a := (xs 1).toInt) (b := (-1)) rfl rfl (decide_eq_true (by omega))) rfl rfl ?_
          refine w_p h_m254 4 (pc' := 20) (L' := [(0, .ref 143), (1, .int (xs 1)), (2, .int (xs 2)), (3, .int (xs 3)), (4, .int (xs 4))]) (st' := [.int (xs 4), .int (xs 3), .int (xs 2), .int (xs 1)]) rfl ?_
          refine w_cs (As := [.int (xs 1), .int (xs 2), .int (xs 3), .int (xs 4)]) (rest := []) (j := 164) (L0 := [(0, .int (xs 1)), (1, .int (xs 2)), (2, .int (xs 3)), (3, .int (xs 4))]) (pc' := 23) (L' := [(0, .ref 143), (1, .int (xs 1)), (2, .int (xs 2)), (3, .int (xs 3)), (4, .int (xs 4))]) h_m254 (z_at.mk 3 rfl rfl) (Or.inl ⟨rfl, rfl⟩) rfl rfl rfl rfl rfl ?_
          refine w_p h_m164 3 (pc' := 4) (L' := [(0, .int (xs 1)), (1, .int (xs 2)), (2, .int (xs 3)), (3, .int (xs 4))]) (st' := [.int (31 : Int32), .int (0 : Int32), .int (xs 1)]) rfl ?_
          refine w_cs (As := [.int (xs 1), .int (0 : Int32), .int (31 : Int32)]) (rest := []) (j := 159) (L0 := [(0, .int (xs 1)), (1, .int (0 : Int32)), (2, .int (31 : Int32))]) (pc' := 7) (L' := [(0, .int (xs 1)), (1, .int (xs 2)), (2, .int (xs 3)), (3, .int (xs 4))]) h_m164 (z_at.mk 3 rfl rfl) (Or.inl ⟨rfl, rfl⟩) rfl rfl rfl rfl rfl ?_
          refine w_p h_m159 2 (pc' := 2) (L' := [(0, .int (xs 1)), (1, .int (0 : Int32)), (2, .int (31 : Int32))]) (st' := [.int (0 : Int32), .int (xs 1)]) rfl ?_
          refine w_f2 (pc' := 5) (L' := [(0, .int (xs 1)), (1, .int (0 : Int32)), (2, .int (31 : Int32))]) h_m159 (z_at.mk 3 rfl rfl) rfl (zc (a := (xs 1).toInt) (b := 0) rfl rfl (decide_eq_false (by omega))) rfl rfl ?_
          refine w_p h_m159 2 (pc' := 7) (L' := [(0, .int (xs 1)), (1, .int (0 : Int32)), (2, .int (31 : Int32))]) (st' := [.int (31 : Int32), .int (xs 1)]) rfl ?_
          refine w_f2 (pc' := 10) (L' := [(0, .int (xs 1)), (1, .int (0 : Int32)), (2, .int (31 : Int32))]) h_m159 (z_at.mk 3 rfl rfl) rfl (zc (a := (xs 1).toInt) (b := 31) rfl rfl (decide_eq_false (by omega))) rfl rfl ?_
          refine w_p h_m159 2 (pc' := 15) (L' := []) (st' := [.int (1 : Int32)]) rfl ?_
          refine w_ri h_m159 (z_at.mk 1 rfl rfl) rfl rfl ?_
          show z_W 998 164 7 [(0, .int (xs 1)), (1, .int (xs 2)), (2, .int (xs 3)), (3, .int (xs 4))] [.int (1 : Int32)] m _
          refine w_p h_m164 4 (pc' := 14) (L' := [(0, .int (xs 1)), (1, .int (xs 2)), (2, .int (xs 3)), (3, .int (xs 4))]) (st' := [.int (31 : Int32), .int (xs 1), .int (xs 2)]) rfl ?_
          refine w_cs (As := [.int (xs 2), .int (xs 1), .int (31 : Int32)]) (rest := []) (j := 159) (L0 := [(0, .int (xs 2)), (1, .int (xs 1)), (2, .int (31 : Int32))]) (pc' := 17) (L' := [(0, .int (xs 1)), (1, .int (xs 2)), (2, .int (xs 3)), (3, .int (xs 4))]) h_m164 (z_at.mk 3 rfl rfl) (Or.inl ⟨rfl, rfl⟩) rfl rfl rfl rfl rfl ?_
          refine w_p h_m159 2 (pc' := 2) (L' := [(0, .int (xs 2)), (1, .int (xs 1)), (2, .int (31 : Int32))]) (st' := [.int (xs 1), .int (xs 2)]) rfl ?_
          by_cases c_5 : (xs 2).toInt < (xs 1).toInt
          · refine w_t2 (pc' := 14) (L' := []) h_m159 (z_at.mk 3 rfl rfl) rfl (zc (a := (xs 2).toInt) (b := (xs 1).toInt) rfl rfl (decide_eq_true (by omega))) rfl rfl ?_
            refine w_p h_m159 1 (pc' := 15) (L' := []) (st' := [.int (0 : Int32)]) rfl ?_
            refine w_ri h_m159 (z_at.mk 1 rfl rfl) rfl rfl ?_
            show z_W 998 164 17 [(0, .int (xs 1)), (1, .int (xs 2)), (2, .int (xs 3)), (3, .int (xs 4))] [.int (0 : Int32)] m _
            refine w_p h_m164 2 (pc' := 45) (L' := []) (st' := [.int (0 : Int32)]) rfl ?_
            refine w_ri h_m164 (z_at.mk 1 rfl rfl) rfl rfl ?_
            show z_W 999 254 23 [(0, .ref 143), (1, .int (xs 1)), (2, .int (xs 2)), (3, .int (xs 3)), (4, .int (xs 4))] [.int (0 : Int32)] m _
            refine w_p h_m254 2 (pc' := 28) (L' := [(0, .ref 143), (1, .int (xs 1)), (2, .int (xs 2)), (3, .int (xs 3)), (4, .int (xs 4))]) (st' := [.int (-2 : Int32)]) rfl ?_
            refine w_ri h_m254 (z_at.mk 1 rfl rfl) rfl rfl ?_
            show z_W 1000 1000 908 [(0, .ref 0), (1, .ref 39), (2, .ref 143), (3, .int (0 : Int32))] [.int (-2 : Int32), .int (-2 : Int32)] m _
            refine w_p h_m1000 5 (pc' := 20) (L' := [(0, .ref 0), (1, .ref 39), (2, .ref 143), (3, .int (6 : Int32))]) (st' := [.ref 0, .int (6 : Int32)]) rfl ?_
            refine w_lene H (x := (6 : Int32)) (pc' := 21) (L' := [(0, .ref 0), (1, .ref 39), (2, .ref 143), (3, .int (6 : Int32))]) h_m1000 (z_at.mk 1 rfl rfl) (by decide) rfl (by decide) rfl rfl rfl ?_
            refine w_p h_m1000 4 (pc' := 1381) (L' := [(0, .ref 0), (1, .ref 39), (2, .ref 143), (3, .int (6 : Int32))]) (st' := [.int (1 : Int32)]) rfl ?_
            refine w_ri h_m1000 (z_at.mk 1 rfl rfl) rfl rfl ?_
            exact hQ _ _ _ _ H (by decide) (by decide)
          · refine w_f2 (pc' := 5) (L' := [(0, .int (xs 2)), (1, .int (xs 1)), (2, .int (31 : Int32))]) h_m159 (z_at.mk 3 rfl rfl) rfl (zc (a := (xs 2).toInt) (b := (xs 1).toInt) rfl rfl (decide_eq_false (by omega))) rfl rfl ?_
            refine w_p h_m159 2 (pc' := 7) (L' := [(0, .int (xs 2)), (1, .int (xs 1)), (2, .int (31 : Int32))]) (st' := [.int (31 : Int32), .int (xs 2)]) rfl ?_
            by_cases c_6 : (xs 2).toInt ≤ 31
            · refine w_f2 (pc' := 10) (L' := [(0, .int (xs 2)), (1, .int (xs 1)), (2, .int (31 : Int32))]) h_m159 (z_at.mk 3 rfl rfl) rfl (zc (a := (xs 2).toInt) (b := 31) rfl rfl (decide_eq_false (by omega))) rfl rfl ?_
              refine w_p h_m159 2 (pc' := 15) (L' := []) (st' := [.int (1 : Int32)]) rfl ?_
              refine w_ri h_m159 (z_at.mk 1 rfl rfl) rfl rfl ?_
              show z_W 998 164 17 [(0, .int (xs 1)), (1, .int (xs 2)), (2, .int (xs 3)), (3, .int (xs 4))] [.int (1 : Int32)] m _
              refine w_p h_m164 4 (pc' := 24) (L' := [(0, .int (xs 1)), (1, .int (xs 2)), (2, .int (xs 3)), (3, .int (xs 4))]) (st' := [.int (31 : Int32), .int (0 : Int32), .int (xs 3)]) rfl ?_
              refine w_cs (As := [.int (xs 3), .int (0 : Int32), .int (31 : Int32)]) (rest := []) (j := 159) (L0 := [(0, .int (xs 3)), (1, .int (0 : Int32)), (2, .int (31 : Int32))]) (pc' := 27) (L' := [(0, .int (xs 1)), (1, .int (xs 2)), (2, .int (xs 3)), (3, .int (xs 4))]) h_m164 (z_at.mk 3 rfl rfl) (Or.inl ⟨rfl, rfl⟩) rfl rfl rfl rfl rfl ?_
              refine w_p h_m159 2 (pc' := 2) (L' := [(0, .int (xs 3)), (1, .int (0 : Int32)), (2, .int (31 : Int32))]) (st' := [.int (0 : Int32), .int (xs 3)]) rfl ?_
              refine w_t2 (pc' := 14) (L' := []) h_m159 (z_at.mk 3 rfl rfl) rfl (zc (a := (xs 3).toInt) (b := 0) rfl rfl (decide_eq_true (by omega))) rfl rfl ?_
              refine w_p h_m159 1 (pc' := 15) (L' := []) (st' := [.int (0 : Int32)]) rfl ?_
              refine w_ri h_m159 (z_at.mk 1 rfl rfl) rfl rfl ?_
              show z_W 998 164 27 [(0, .int (xs 1)), (1, .int (xs 2)), (2, .int (xs 3)), (3, .int (xs 4))] [.int (0 : Int32)] m _
              refine w_p h_m164 2 (pc' := 45) (L' := []) (st' := [.int (0 : Int32)]) rfl ?_
              refine w_ri h_m164 (z_at.mk 1 rfl rfl) rfl rfl ?_
              show z_W 999 254 23 [(0, .ref 143), (1, .int (xs 1)), (2, .int (xs 2)), (3, .int (xs 3)), (4, .int (xs 4))] [.int (0 : Int32)] m _
              refine w_p h_m254 2 (pc' := 28) (L' := [(0, .ref 143), (1, .int (xs 1)), (2, .int (xs 2)), (3, .int (xs 3)), (4, .int (xs 4))]) (st' := [.int (-2 : Int32)]) rfl ?_
              refine w_ri h_m254 (z_at.mk 1 rfl rfl) rfl rfl ?_
              show z_W 1000 1000 908 [(0, .ref 0), (1, .ref 39), (2, .ref 143), (3, .int (0 : Int32))] [.int (-2 : Int32), .int (-2 : Int32)] m _
              refine w_p h_m1000 5 (pc' := 20) (L' := [(0, .ref 0), (1, .ref 39), (2, .ref 143), (3, .int (6 : Int32))]) (st' := [.ref 0, .int (6 : Int32)]) rfl ?_
              refine w_lene H (x := (6 : Int32)) (pc' := 21) (L' := [(0, .ref 0), (1, .ref 39), (2, .ref 143), (3, .int (6 : Int32))]) h_m1000 (z_at.mk 1 rfl rfl) (by decide) rfl (by decide) rfl rfl rfl ?_
              refine w_p h_m1000 4 (pc' := 1381) (L' := [(0, .ref 0), (1, .ref 39), (2, .ref 143), (3, .int (6 : Int32))]) (st' := [.int (1 : Int32)]) rfl ?_
              refine w_ri h_m1000 (z_at.mk 1 rfl rfl) rfl rfl ?_
              exact hQ _ _ _ _ H (by decide) (by decide)
            · refine w_t2 (pc' := 14) (L' := []) h_m159 (z_at.mk 3 rfl rfl) rfl (zc (a := (xs 2).toInt) (b := 31) rfl rfl (decide_eq_true (by omega))) rfl rfl ?_
              refine w_p h_m159 1 (pc' := 15) (L' := []) (st' := [.int (0 : Int32)]) rfl ?_
              refine w_ri h_m159 (z_at.mk 1 rfl rfl) rfl rfl ?_
              show z_W 998 164 17 [(0, .int (xs 1)), (1, .int (xs 2)), (2, .int (xs 3)), (3, .int (xs 4))] [.int (0 : Int32)] m _
              refine w_p h_m164 2 (pc' := 45) (L' := []) (st' := [.int (0 : Int32)]) rfl ?_
              refine w_ri h_m164 (z_at.mk 1 rfl rfl) rfl rfl ?_
              show z_W 999 254 23 [(0, .ref 143), (1, .int (xs 1)), (2, .int (xs 2)), (3, .int (xs 3)), (4, .int (xs 4))] [.int (0 : Int32)] m _
              refine w_p h_m254 2 (pc' := 28) (L' := [(0, .ref 143), (1, .int (xs 1)), (2, .int (xs 2)), (3, .int (xs 3)), (4, .int (xs 4))]) (st' := [.int (-2 : Int32)]) rfl ?_
              refine w_ri h_m254 (z_at.mk 1 rfl rfl) rfl rfl ?_
              show z_W 1000 1000 908 [(0, .ref 0), (1, .ref 39), (2, .ref 143), (3, .int (0 : Int32))] [.int (-2 : Int32), .int (-2 : Int32)] m _
              refine w_p h_m1000 5 (pc' := 20) (L' := [(0, .ref 0), (1, .ref 39), (2, .ref 143), (3, .int (6 : Int32))]) (st' := [.ref 0, .int (6 : Int32)]) rfl ?_
              refine w_lene H (x := (6 : Int32)) (pc' := 21) (L' := [(0, .ref 0), (1, .ref 39), (2, .ref 143), (3, .int (6 : Int32))]) h_m1000 (z_at.mk 1 rfl rfl) (by decide) rfl (by decide) rfl rfl rfl ?_
              refine w_p h_m1000 4 (pc' := 1381) (L' := [(0, .ref 0), (1, .ref 39), (2, .ref 143), (3, .int (6 : Int32))]) (st' := [.int (1 : Int32)]) rfl ?_
              refine w_ri h_m1000 (z_at.mk 1 rfl rfl) rfl rfl ?_
              exact hQ _ _ _ _ H (by decide) (by decide)
        · refine w_f1 (pc' := 14) (L' := [(0, .int (xs 1)), (1, .int (xs 3))]) h_m0 (z_at.mk 3 rfl rfl) rfl (zc (a := (xs 3).toInt) (b := 0) rfl rfl (decide_eq_false (by omega))) rfl rfl ?_
          refine w_p h_m0 2 (pc' := 17) (L' := [(0, .int (xs 1)), (1, .int (xs 3))]) (st' := [.int (32 : Int32), .int (xs 3)]) rfl ?_
          by_cases c_5 : (xs 3).toInt < 32
          · refine w_f2 (pc' := 20) (L' := [(0, .int (xs 1)), (1, .int (xs 3))]) h_m0 (z_at.mk 3 rfl rfl) rfl (zc (a := (xs 3).toInt) (b := 32) rfl rfl (decide_eq_false (by omega))) rfl rfl ?_
            refine w_p h_m0 2 (pc' := 25) (L' := []) (st' := [.int (1 : Int32)]) rfl ?_
            refine w_ri h_m0 (z_at.mk 1 rfl rfl) rfl rfl ?_
            show z_W 998 1 5 [(0, .int (xs 1)), (1, .int (xs 2)), (2, .int (xs 3)), (3, .int (xs 4))] [.int (1 : Int32)] m _
            refine w_p h_m1 3 (pc' := 10) (L' := [(0, .int (xs 1)), (1, .int (xs 2)), (2, .int (xs 3)), (3, .int (xs 4))]) (st' := [.int (xs 4), .int (xs 2)]) rfl ?_
            refine w_cs (As := [.int (xs 2), .int (xs 4)]) (rest := []) (j := 0) (L0 := [(0, .int (xs 2)), (1, .int (xs 4))]) (pc' := 13) (L' := [(0, .int (xs 1)), (1, .int (xs 2)), (2, .int (xs 3)), (3, .int (xs 4))]) h_m1 (z_at.mk 3 rfl rfl) (Or.inl ⟨rfl, rfl⟩) rfl rfl rfl rfl rfl ?_
            refine w_p h_m0 1 (pc' := 1) (L' := [(0, .int (xs 2)), (1, .int (xs 4))]) (st' := [.int (xs 2)]) rfl ?_
            by_cases c_6 : (xs 2).toInt < 0
            · refine w_t1 (pc' := 24) (L' := []) h_m0 (z_at.mk 3 rfl rfl) rfl (zc (a := (xs 2).toInt) (b := 0) rfl rfl (decide_eq_true (by omega))) rfl rfl ?_
              refine w_p h_m0 1 (pc' := 25) (L' := []) (st' := [.int (0 : Int32)]) rfl ?_
              refine w_ri h_m0 (z_at.mk 1 rfl rfl) rfl rfl ?_
              show z_W 998 1 13 [(0, .int (xs 1)), (1, .int (xs 2)), (2, .int (xs 3)), (3, .int (xs 4))] [.int (0 : Int32)] m _
              refine w_p h_m1 2 (pc' := 31) (L' := []) (st' := [.int (0 : Int32)]) rfl ?_
              refine w_ri h_m1 (z_at.mk 1 rfl rfl) rfl rfl ?_
              show z_W 999 143 26 [(0, .ref 39), (1, .int (xs 1)), (2, .int (xs 2)), (3, .int (xs 3)), (4, .int (xs 4))] [.int (0 : Int32)] m _
              refine w_p h_m143 2 (pc' := 31) (L' := [(0, .ref 39), (1, .int (xs 1)), (2, .int (xs 2)), (3, .int (xs 3)), (4, .int (xs 4))]) (st' := [.int (-2 : Int32)]) rfl ?_
              refine w_ri h_m143 (z_at.mk 1 rfl rfl) rfl rfl ?_
              show z_W 1000 1000 884 [(0, .ref 0), (1, .ref 39), (2, .ref 143), (3, .int (0 : Int32))] [.int (-2 : Int32)] m _
              refine w_p h_m1000 5 (pc' := 889) (L' := [(0, .ref 0), (1, .ref 39), (2, .ref 143), (3, .int (0 : Int32))]) (st' := [.int (1 : Int32), .ref 0, .ref 143, .int (-2 : Int32)]) rfl ?_
              refine w_ae H (j := 1) (pc' := 890) (L' := [(0, .ref 0), (1, .ref 39), (2, .ref 143), (3, .int (0 : Int32))]) h_m1000 (z_at.mk 1 rfl rfl) rfl rfl rfl (by decide) rfl (by decide) rfl rfl rfl ?_
              refine w_p h_m1000 4 (pc' := 894) (L' := [(0, .ref 0), (1, .ref 39), (2, .ref 143), (3, .int (0 : Int32))]) (st' := [.int (2 : Int32), .ref 0, .int (xs 1), .ref 143, .int (-2 : Int32)]) rfl ?_
              refine w_ae H (j := 2) (pc' := 895) (L' := [(0, .ref 0), (1, .ref 39), (2, .ref 143), (3, .int (0 : Int32))]) h_m1000 (z_at.mk 1 rfl rfl) rfl rfl rfl (by decide) rfl (by decide) rfl rfl rfl ?_
              refine w_p h_m1000 4 (pc' := 899) (L' := [(0, .ref 0), (1, .ref 39), (2, .ref 143), (3, .int (0 : Int32))]) (st' := [.int (3 : Int32), .ref 0, .int (xs 2), .int (xs 1), .ref 143, .int (-2 : Int32)]) rfl ?_
              refine w_ae H (j := 3) (pc' := 900) (L' := [(0, .ref 0), (1, .ref 39), (2, .ref 143), (3, .int (0 : Int32))]) h_m1000 (z_at.mk 1 rfl rfl) rfl rfl rfl (by decide) rfl (by decide) rfl rfl rfl ?_
              refine w_p h_m1000 4 (pc' := 904) (L' := [(0, .ref 0), (1, .ref 39), (2, .ref 143), (3, .int (0 : Int32))]) (st' := [.int (4 : Int32), .ref 0, .int (xs 3), .int (xs 2), .int (xs 1), .ref 143, .int (-2 : Int32)]) rfl ?_
              refine w_ae H (j := 4) (pc' := 905) (L' := [(0, .ref 0), (1, .ref 39), (2, .ref 143), (3, .int (0 : Int32))]) h_m1000 (z_at.mk 1 rfl rfl) rfl rfl rfl (by decide) rfl (by decide) rfl rfl rfl ?_
              refine w_cv (H.t rfl) (pc' := 908) (L' := [(0, .ref 0), (1, .ref 39), (2, .ref 143), (3, .int (0 : Int32))]) (rest := [.int (-2 : Int32)]) (Ps := [.int (xs 1), .int (xs 2), .int (xs 3), .int (xs 4)]) (L0 := [(0, .ref 143), (1, .int (xs 1)), (2, .int (xs 2)), (3, .int (xs 3)), (4, .int (xs 4))]) h_m1000 (z_at.mk 3 rfl rfl) (Or.inl ⟨rfl, rfl⟩) rfl rfl (by decide) (by decide) rfl rfl rfl rfl rfl rfl (by decide) rfl rfl rfl ?_
              refine w_p h_m254 2 (pc' := 2) (L' := [(0, .ref 143), (1, .int (xs 1)), (2, .int (xs 2)), (3, .int (xs 3)), (4, .int (xs 4))]) (st' := [.int (-1 : Int32), .int (xs 1)]) rfl ?_
              refine w_t2 (pc' := 15) (L' := [(0, .ref 143), (1, .int (xs 1)), (2, .int (xs 2)), (3, .int (xs 3)), (4, .int (xs 4))]) h_m254 (z_at.mk 3 rfl rfl) rfl (zc (a := (xs 1).toInt) (b := (-1)) rfl rfl (decide_eq_true (by omega))) rfl rfl ?_
              refine w_p h_m254 4 (pc' := 20) (L' := [(0, .ref 143), (1, .int (xs 1)), (2, .int (xs 2)), (3, .int (xs 3)), (4, .int (xs 4))]) (st' := [.int (xs 4), .int (xs 3), .int (xs 2), .int (xs 1)]) rfl ?_
              refine w_cs (As := [.int (xs 1), .int (xs 2), .int (xs 3), .int (xs 4)]) (rest := []) (j := 164) (L0 := [(0, .int (xs 1)), (1, .int (xs 2)), (2, .int (xs 3)), (3, .int (xs 4))]) (pc' := 23) (L' := [(0, .ref 143), (1, .int (xs 1)), (2, .int (xs 2)), (3, .int (xs 3)), (4, .int (xs 4))]) h_m254 (z_at.mk 3 rfl rfl) (Or.inl ⟨rfl, rfl⟩) rfl rfl rfl rfl rfl ?_
              refine w_p h_m164 3 (pc' := 4) (L' := [(0, .int (xs 1)), (1, .int (xs 2)), (2, .int (xs 3)), (3, .int (xs 4))]) (st' := [.int (31 : Int32), .int (0 : Int32), .int (xs 1)]) rfl ?_
              refine w_cs (As := [.int (xs 1), .int (0 : Int32), .int (31 : Int32)]) (rest := []) (j := 159) (L0 := [(0, .int (xs 1)), (1, .int (0 : Int32)), (2, .int (31 : Int32))]) (pc' := 7) (L' := [(0, .int (xs 1)), (1, .int (xs 2)), (2, .int (xs 3)), (3, .int (xs 4))]) h_m164 (z_at.mk 3 rfl rfl) (Or.inl ⟨rfl, rfl⟩) rfl rfl rfl rfl rfl ?_
              refine w_p h_m159 2 (pc' := 2) (L' := [(0, .int (xs 1)), (1, .int (0 : Int32)), (2, .int (31 : Int32))]) (st' := [.int (0 : Int32), .int (xs 1)]) rfl ?_
              refine w_f2 (pc' := 5) (L' := [(0, .int (xs 1)), (1, .int (0 : Int32)), (2, .int (31 : Int32))]) h_m159 (z_at.mk 3 rfl rfl) rfl (zc (a := (xs 1).toInt) (b := 0) rfl rfl (decide_eq_false (by omega))) rfl rfl ?_
              refine w_p h_m159 2 (pc' := 7) (L' := [(0, .int (xs 1)), (1, .int (0 : Int32)), (2, .int (31 : Int32))]) (st' := [.int (31 : Int32), .int (xs 1)]) rfl ?_
              refine w_f2 (pc' := 10) (L' := [(0, .int (xs 1)), (1, .int (0 : Int32)), (2, .int (31 : Int32))]) h_m159 (z_at.mk 3 rfl rfl) rfl (zc (a := (xs 1).toInt) (b := 31) rfl rfl (decide_eq_false (by omega))) rfl rfl ?_
              refine w_p h_m159 2 (pc' := 15) (L' := []) (st' := [.int (1 : Int32)]) rfl ?_
              refine w_ri h_m159 (z_at.mk 1 rfl rfl) rfl rfl ?_
              show z_W 998 164 7 [(0, .int (xs 1)), (1, .int (xs 2)), (2, .int (xs 3)), (3, .int (xs 4))] [.int (1 : Int32)] m _
              refine w_p h_m164 4 (pc' := 14) (L' := [(0, .int (xs 1)), (1, .int (xs 2)), (2, .int (xs 3)), (3, .int (xs 4))]) (st' := [.int (31 : Int32), .int (xs 1), .int (xs 2)]) rfl ?_
              refine w_cs (As := [.int (xs 2), .int (xs 1), .int (31 : Int32)]) (rest := []) (j := 159) (L0 := [(0, .int (xs 2)), (1, .int (xs 1)), (2, .int (31 : Int32))]) (pc' := 17) (L' := [(0, .int (xs 1)), (1, .int (xs 2)), (2, .int (xs 3)), (3, .int (xs 4))]) h_m164 (z_at.mk 3 rfl rfl) (Or.inl ⟨rfl, rfl⟩) rfl rfl rfl rfl rfl ?_
              refine w_p h_m159 2 (pc' := 2) (L' := [(0, .int (xs 2)), (1, .int (xs 1)), (2, .int (31 : Int32))]) (st' := [.int (xs 1), .int (xs 2)]) rfl ?_
              refine w_t2 (pc' := 14) (L' := []) h_m159 (z_at.mk 3 rfl rfl) rfl (zc (a := (xs 2).toInt) (b := (xs 1).toInt) rfl rfl (decide_eq_true (by omega))) rfl rfl ?_
              refine w_p h_m159 1 (pc' := 15) (L' := []) (st' := [.int (0 : Int32)]) rfl ?_
              refine w_ri h_m159 (z_at.mk 1 rfl rfl) rfl rfl ?_
              show z_W 998 164 17 [(0, .int (xs 1)), (1, .int (xs 2)), (2, .int (xs 3)), (3, .int (xs 4))] [.int (0 : Int32)] m _
              refine w_p h_m164 2 (pc' := 45) (L' := []) (st' := [.int (0 : Int32)]) rfl ?_
              refine w_ri h_m164 (z_at.mk 1 rfl rfl) rfl rfl ?_
              show z_W 999 254 23 [(0, .ref 143), (1, .int (xs 1)), (2, .int (xs 2)), (3, .int (xs 3)), (4, .int (xs 4))] [.int (0 : Int32)] m _
              refine w_p h_m254 2 (pc' := 28) (L' := [(0, .ref 143), (1, .int (xs 1)), (2, .int (xs 2)), (3, .int (xs 3)), (4, .int (xs 4))]) (st' := [.int (-2 : Int32)]) rfl ?_
              refine w_ri h_m254 (z_at.mk 1 rfl rfl) rfl rfl ?_
              show z_W 1000 1000 908 [(0, .ref 0), (1, .ref 39), (2, .ref 143), (3, .int (0 : Int32))] [.int (-2 : Int32), .int (-2 : Int32)] m _
              refine w_p h_m1000 5 (pc' := 20) (L' := [(0, .ref 0), (1, .ref 39), (2, .ref 143), (3, .int (6 : Int32))]) (st' := [.ref 0, .int (6 : Int32)]) rfl ?_
              refine w_lene H (x := (6 : Int32)) (pc' := 21) (L' := [(0, .ref 0), (1, .ref 39), (2, .ref 143), (3, .int (6 : Int32))]) h_m1000 (z_at.mk 1 rfl rfl) (by decide) rfl (by decide) rfl rfl rfl ?_
              refine w_p h_m1000 4 (pc' := 1381) (L' := [(0, .ref 0), (1, .ref 39), (2, .ref 143), (3, .int (6 : Int32))]) (st' := [.int (1 : Int32)]) rfl ?_
              refine w_ri h_m1000 (z_at.mk 1 rfl rfl) rfl rfl ?_
              exact hQ _ _ _ _ H (by decide) (by decide)
            · refine w_f1 (pc' := 4) (L' := [(0, .int (xs 2)), (1, .int (xs 4))]) h_m0 (z_at.mk 3 rfl rfl) rfl (zc (a := (xs 2).toInt) (b := 0) rfl rfl (decide_eq_false (by omega))) rfl rfl ?_
              refine w_p h_m0 2 (pc' := 7) (L' := [(0, .int (xs 2)), (1, .int (xs 4))]) (st' := [.int (32 : Int32), .int (xs 2)]) rfl ?_
              by_cases c_7 : (xs 2).toInt < 32
              · refine w_f2 (pc' := 10) (L' := [(0, .int (xs 2)), (1, .int (xs 4))]) h_m0 (z_at.mk 3 rfl rfl) rfl (zc (a := (xs 2).toInt) (b := 32) rfl rfl (decide_eq_false (by omega))) rfl rfl ?_
                refine w_p h_m0 1 (pc' := 11) (L' := [(0, .int (xs 2)), (1, .int (xs 4))]) (st' := [.int (xs 4)]) rfl ?_
                by_cases c_8 : (xs 4).toInt < 0
                · refine w_t1 (pc' := 24) (L' := []) h_m0 (z_at.mk 3 rfl rfl) rfl (zc (a := (xs 4).toInt) (b := 0) rfl rfl (decide_eq_true (by omega))) rfl rfl ?_
                  refine w_p h_m0 1 (pc' := 25) (L' := []) (st' := [.int (0 : Int32)]) rfl ?_
                  refine w_ri h_m0 (z_at.mk 1 rfl rfl) rfl rfl ?_
                  show z_W 998 1 13 [(0, .int (xs 1)), (1, .int (xs 2)), (2, .int (xs 3)), (3, .int (xs 4))] [.int (0 : Int32)] m _
                  refine w_p h_m1 2 (pc' := 31) (L' := []) (st' := [.int (0 : Int32)]) rfl ?_
                  refine w_ri h_m1 (z_at.mk 1 rfl rfl) rfl rfl ?_
                  show z_W 999 143 26 [(0, .ref 39), (1, .int (xs 1)), (2, .int (xs 2)), (3, .int (xs 3)), (4, .int (xs 4))] [.int (0 : Int32)] m _
                  refine w_p h_m143 2 (pc' := 31) (L' := [(0, .ref 39), (1, .int (xs 1)), (2, .int (xs 2)), (3, .int (xs 3)), (4, .int (xs 4))]) (st' := [.int (-2 : Int32)]) rfl ?_
                  refine w_ri h_m143 (z_at.mk 1 rfl rfl) rfl rfl ?_
                  show z_W 1000 1000 884 [(0, .ref 0), (1, .ref 39), (2, .ref 143), (3, .int (0 : Int32))] [.int (-2 : Int32)] m _
                  refine w_p h_m1000 5 (pc' := 889) (L' := [(0, .ref 0), (1, .ref 39), (2, .ref 143), (3, .int (0 : Int32))]) (st' := [.int (1 : Int32), .ref 0, .ref 143, .int (-2 : Int32)]) rfl ?_
                  refine w_ae H (j := 1) (pc' := 890) (L' := [(0, .ref 0), (1, .ref 39), (2, .ref 143), (3, .int (0 : Int32))]) h_m1000 (z_at.mk 1 rfl rfl) rfl rfl rfl (by decide) rfl (by decide) rfl rfl rfl ?_
                  refine w_p h_m1000 4 (pc' := 894) (L' := [(0, .ref 0), (1, .ref 39), (2, .ref 143), (3, .int (0 : Int32))]) (st' := [.int (2 : Int32), .ref 0, .int (xs 1), .ref 143, .int (-2 : Int32)]) rfl ?_
                  refine w_ae H (j := 2) (pc' := 895) (L' := [(0, .ref 0), (1, .ref 39), (2, .ref 143), (3, .int (0 : Int32))]) h_m1000 (z_at.mk 1 rfl rfl) rfl rfl rfl (by decide) rfl (by decide) rfl rfl rfl ?_
                  refine w_p h_m1000 4 (pc' := 899) (L' := [(0, .ref 0), (1, .ref 39), (2, .ref 143), (3, .int (0 : Int32))]) (st' := [.int (3 : Int32), .ref 0, .int (xs 2), .int (xs 1), .ref 143, .int (-2 : Int32)]) rfl ?_
                  refine w_ae H (j := 3) (pc' := 900) (L' := [(0, .ref 0), (1, .ref 39), (2, .ref 143), (3, .int (0 : Int32))]) h_m1000 (z_at.mk 1 rfl rfl) rfl rfl rfl (by decide) rfl (by decide) rfl rfl rfl ?_
                  refine w_p h_m1000 4 (pc' := 904) (L' := [(0, .ref 0), (1, .ref 39), (2, .ref 143), (3, .int (0 : Int32))]) (st' := [.int (4 : Int32), .ref 0, .int (xs 3), .int (xs 2), .int (xs 1), .ref 143, .int (-2 : Int32)]) rfl ?_
                  refine w_ae H (j := 4) (pc' := 905) (L' := [(0, .ref 0), (1, .ref 39), (2, .ref 143), (3, .int (0 : Int32))]) h_m1000 (z_at.mk 1 rfl rfl) rfl rfl rfl (by decide) rfl (by decide) rfl rfl rfl ?_
                  refine w_cv (H.t rfl) (pc' := 908) (L' := [(0, .ref 0), (1, .ref 39), (2, .ref 143), (3, .int (0 : Int32))]) (rest := [.int (-2 : Int32)]) (Ps := [.int (xs 1), .int (xs 2), .int (xs 3), .int (xs 4)]) (L0 := [(0, .ref 143), (1, .int (xs 1)), (2, .int (xs 2)), (3, .int (xs 3)), (4, .int (xs 4))]) h_m1000 (z_at.mk 3 rfl rfl) (Or.inl ⟨rfl, rfl⟩) rfl rfl (by decide) (by decide) rfl rfl rfl rfl rfl rfl (by decide) rfl rfl rfl ?_
                  refine w_p h_m254 2 (pc' := 2) (L' := [(0, .ref 143), (1, .int (xs 1)), (2, .int (xs 2)), (3, .int (xs 3)), (4, .int (xs 4))]) (st' := [.int (-1 : Int32), .int (xs 1)]) rfl ?_
                  refine w_t2 (pc' := 15) (L' := [(0, .ref 143), (1, .int (xs 1)), (2, .int (xs 2)), (3, .int (xs 3)), (4, .int (xs 4))]) h_m254 (z_at.mk 3 rfl rfl) rfl (zc (a := (xs 1).toInt) (b := (-1)) rfl rfl (decide_eq_true (by omega))) rfl rfl ?_
                  refine w_p h_m254 4 (pc' := 20) (L' := [(0, .ref 143), (1, .int (xs 1)), (2, .int (xs 2)), (3, .int (xs 3)), (4, .int (xs 4))]) (st' := [.int (xs 4), .int (xs 3), .int (xs 2), .int (xs 1)]) rfl ?_
                  refine w_cs (As := [.int (xs 1), .int (xs 2), .int (xs 3), .int (xs 4)]) (rest := []) (j := 164) (L0 := [(0, .int (xs 1)), (1, .int (xs 2)), (2, .int (xs 3)), (3, .int (xs 4))]) (pc' := 23) (L' := [(0, .ref 143), (1, .int (xs 1)), (2, .int (xs 2)), (3, .int (xs 3)), (4, .int (xs 4))]) h_m254 (z_at.mk 3 rfl rfl) (Or.inl ⟨rfl, rfl⟩) rfl rfl rfl rfl rfl ?_
                  refine w_p h_m164 3 (pc' := 4) (L' := [(0, .int (xs 1)), (1, .int (xs 2)), (2, .int (xs 3)), (3, .int (xs 4))]) (st' := [.int (31 : Int32), .int (0 : Int32), .int (xs 1)]) rfl ?_
                  refine w_cs (As := [.int (xs 1), .int (0 : Int32), .int (31 : Int32)]) (rest := []) (j := 159) (L0 := [(0, .int (xs 1)), (1, .int (0 : Int32)), (2, .int (31 : Int32))]) (pc' := 7) (L' := [(0, .int (xs 1)), (1, .int (xs 2)), (2, .int (xs 3)), (3, .int (xs 4))]) h_m164 (z_at.mk 3 rfl rfl) (Or.inl ⟨rfl, rfl⟩) rfl rfl rfl rfl rfl ?_
                  refine w_p h_m159 2 (pc' := 2) (L' := [(0, .int (xs 1)), (1, .int (0 : Int32)), (2, .int (31 : Int32))]) (st' := [.int (0 : Int32), .int (xs 1)]) rfl ?_
                  refine w_f2 (pc' := 5) (L' := [(0, .int (xs 1)), (1, .int (0 : Int32)), (2, .int (31 : Int32))]) h_m159 (z_at.mk 3 rfl rfl) rfl (zc (a := (xs 1).toInt) (b := 0) rfl rfl (decide_eq_false (by omega))) rfl rfl ?_
                  refine w_p h_m159 2 (pc' := 7) (L' := [(0, .int (xs 1)), (1, .int (0 : Int32)), (2, .int (31 : Int32))]) (st' := [.int (31 : Int32), .int (xs 1)]) rfl ?_
                  refine w_f2 (pc' := 10) (L' := [(0, .int (xs 1)), (1, .int (0 : Int32)), (2, .int (31 : Int32))]) h_m159 (z_at.mk 3 rfl rfl) rfl (zc (a := (xs 1).toInt) (b := 31) rfl rfl (decide_eq_false (by omega))) rfl rfl ?_
                  refine w_p h_m159 2 (pc' := 15) (L' := []) (st' := [.int (1 : Int32)]) rfl ?_
                  refine w_ri h_m159 (z_at.mk 1 rfl rfl) rfl rfl ?_
                  show z_W 998 164 7 [(0, .int (xs 1)), (1, .int (xs 2)), (2, .int (xs 3)), (3, .int (xs 4))] [.int (1 : Int32)] m _
                  refine w_p h_m164 4 (pc' := 14) (L' := [(0, .int (xs 1)), (1, .int (xs 2)), (2, .int (xs 3)), (3, .int (xs 4))]) (st' := [.int (31 : Int32), .int (xs 1), .int (xs 2)]) rfl ?_
                  refine w_cs (As := [.int (xs 2), .int (xs 1), .int (31 : Int32)]) (rest := []) (j := 159) (L0 := [(0, .int (xs 2)), (1, .int (xs 1)), (2, .int (31 : Int32))]) (pc' := 17) (L' := [(0, .int (xs 1)), (1, .int (xs 2)), (2, .int (xs 3)), (3, .int (xs 4))]) h_m164 (z_at.mk 3 rfl rfl) (Or.inl ⟨rfl, rfl⟩) rfl rfl rfl rfl rfl ?_
                  refine w_p h_m159 2 (pc' := 2) (L' := [(0, .int (xs 2)), (1, .int (xs 1)), (2, .int (31 : Int32))]) (st' := [.int (xs 1), .int (xs 2)]) rfl ?_
                  by_cases c_9 : (xs 2).toInt < (xs 1).toInt
                  · refine w_t2 (pc' := 14) (L' := []) h_m159 (z_at.mk 3 rfl rfl) rfl (zc (a := (xs 2).toInt) (b := (xs 1).toInt) rfl rfl (decide_eq_true (by omega))) rfl rfl ?_
                    refine w_p h_m159 1 (pc' := 15) (L' := []) (st' := [.int (0 : Int32)]) rfl ?_
                    refine w_ri h_m159 (z_at.mk 1 rfl rfl) rfl rfl ?_
                    show z_W 998 164 17 [(0, .int (xs 1)), (1, .int (xs 2)), (2, .int (xs 3)), (3, .int (xs 4))] [.int (0 : Int32)] m _
                    refine w_p h_m164 2 (pc' := 45) (L' := []) (st' := [.int (0 : Int32)]) rfl ?_
                    refine w_ri h_m164 (z_at.mk 1 rfl rfl) rfl rfl ?_
                    show z_W 999 254 23 [(0, .ref 143), (1, .int (xs 1)), (2, .int (xs 2)), (3, .int (xs 3)), (4, .int (xs 4))] [.int (0 : Int32)] m _
                    refine w_p h_m254 2 (pc' := 28) (L' := [(0, .ref 143), (1, .int (xs 1)), (2, .int (xs 2)), (3, .int (xs 3)), (4, .int (xs 4))]) (st' := [.int (-2 : Int32)]) rfl ?_
                    refine w_ri h_m254 (z_at.mk 1 rfl rfl) rfl rfl ?_
                    show z_W 1000 1000 908 [(0, .ref 0), (1, .ref 39), (2, .ref 143), (3, .int (0 : Int32))] [.int (-2 : Int32), .int (-2 : Int32)] m _
                    refine w_p h_m1000 5 (pc' := 20) (L' := [(0, .ref 0), (1, .ref 39), (2, .ref 143), (3, .int (6 : Int32))]) (st' := [.ref 0, .int (6 : Int32)]) rfl ?_
                    refine w_lene H (x := (6 : Int32)) (pc' := 21) (L' := [(0, .ref 0), (1, .ref 39), (2, .ref 143), (3, .int (6 : Int32))]) h_m1000 (z_at.mk 1 rfl rfl) (by decide) rfl (by decide) rfl rfl rfl ?_
                    refine w_p h_m1000 4 (pc' := 1381) (L' := [(0, .ref 0), (1, .ref 39), (2, .ref 143), (3, .int (6 : Int32))]) (st' := [.int (1 : Int32)]) rfl ?_
                    refine w_ri h_m1000 (z_at.mk 1 rfl rfl) rfl rfl ?_
                    exact hQ _ _ _ _ H (by decide) (by decide)
                  · refine w_f2 (pc' := 5) (L' := [(0, .int (xs 2)), (1, .int (xs 1)), (2, .int (31 : Int32))]) h_m159 (z_at.mk 3 rfl rfl) rfl (zc (a := (xs 2).toInt) (b := (xs 1).toInt) rfl rfl (decide_eq_false (by omega))) rfl rfl ?_
                    refine w_p h_m159 2 (pc' := 7) (L' := [(0, .int (xs 2)), (1, .int (xs 1)), (2, .int (31 : Int32))]) (st' := [.int (31 : Int32), .int (xs 2)]) rfl ?_
                    refine w_f2 (pc' := 10) (L' := [(0, .int (xs 2)), (1, .int (xs 1)), (2, .int (31 : Int32))]) h_m159 (z_at.mk 3 rfl rfl) rfl (zc (a := (xs 2).toInt) (b := 31) rfl rfl (decide_eq_false (by omega))) rfl rfl ?_
                    refine w_p h_m159 2 (pc' := 15) (L' := []) (st' := [.int (1 : Int32)]) rfl ?_
                    refine w_ri h_m159 (z_at.mk 1 rfl rfl) rfl rfl ?_
                    show z_W 998 164 17 [(0, .int (xs 1)), (1, .int (xs 2)), (2, .int (xs 3)), (3, .int (xs 4))] [.int (1 : Int32)] m _
                    refine w_p h_m164 4 (pc' := 24) (L' := [(0, .int (xs 1)), (1, .int (xs 2)), (2, .int (xs 3)), (3, .int (xs 4))]) (st' := [.int (31 : Int32), .int (0 : Int32), .int (xs 3)]) rfl ?_
                    refine w_cs (As := [.int (xs 3), .int (0 : Int32), .int (31 : Int32)]) (rest := []) (j := 159) (L0 := [(0, .int (xs 3)), (1, .int (0 : Int32)), (2, .int (31 : Int32))]) (pc' := 27) (L' := [(0, .int (xs 1)), (1, .int (xs 2)), (2, .int (xs 3)), (3, .int (xs 4))]) h_m164 (z_at.mk 3 rfl rfl) (Or.inl ⟨rfl, rfl⟩) rfl rfl rfl rfl rfl ?_
                    refine w_p h_m159 2 (pc' := 2) (L' := [(0, .int (xs 3)), (1, .int (0 : Int32)), (2, .int (31 : Int32))]) (st' := [.int (0 : Int32), .int (xs 3)]) rfl ?_
                    refine w_f2 (pc' := 5) (L' := [(0, .int (xs 3)), (1, .int (0 : Int32)), (2, .int (31 : Int32))]) h_m159 (z_at.mk 3 rfl rfl) rfl (zc (a := (xs 3).toInt) (b := 0) rfl rfl (decide_eq_false (by omega))) rfl rfl ?_
                    refine w_p h_m159 2 (pc' := 7) (L' := [(0, .int (xs 3)), (1, .int (0 : Int32)), (2, .int (31 : Int32))]) (st' := [.int (31 : Int32), .int (xs 3)]) rfl ?_
                    refine w_f2 (pc' := 10) (L' := [(0, .int (xs 3)), (1, .int (0 : Int32)), (2, .int (31 : Int32))]) h_m159 (z_at.mk 3 rfl rfl) rfl (zc (a := (xs 3).toInt) (b := 31) rfl rfl (decide_eq_false (by omega))) rfl rfl ?_
                    refine w_p h_m159 2 (pc' := 15) (L' := []) (st' := [.int (1 : Int32)]) rfl ?_
                    refine w_ri h_m159 (z_at.mk 1 rfl rfl) rfl rfl ?_
                    show z_W 998 164 27 [(0, .int (xs 1)), (1, .int (xs 2)), (2, .int (xs 3)), (3, .int (xs 4))] [.int (1 : Int32)] m _
                    refine w_p h_m164 4 (pc' := 34) (L' := [(0, .int (xs 1)), (1, .int (xs 2)), (2, .int (xs 3)), (3, .int (xs 4))]) (st' := [.int (31 : Int32), .int (xs 3), .int (xs 4)]) rfl ?_
                    refine w_cs (As := [.int (xs 4), .int (xs 3), .int (31 : Int32)]) (rest := []) (j := 159) (L0 := [(0, .int (xs 4)), (1, .int (xs 3)), (2, .int (31 : Int32))]) (pc' := 37) (L' := [(0, .int (xs 1)), (1, .int (xs 2)), (2, .int (xs 3)), (3, .int (xs 4))]) h_m164 (z_at.mk 3 rfl rfl) (Or.inl ⟨rfl, rfl⟩) rfl rfl rfl rfl rfl ?_
                    refine w_p h_m159 2 (pc' := 2) (L' := [(0, .int (xs 4)), (1, .int (xs 3)), (2, .int (31 : Int32))]) (st' := [.int (xs 3), .int (xs 4)]) rfl ?_
                    refine w_t2 (pc' := 14) (L' := []) h_m159 (z_at.mk 3 rfl rfl) rfl (zc (a := (xs 4).toInt) (b := (xs 3).toInt) rfl rfl (decide_eq_true (by omega))) rfl rfl ?_
                    refine w_p h_m159 1 (pc' := 15) (L' := []) (st' := [.int (0 : Int32)]) rfl ?_
                    refine w_ri h_m159 (z_at.mk 1 rfl rfl) rfl rfl ?_
                    show z_W 998 164 37 [(0, .int (xs 1)), (1, .int (xs 2)), (2, .int (xs 3)), (3, .int (xs 4))] [.int (0 : Int32)] m _
                    refine w_p h_m164 2 (pc' := 45) (L' := []) (st' := [.int (0 : Int32)]) rfl ?_
                    refine w_ri h_m164 (z_at.mk 1 rfl rfl) rfl rfl ?_
                    show z_W 999 254 23 [(0, .ref 143), (1, .int (xs 1)), (2, .int (xs 2)), (3, .int (xs 3)), (4, .int (xs 4))] [.int (0 : Int32)] m _
                    refine w_p h_m254 2 (pc' := 28) (L' := [(0, .ref 143), (1, .int (xs 1)), (2, .int (xs 2)), (3, .int (xs 3)), (4, .int (xs 4))]) (st' := [.int (-2 : Int32)]) rfl ?_
                    refine w_ri h_m254 (z_at.mk 1 rfl rfl) rfl rfl ?_
                    show z_W 1000 1000 908 [(0, .ref 0), (1, .ref 39), (2, .ref 143), (3, .int (0 : Int32))] [.int (-2 : Int32), .int (-2 : Int32)] m _
                    refine w_p h_m1000 5 (pc' := 20) (L' := [(0, .ref 0), (1, .ref 39), (2, .ref 143), (3, .int (6 : Int32))]) (st' := [.ref 0, .int (6 : Int32)]) rfl ?_
                    refine w_lene H (x := (6 : Int32)) (pc' := 21) (L' := [(0, .ref 0), (1, .ref 39), (2, .ref 143), (3, .int (6 : Int32))]) h_m1000 (z_at.mk 1 rfl rfl) (by decide) rfl (by decide) rfl rfl rfl ?_
                    refine w_p h_m1000 4 (pc' := 1381) (L' := [(0, .ref 0), (1, .ref 39), (2, .ref 143), (3, .int (6 : Int32))]) (st' := [.int (1 : Int32)]) rfl ?_
                    refine w_ri h_m1000 (z_at.mk 1 rfl rfl) rfl rfl ?_
                    exact hQ _ _ _ _ H (by decide) (by decide)
                · refine w_f1 (pc' := 14) (L' := [(0, .int (xs 2)), (1, .int (xs 4))]) h_m0 (z_at.mk 3 rfl rfl) rfl (zc (a := (xs 4).toInt) (b := 0) rfl rfl (decide_eq_false (by omega))) rfl rfl ?_
                  refine w_p h_m0 2 (pc' := 17) (L' := [(0, .int (xs 2)), (1, .int (xs 4))]) (st' := [.int (32 : Int32), .int (xs 4)]) rfl ?_
                  by_cases c_9 : (xs 4).toInt < 32
                  · refine w_f2 (pc' := 20) (L' := [(0, .int (xs 2)), (1, .int (xs 4))]) h_m0 (z_at.mk 3 rfl rfl) rfl (zc (a := (xs 4).toInt) (b := 32) rfl rfl (decide_eq_false (by omega))) rfl rfl ?_
                    refine w_p h_m0 2 (pc' := 25) (L' := []) (st' := [.int (1 : Int32)]) rfl ?_
                    refine w_ri h_m0 (z_at.mk 1 rfl rfl) rfl rfl ?_
                    show z_W 998 1 13 [(0, .int (xs 1)), (1, .int (xs 2)), (2, .int (xs 3)), (3, .int (xs 4))] [.int (1 : Int32)] m _
                    refine w_p h_m1 3 (pc' := 18) (L' := [(0, .int (xs 1)), (1, .int (xs 2)), (2, .int (xs 3)), (3, .int (xs 4))]) (st' := [.int (xs 2), .int (xs 1)]) rfl ?_
                    by_cases c_10 : (xs 1).toInt ≤ (xs 2).toInt
                    · refine w_f2 (pc' := 21) (L' := [(0, .int (xs 1)), (1, .int (xs 2)), (2, .int (xs 3)), (3, .int (xs 4))]) h_m1 (z_at.mk 3 rfl rfl) rfl (zc (a := (xs 1).toInt) (b := (xs 2).toInt) rfl rfl (decide_eq_false (by omega))) rfl rfl ?_
                      refine w_p h_m1 2 (pc' := 23) (L' := [(0, .int (xs 1)), (1, .int (xs 2)), (2, .int (xs 3)), (3, .int (xs 4))]) (st' := [.int (xs 4), .int (xs 3)]) rfl ?_
                      by_cases c_11 : (xs 3).toInt ≤ (xs 4).toInt
                      · refine w_f2 (pc' := 26) (L' := [(0, .int (xs 1)), (1, .int (xs 2)), (2, .int (xs 3)), (3, .int (xs 4))]) h_m1 (z_at.mk 3 rfl rfl) rfl (zc (a := (xs 3).toInt) (b := (xs 4).toInt) rfl rfl (decide_eq_false (by omega))) rfl rfl ?_
                        refine w_p h_m1 2 (pc' := 31) (L' := []) (st' := [.int (1 : Int32)]) rfl ?_
                        refine w_ri h_m1 (z_at.mk 1 rfl rfl) rfl rfl ?_
                        show z_W 999 143 26 [(0, .ref 39), (1, .int (xs 1)), (2, .int (xs 2)), (3, .int (xs 3)), (4, .int (xs 4))] [.int (1 : Int32)] m _
                        refine w_p h_m143 2 (pc' := 33) (L' := [(0, .ref 39), (1, .int (xs 1)), (2, .int (xs 2)), (3, .int (xs 3)), (4, .int (xs 4))]) (st' := [.ref 39]) rfl ?_
                        refine w_gf H (pc' := 36) (L' := [(0, .ref 39), (1, .int (xs 1)), (2, .int (xs 2)), (3, .int (xs 3)), (4, .int (xs 4))]) h_m143 (z_at.mk 3 rfl rfl) rfl (u := .ref 40) rfl rfl rfl ?_
                        refine w_gf H (pc' := 39) (L' := [(0, .ref 39), (1, .int (xs 1)), (2, .int (xs 2)), (3, .int (xs 3)), (4, .int (xs 4))]) h_m143 (z_at.mk 3 rfl rfl) rfl (u := .ref 63) rfl rfl rfl ?_
                        refine w_p h_m143 4 (pc' := 44) (L' := [(0, .ref 39), (1, .int (xs 1)), (2, .int (xs 2)), (3, .int (xs 3)), (4, .int (xs 4))]) (st' := [.int (xs 4), .int (xs 3), .int (xs 2), .int (xs 1), .ref 63]) rfl ?_
                        refine w_cs (As := [.int (xs 1), .int (xs 2), .int (xs 3), .int (xs 4)]) (rest := [.ref 63]) (j := 2) (L0 := [(0, .int (xs 1)), (1, .int (xs 2)), (2, .int (xs 3)), (3, .int (xs 4))]) (pc' := 47) (L' := [(0, .ref 39), (1, .int (xs 1)), (2, .int (xs 2)), (3, .int (xs 3)), (4, .int (xs 4))]) h_m143 (z_at.mk 3 rfl rfl) (Or.inl ⟨rfl, rfl⟩) rfl rfl rfl rfl rfl ?_
                        refine w_p h_m2 13 (pc' := 15) (L' := [(0, .int (xs 1)), (1, .int (xs 2)), (2, .int (xs 3)), (3, .int (xs 4))]) (st' := [.int ((((xs 1) ||| ((xs 2) <<< ((5 : Int32) &&& 31))) ||| ((xs 3) <<< ((10 : Int32) &&& 31))) ||| ((xs 4) <<< ((15 : Int32) &&& 31)))]) rfl ?_
                        refine w_ri h_m2 (z_at.mk 1 rfl rfl) rfl rfl ?_
                        show z_W 999 143 47 [(0, .ref 39), (1, .int (xs 1)), (2, .int (xs 2)), (3, .int (xs 3)), (4, .int (xs 4))] [.int ((((xs 1) ||| ((xs 2) <<< ((5 : Int32) &&& 31))) ||| ((xs 3) <<< ((10 : Int32) &&& 31))) ||| ((xs 4) <<< ((15 : Int32) &&& 31))), .ref 63] m _
                        refine w_cv (H.t rfl) (pc' := 50) (L' := [(0, .ref 39), (1, .int (xs 1)), (2, .int (xs 2)), (3, .int (xs 3)), (4, .int (xs 4))]) (rest := []) (Ps := [.int ((((xs 1) ||| ((xs 2) <<< ((5 : Int32) &&& 31))) ||| ((xs 3) <<< ((10 : Int32) &&& 31))) ||| ((xs 4) <<< ((15 : Int32) &&& 31)))]) (L0 := [(0, .ref 63), (1, .int ((((xs 1) ||| ((xs 2) <<< ((5 : Int32) &&& 31))) ||| ((xs 3) <<< ((10 : Int32) &&& 31))) ||| ((xs 4) <<< ((15 : Int32) &&& 31))))]) h_m143 (z_at.mk 3 rfl rfl) (Or.inl ⟨rfl, rfl⟩) rfl rfl (by decide) (by decide) rfl rfl rfl rfl rfl rfl (by decide) rfl rfl rfl ?_
                        refine w_p h_m14 1 (pc' := 1) (L' := [(0, .ref 63), (1, .int ((((xs 1) ||| ((xs 2) <<< ((5 : Int32) &&& 31))) ||| ((xs 3) <<< ((10 : Int32) &&& 31))) ||| ((xs 4) <<< ((15 : Int32) &&& 31))))]) (st' := [.ref 63]) rfl ?_
                        refine w_gf H (pc' := 4) (L' := [(0, .ref 63), (1, .int ((((xs 1) ||| ((xs 2) <<< ((5 : Int32) &&& 31))) ||| ((xs 3) <<< ((10 : Int32) &&& 31))) ||| ((xs 4) <<< ((15 : Int32) &&& 31))))]) h_m14 (z_at.mk 3 rfl rfl) rfl (u := .int (0 : Int32)) rfl rfl rfl ?_
                        refine w_p h_m14 2 (pc' := 8) (L' := [(0, .ref 63), (1, .int ((((xs 1) ||| ((xs 2) <<< ((5 : Int32) &&& 31))) ||| ((xs 3) <<< ((10 : Int32) &&& 31))) ||| ((xs 4) <<< ((15 : Int32) &&& 31))))]) (st' := [.ref 63]) rfl ?_
                        refine w_gf H (pc' := 11) (L' := [(0, .ref 63), (1, .int ((((xs 1) ||| ((xs 2) <<< ((5 : Int32) &&& 31))) ||| ((xs 3) <<< ((10 : Int32) &&& 31))) ||| ((xs 4) <<< ((15 : Int32) &&& 31))))]) h_m14 (z_at.mk 3 rfl rfl) rfl (u := .int (0 : Int32)) rfl rfl rfl ?_
                        refine w_p h_m14 1 (pc' := 12) (L' := [(0, .ref 63), (1, .int ((((xs 1) ||| ((xs 2) <<< ((5 : Int32) &&& 31))) ||| ((xs 3) <<< ((10 : Int32) &&& 31))) ||| ((xs 4) <<< ((15 : Int32) &&& 31))))]) (st' := [.ref 63, .int (0 : Int32)]) rfl ?_
                        refine w_gf H (pc' := 15) (L' := [(0, .ref 63), (1, .int ((((xs 1) ||| ((xs 2) <<< ((5 : Int32) &&& 31))) ||| ((xs 3) <<< ((10 : Int32) &&& 31))) ||| ((xs 4) <<< ((15 : Int32) &&& 31))))]) h_m14 (z_at.mk 3 rfl rfl) rfl (u := .ref 64) rfl rfl rfl ?_
                        refine w_len H (t := 0) (n := 10) (x := (10 : Int32)) (pc' := 16) (L' := [(0, .ref 63), (1, .int ((((xs 1) ||| ((xs 2) <<< ((5 : Int32) &&& 31))) ||| ((xs 3) <<< ((10 : Int32) &&& 31))) ||| ((xs 4) <<< ((15 : Int32) &&& 31))))]) h_m14 (z_at.mk 1 rfl rfl) rfl (by decide) rfl rfl rfl ?_
                        refine w_p h_m14 2 (pc' := 22) (L' := [(0, .ref 63), (1, .int ((((xs 1) ||| ((xs 2) <<< ((5 : Int32) &&& 31))) ||| ((xs 3) <<< ((10 : Int32) &&& 31))) ||| ((xs 4) <<< ((15 : Int32) &&& 31))))]) (st' := [.ref 63]) rfl ?_
                        refine w_gf H (pc' := 25) (L' := [(0, .ref 63), (1, .int ((((xs 1) ||| ((xs 2) <<< ((5 : Int32) &&& 31))) ||| ((xs 3) <<< ((10 : Int32) &&& 31))) ||| ((xs 4) <<< ((15 : Int32) &&& 31))))]) h_m14 (z_at.mk 3 rfl rfl) rfl (u := .ref 64) rfl rfl rfl ?_
                        refine w_p h_m14 1 (pc' := 26) (L' := [(0, .ref 63), (1, .int ((((xs 1) ||| ((xs 2) <<< ((5 : Int32) &&& 31))) ||| ((xs 3) <<< ((10 : Int32) &&& 31))) ||| ((xs 4) <<< ((15 : Int32) &&& 31))))]) (st' := [.ref 63, .ref 64]) rfl ?_
                        refine w_gf H (pc' := 29) (L' := [(0, .ref 63), (1, .int ((((xs 1) ||| ((xs 2) <<< ((5 : Int32) &&& 31))) ||| ((xs 3) <<< ((10 : Int32) &&& 31))) ||| ((xs 4) <<< ((15 : Int32) &&& 31))))]) h_m14 (z_at.mk 3 rfl rfl) rfl (u := .int (0 : Int32)) rfl rfl rfl ?_
                        refine w_p h_m14 1 (pc' := 30) (L' := [(0, .ref 63), (1, .int ((((xs 1) ||| ((xs 2) <<< ((5 : Int32) &&& 31))) ||| ((xs 3) <<< ((10 : Int32) &&& 31))) ||| ((xs 4) <<< ((15 : Int32) &&& 31))))]) (st' := [.int ((((xs 1) ||| ((xs 2) <<< ((5 : Int32) &&& 31))) ||| ((xs 3) <<< ((10 : Int32) &&& 31))) ||| ((xs 4) <<< ((15 : Int32) &&& 31))), .int (0 : Int32), .ref 64]) rfl ?_
                        refine w_as H (t := 0) (j := 0) (u := .int ((((xs 1) ||| ((xs 2) <<< ((5 : Int32) &&& 31))) ||| ((xs 3) <<< ((10 : Int32) &&& 31))) ||| ((xs 4) <<< ((15 : Int32) &&& 31)))) (0, 10, [(0, .int ((((xs 1) ||| ((xs 2) <<< ((5 : Int32) &&& 31))) ||| ((xs 3) <<< ((10 : Int32) &&& 31))) ||| ((xs 4) <<< ((15 : Int32) &&& 31))))], some (.int (0 : Int32))) (pc' := 31) (L' := [(0, .ref 63), (1, .int ((((xs 1) ||| ((xs 2) <<< ((5 : Int32) &&& 31))) ||| ((xs 3) <<< ((10 : Int32) &&& 31))) ||| ((xs 4) <<< ((15 : Int32) &&& 31))))]) h_m14 (z_at.mk 1 rfl rfl) rfl rfl (w_ui _ _ (by decide)) rfl rfl rfl rfl ?_
                        clear H m; intro m H
                        refine w_p h_m14 2 (pc' := 33) (L' := [(0, .ref 63), (1, .int ((((xs 1) ||| ((xs 2) <<< ((5 : Int32) &&& 31))) ||| ((xs 3) <<< ((10 : Int32) &&& 31))) ||| ((xs 4) <<< ((15 : Int32) &&& 31))))]) (st' := [.ref 63, .ref 63]) rfl ?_
                        refine w_gf H (pc' := 36) (L' := [(0, .ref 63), (1, .int ((((xs 1) ||| ((xs 2) <<< ((5 : Int32) &&& 31))) ||| ((xs 3) <<< ((10 : Int32) &&& 31))) ||| ((xs 4) <<< ((15 : Int32) &&& 31))))]) h_m14 (z_at.mk 3 rfl rfl) rfl (u := .int (0 : Int32)) rfl rfl rfl ?_
                        refine w_p h_m14 2 (pc' := 38) (L' := [(0, .ref 63), (1, .int ((((xs 1) ||| ((xs 2) <<< ((5 : Int32) &&& 31))) ||| ((xs 3) <<< ((10 : Int32) &&& 31))) ||| ((xs 4) <<< ((15 : Int32) &&& 31))))]) (st' := [.int (1 : Int32), .ref 63]) rfl ?_
                        refine w_pf H (11, 2, [(1, .int (1 : Int32)), (0, .ref 64)], none) (pc' := 41) (L' := [(0, .ref 63), (1, .int ((((xs 1) ||| ((xs 2) <<< ((5 : Int32) &&& 31))) ||| ((xs 3) <<< ((10 : Int32) &&& 31))) ||| ((xs 4) <<< ((15 : Int32) &&& 31))))]) h_m14 (z_at.mk 3 rfl rfl) rfl (by decide) rfl (Or.inl rfl) rfl rfl rfl ?_
                        clear H m; intro m H
                        refine w_p h_m14 1 (pc' := 42) (L' := [(0, .ref 63), (1, .int ((((xs 1) ||| ((xs 2) <<< ((5 : Int32) &&& 31))) ||| ((xs 3) <<< ((10 : Int32) &&& 31))) ||| ((xs 4) <<< ((15 : Int32) &&& 31))))]) (st' := [.int (1 : Int32)]) rfl ?_
                        refine w_ri h_m14 (z_at.mk 1 rfl rfl) rfl rfl ?_
                        show z_W 999 143 50 [(0, .ref 39), (1, .int (xs 1)), (2, .int (xs 2)), (3, .int (xs 3)), (4, .int (xs 4))] [.int (1 : Int32)] m _
                        refine w_p h_m143 2 (pc' := 54) (L' := [(0, .ref 39), (1, .int (xs 1)), (2, .int (xs 2)), (3, .int (xs 3)), (4, .int (xs 4))]) (st' := [.ref 39]) rfl ?_
                        refine w_gf H (pc' := 57) (L' := [(0, .ref 39), (1, .int (xs 1)), (2, .int (xs 2)), (3, .int (xs 3)), (4, .int (xs 4))]) h_m143 (z_at.mk 3 rfl rfl) rfl (u := .ref 40) rfl rfl rfl ?_
                        refine w_gf H (pc' := 60) (L' := [(0, .ref 39), (1, .int (xs 1)), (2, .int (xs 2)), (3, .int (xs 3)), (4, .int (xs 4))]) h_m143 (z_at.mk 3 rfl rfl) rfl (u := .ref 63) rfl rfl rfl ?_
                        refine w_gf H (pc' := 63) (L' := [(0, .ref 39), (1, .int (xs 1)), (2, .int (xs 2)), (3, .int (xs 3)), (4, .int (xs 4))]) h_m143 (z_at.mk 3 rfl rfl) rfl (u := .int (1 : Int32)) rfl rfl rfl ?_
                        refine w_p h_m143 1 (pc' := 68) (L' := []) (st' := [.int (1 : Int32)]) rfl ?_
                        refine w_ri h_m143 (z_at.mk 1 rfl rfl) rfl rfl ?_
                        show z_W 1000 1000 884 [(0, .ref 0), (1, .ref 39), (2, .ref 143), (3, .int (0 : Int32))] [.int (1 : Int32)] m _
                        refine w_p h_m1000 5 (pc' := 889) (L' := [(0, .ref 0), (1, .ref 39), (2, .ref 143), (3, .int (0 : Int32))]) (st' := [.int (1 : Int32), .ref 0, .ref 143, .int (1 : Int32)]) rfl ?_
                        refine w_ae H (j := 1) (pc' := 890) (L' := [(0, .ref 0), (1, .ref 39), (2, .ref 143), (3, .int (0 : Int32))]) h_m1000 (z_at.mk 1 rfl rfl) rfl rfl rfl (by decide) rfl (by decide) rfl rfl rfl ?_
                        refine w_p h_m1000 4 (pc' := 894) (L' := [(0, .ref 0), (1, .ref 39), (2, .ref 143), (3, .int (0 : Int32))]) (st' := [.int (2 : Int32), .ref 0, .int (xs 1), .ref 143, .int (1 : Int32)]) rfl ?_
                        refine w_ae H (j := 2) (pc' := 895) (L' := [(0, .ref 0), (1, .ref 39), (2, .ref 143), (3, .int (0 : Int32))]) h_m1000 (z_at.mk 1 rfl rfl) rfl rfl rfl (by decide) rfl (by decide) rfl rfl rfl ?_
                        refine w_p h_m1000 4 (pc' := 899) (L' := [(0, .ref 0), (1, .ref 39), (2, .ref 143), (3, .int (0 : Int32))]) (st' := [.int (3 : Int32), .ref 0, .int (xs 2), .int (xs 1), .ref 143, .int (1 : Int32)]) rfl ?_
                        refine w_ae H (j := 3) (pc' := 900) (L' := [(0, .ref 0), (1, .ref 39), (2, .ref 143), (3, .int (0 : Int32))]) h_m1000 (z_at.mk 1 rfl rfl) rfl rfl rfl (by decide) rfl (by decide) rfl rfl rfl ?_
                        refine w_p h_m1000 4 (pc' := 904) (L' := [(0, .ref 0), (1, .ref 39), (2, .ref 143), (3, .int (0 : Int32))]) (st' := [.int (4 : Int32), .ref 0, .int (xs 3), .int (xs 2), .int (xs 1), .ref 143, .int (1 : Int32)]) rfl ?_
                        refine w_ae H (j := 4) (pc' := 905) (L' := [(0, .ref 0), (1, .ref 39), (2, .ref 143), (3, .int (0 : Int32))]) h_m1000 (z_at.mk 1 rfl rfl) rfl rfl rfl (by decide) rfl (by decide) rfl rfl rfl ?_
                        refine w_cv (H.t rfl) (pc' := 908) (L' := [(0, .ref 0), (1, .ref 39), (2, .ref 143), (3, .int (0 : Int32))]) (rest := [.int (1 : Int32)]) (Ps := [.int (xs 1), .int (xs 2), .int (xs 3), .int (xs 4)]) (L0 := [(0, .ref 143), (1, .int (xs 1)), (2, .int (xs 2)), (3, .int (xs 3)), (4, .int (xs 4))]) h_m1000 (z_at.mk 3 rfl rfl) (Or.inl ⟨rfl, rfl⟩) rfl rfl (by decide) (by decide) rfl rfl rfl rfl rfl rfl (by decide) rfl rfl rfl ?_
                        refine w_p h_m254 2 (pc' := 2) (L' := [(0, .ref 143), (1, .int (xs 1)), (2, .int (xs 2)), (3, .int (xs 3)), (4, .int (xs 4))]) (st' := [.int (-1 : Int32), .int (xs 1)]) rfl ?_
                        refine w_t2 (pc' := 15) (L' := [(0, .ref 143), (1, .int (xs 1)), (2, .int (xs 2)), (3, .int (xs 3)), (4, .int (xs 4))]) h_m254 (z_at.mk 3 rfl rfl) rfl (zc (a := (xs 1).toInt) (b := (-1)) rfl rfl (decide_eq_true (by omega))) rfl rfl ?_
                        refine w_p h_m254 4 (pc' := 20) (L' := [(0, .ref 143), (1, .int (xs 1)), (2, .int (xs 2)), (3, .int (xs 3)), (4, .int (xs 4))]) (st' := [.int (xs 4), .int (xs 3), .int (xs 2), .int (xs 1)]) rfl ?_
                        refine w_cs (As := [.int (xs 1), .int (xs 2), .int (xs 3), .int (xs 4)]) (rest := []) (j := 164) (L0 := [(0, .int (xs 1)), (1, .int (xs 2)), (2, .int (xs 3)), (3, .int (xs 4))]) (pc' := 23) (L' := [(0, .ref 143), (1, .int (xs 1)), (2, .int (xs 2)), (3, .int (xs 3)), (4, .int (xs 4))]) h_m254 (z_at.mk 3 rfl rfl) (Or.inl ⟨rfl, rfl⟩) rfl rfl rfl rfl rfl ?_
                        refine w_p h_m164 3 (pc' := 4) (L' := [(0, .int (xs 1)), (1, .int (xs 2)), (2, .int (xs 3)), (3, .int (xs 4))]) (st' := [.int (31 : Int32), .int (0 : Int32), .int (xs 1)]) rfl ?_
                        refine w_cs (As := [.int (xs 1), .int (0 : Int32), .int (31 : Int32)]) (rest := []) (j := 159) (L0 := [(0, .int (xs 1)), (1, .int (0 : Int32)), (2, .int (31 : Int32))]) (pc' := 7) (L' := [(0, .int (xs 1)), (1, .int (xs 2)), (2, .int (xs 3)), (3, .int (xs 4))]) h_m164 (z_at.mk 3 rfl rfl) (Or.inl ⟨rfl, rfl⟩) rfl rfl rfl rfl rfl ?_
                        refine w_p h_m159 2 (pc' := 2) (L' := [(0, .int (xs 1)), (1, .int (0 : Int32)), (2, .int (31 : Int32))]) (st' := [.int (0 : Int32), .int (xs 1)]) rfl ?_
                        refine w_f2 (pc' := 5) (L' := [(0, .int (xs 1)), (1, .int (0 : Int32)), (2, .int (31 : Int32))]) h_m159 (z_at.mk 3 rfl rfl) rfl (zc (a := (xs 1).toInt) (b := 0) rfl rfl (decide_eq_false (by omega))) rfl rfl ?_
                        refine w_p h_m159 2 (pc' := 7) (L' := [(0, .int (xs 1)), (1, .int (0 : Int32)), (2, .int (31 : Int32))]) (st' := [.int (31 : Int32), .int (xs 1)]) rfl ?_
                        refine w_f2 (pc' := 10) (L' := [(0, .int (xs 1)), (1, .int (0 : Int32)), (2, .int (31 : Int32))]) h_m159 (z_at.mk 3 rfl rfl) rfl (zc (a := (xs 1).toInt) (b := 31) rfl rfl (decide_eq_false (by omega))) rfl rfl ?_
                        refine w_p h_m159 2 (pc' := 15) (L' := []) (st' := [.int (1 : Int32)]) rfl ?_
                        refine w_ri h_m159 (z_at.mk 1 rfl rfl) rfl rfl ?_
                        show z_W 998 164 7 [(0, .int (xs 1)), (1, .int (xs 2)), (2, .int (xs 3)), (3, .int (xs 4))] [.int (1 : Int32)] m _
                        refine w_p h_m164 4 (pc' := 14) (L' := [(0, .int (xs 1)), (1, .int (xs 2)), (2, .int (xs 3)), (3, .int (xs 4))]) (st' := [.int (31 : Int32), .int (xs 1), .int (xs 2)]) rfl ?_
                        refine w_cs (As := [.int (xs 2), .int (xs 1), .int (31 : Int32)]) (rest := []) (j := 159) (L0 := [(0, .int (xs 2)), (1, .int (xs 1)), (2, .int (31 : Int32))]) (pc' := 17) (L' := [(0, .int (xs 1)), (1, .int (xs 2)), (2, .int (xs 3)), (3, .int (xs 4))]) h_m164 (z_at.mk 3 rfl rfl) (Or.inl ⟨rfl, rfl⟩) rfl rfl rfl rfl rfl ?_
                        refine w_p h_m159 2 (pc' := 2) (L' := [(0, .int (xs 2)), (1, .int (xs 1)), (2, .int (31 : Int32))]) (st' := [.int (xs 1), .int (xs 2)]) rfl ?_
                        refine w_f2 (pc' := 5) (L' := [(0, .int (xs 2)), (1, .int (xs 1)), (2, .int (31 : Int32))]) h_m159 (z_at.mk 3 rfl rfl) rfl (zc (a := (xs 2).toInt) (b := (xs 1).toInt) rfl rfl (decide_eq_false (by omega))) rfl rfl ?_
                        refine w_p h_m159 2 (pc' := 7) (L' := [(0, .int (xs 2)), (1, .int (xs 1)), (2, .int (31 : Int32))]) (st' := [.int (31 : Int32), .int (xs 2)]) rfl ?_
                        refine w_f2 (pc' := 10) (L' := [(0, .int (xs 2)), (1, .int (xs 1)), (2, .int (31 : Int32))]) h_m159 (z_at.mk 3 rfl rfl) rfl (zc (a := (xs 2).toInt) (b := 31) rfl rfl (decide_eq_false (by omega))) rfl rfl ?_
                        refine w_p h_m159 2 (pc' := 15) (L' := []) (st' := [.int (1 : Int32)]) rfl ?_
                        refine w_ri h_m159 (z_at.mk 1 rfl rfl) rfl rfl ?_
                        show z_W 998 164 17 [(0, .int (xs 1)), (1, .int (xs 2)), (2, .int (xs 3)), (3, .int (xs 4))] [.int (1 : Int32)] m _
                        refine w_p h_m164 4 (pc' := 24) (L' := [(0, .int (xs 1)), (1, .int (xs 2)), (2, .int (xs 3)), (3, .int (xs 4))]) (st' := [.int (31 : Int32), .int (0 : Int32), .int (xs 3)]) rfl ?_
                        refine w_cs (As := [.int (xs 3), .int (0 : Int32), .int (31 : Int32)]) (rest := []) (j := 159) (L0 := [(0, .int (xs 3)), (1, .int (0 : Int32)), (2, .int (31 : Int32))]) (pc' := 27) (L' := [(0, .int (xs 1)), (1, .int (xs 2)), (2, .int (xs 3)), (3, .int (xs 4))]) h_m164 (z_at.mk 3 rfl rfl) (Or.inl ⟨rfl, rfl⟩) rfl rfl rfl rfl rfl ?_
                        refine w_p h_m159 2 (pc' := 2) (L' := [(0, .int (xs 3)), (1, .int (0 : Int32)), (2, .int (31 : Int32))]) (st' := [.int (0 : Int32), .int (xs 3)]) rfl ?_
                        refine w_f2 (pc' := 5) (L' := [(0, .int (xs 3)), (1, .int (0 : Int32)), (2, .int (31 : Int32))]) h_m159 (z_at.mk 3 rfl rfl) rfl (zc (a := (xs 3).toInt) (b := 0) rfl rfl (decide_eq_false (by omega))) rfl rfl ?_
                        refine w_p h_m159 2 (pc' := 7) (L' := [(0, .int (xs 3)), (1, .int (0 : Int32)), (2, .int (31 : Int32))]) (st' := [.int (31 : Int32), .int (xs 3)]) rfl ?_
                        refine w_f2 (pc' := 10) (L' := [(0, .int (xs 3)), (1, .int (0 : Int32)), (2, .int (31 : Int32))]) h_m159 (z_at.mk 3 rfl rfl) rfl (zc (a := (xs 3).toInt) (b := 31) rfl rfl (decide_eq_false (by omega))) rfl rfl ?_
                        refine w_p h_m159 2 (pc' := 15) (L' := []) (st' := [.int (1 : Int32)]) rfl ?_
                        refine w_ri h_m159 (z_at.mk 1 rfl rfl) rfl rfl ?_
                        show z_W 998 164 27 [(0, .int (xs 1)), (1, .int (xs 2)), (2, .int (xs 3)), (3, .int (xs 4))] [.int (1 : Int32)] m _
                        refine w_p h_m164 4 (pc' := 34) (L' := [(0, .int (xs 1)), (1, .int (xs 2)), (2, .int (xs 3)), (3, .int (xs 4))]) (st' := [.int (31 : Int32), .int (xs 3), .int (xs 4)]) rfl ?_
                        refine w_cs (As := [.int (xs 4), .int (xs 3), .int (31 : Int32)]) (rest := []) (j := 159) (L0 := [(0, .int (xs 4)), (1, .int (xs 3)), (2, .int (31 : Int32))]) (pc' := 37) (L' := [(0, .int (xs 1)), (1, .int (xs 2)), (2, .int (xs 3)), (3, .int (xs 4))]) h_m164 (z_at.mk 3 rfl rfl) (Or.inl ⟨rfl, rfl⟩) rfl rfl rfl rfl rfl ?_
                        refine w_p h_m159 2 (pc' := 2) (L' := [(0, .int (xs 4)), (1, .int (xs 3)), (2, .int (31 : Int32))]) (st' := [.int (xs 3), .int (xs 4)]) rfl ?_
                        refine w_f2 (pc' := 5) (L' := [(0, .int (xs 4)), (1, .int (xs 3)), (2, .int (31 : Int32))]) h_m159 (z_at.mk 3 rfl rfl) rfl (zc (a := (xs 4).toInt) (b := (xs 3).toInt) rfl rfl (decide_eq_false (by omega))) rfl rfl ?_
                        refine w_p h_m159 2 (pc' := 7) (L' := [(0, .int (xs 4)), (1, .int (xs 3)), (2, .int (31 : Int32))]) (st' := [.int (31 : Int32), .int (xs 4)]) rfl ?_
                        refine w_f2 (pc' := 10) (L' := [(0, .int (xs 4)), (1, .int (xs 3)), (2, .int (31 : Int32))]) h_m159 (z_at.mk 3 rfl rfl) rfl (zc (a := (xs 4).toInt) (b := 31) rfl rfl (decide_eq_false (by omega))) rfl rfl ?_
                        refine w_p h_m159 2 (pc' := 15) (L' := []) (st' := [.int (1 : Int32)]) rfl ?_
                        refine w_ri h_m159 (z_at.mk 1 rfl rfl) rfl rfl ?_
                        show z_W 998 164 37 [(0, .int (xs 1)), (1, .int (xs 2)), (2, .int (xs 3)), (3, .int (xs 4))] [.int (1 : Int32)] m _
                        refine w_p h_m164 3 (pc' := 45) (L' := []) (st' := [.int (1 : Int32)]) rfl ?_
                        refine w_ri h_m164 (z_at.mk 1 rfl rfl) rfl rfl ?_
                        show z_W 999 254 23 [(0, .ref 143), (1, .int (xs 1)), (2, .int (xs 2)), (3, .int (xs 3)), (4, .int (xs 4))] [.int (1 : Int32)] m _
                        refine w_p h_m254 2 (pc' := 30) (L' := [(0, .ref 143), (1, .int (xs 1)), (2, .int (xs 2)), (3, .int (xs 3)), (4, .int (xs 4))]) (st' := [.ref 143]) rfl ?_
                        refine w_gf H (pc' := 33) (L' := [(0, .ref 143), (1, .int (xs 1)), (2, .int (xs 2)), (3, .int (xs 3)), (4, .int (xs 4))]) h_m254 (z_at.mk 3 rfl rfl) rfl (u := .ref 144) rfl rfl rfl ?_
                        refine w_p h_m254 1 (pc' := 35) (L' := [(0, .ref 143), (1, .int (xs 1)), (2, .int (xs 2)), (3, .int (xs 3)), (4, .int (xs 4))]) (st' := [.int (9 : Int32), .ref 144]) rfl ?_
                        refine w_al H (t := 0) (j := 9) (pc' := 36) (L' := [(0, .ref 143), (1, .int (xs 1)), (2, .int (xs 2)), (3, .int (xs 3)), (4, .int (xs 4))]) h_m254 (z_at.mk 1 rfl rfl) rfl rfl rfl (u := .int (0 : Int32)) rfl rfl rfl ?_
                        refine w_p h_m254 3 (pc' := 45) (L' := [(0, .ref 143), (1, .int (xs 1)), (2, .int (xs 2)), (3, .int (xs 3)), (4, .int (xs 4))]) (st' := [.ref 143]) rfl ?_
                        refine w_gf H (pc' := 48) (L' := [(0, .ref 143), (1, .int (xs 1)), (2, .int (xs 2)), (3, .int (xs 3)), (4, .int (xs 4))]) h_m254 (z_at.mk 3 rfl rfl) rfl (u := .ref 144) rfl rfl rfl ?_
                        refine w_p h_m254 3 (pc' := 53) (L' := [(0, .ref 143), (1, .int (xs 1)), (2, .int (xs 2)), (3, .int (xs 3)), (4, .int (xs 4))]) (st' := [.ref 143, .int (4 : Int32), .int (260 : Int32), .ref 144]) rfl ?_
                        refine w_gf H (pc' := 56) (L' := [(0, .ref 143), (1, .int (xs 1)), (2, .int (xs 2)), (3, .int (xs 3)), (4, .int (xs 4))]) h_m254 (z_at.mk 3 rfl rfl) rfl (u := .ref 144) rfl rfl rfl ?_
                        refine w_p h_m254 1 (pc' := 58) (L' := [(0, .ref 143), (1, .int (xs 1)), (2, .int (xs 2)), (3, .int (xs 3)), (4, .int (xs 4))]) (st' := [.int (9 : Int32), .ref 144, .int (4 : Int32), .int (260 : Int32), .ref 144]) rfl ?_
                        refine w_al H (t := 0) (j := 9) (pc' := 59) (L' := [(0, .ref 143), (1, .int (xs 1)), (2, .int (xs 2)), (3, .int (xs 3)), (4, .int (xs 4))]) h_m254 (z_at.mk 1 rfl rfl) rfl rfl rfl (u := .int (0 : Int32)) rfl rfl rfl ?_
                        refine w_p h_m254 6 (pc' := 66) (L' := [(0, .ref 143), (1, .int (xs 1)), (2, .int (xs 2)), (3, .int (xs 3)), (4, .int (xs 4))]) (st' := [.int (xs 4), .int (xs 3), .int (xs 2), .int (xs 1), .int (260 : Int32), .ref 144]) rfl ?_
                        refine w_cs (As := [.ref 144, .int (260 : Int32), .int (xs 1), .int (xs 2), .int (xs 3), .int (xs 4)]) (rest := []) (j := 165) (L0 := [(0, .ref 144), (1, .int (260 : Int32)), (2, .int (xs 1)), (3, .int (xs 2)), (4, .int (xs 3)), (5, .int (xs 4))]) (pc' := 69) (L' := [(0, .ref 143), (1, .int (xs 1)), (2, .int (xs 2)), (3, .int (xs 3)), (4, .int (xs 4))]) h_m254 (z_at.mk 3 rfl rfl) (Or.inl ⟨rfl, rfl⟩) rfl rfl rfl rfl rfl ?_
                        refine w_p h_m165 3 (pc' := 3) (L' := [(0, .ref 144), (1, .int (260 : Int32)), (2, .int (xs 1)), (3, .int (xs 2)), (4, .int (xs 3)), (5, .int (xs 4))]) (st' := [.int (xs 1), .int (260 : Int32), .ref 144]) rfl ?_
                        refine w_as H (t := 0) (j := 260) (u := .int (xs 1)) (0, 2740, [(260, .int (xs 1)), (17, .int (1024 : Int32)), (16, .int (1 : Int32)), (15, .int (1 : Int32)), (13, .int (12 : Int32)), (12, .int (40 : Int32)), (11, .int (10 : Int32))], some (.int (0 : Int32))) (pc' := 4) (L' := [(0, .ref 144), (1, .int (260 : Int32)), (2, .int (xs 1)), (3, .int (xs 2)), (4, .int (xs 3)), (5, .int (xs 4))]) h_m165 (z_at.mk 1 rfl rfl) rfl rfl (w_ui _ _ (by decide)) rfl rfl rfl rfl ?_
                        clear H m; intro m H
                        refine w_p h_m165 5 (pc' := 9) (L' := [(0, .ref 144), (1, .int (260 : Int32)), (2, .int (xs 1)), (3, .int (xs 2)), (4, .int (xs 3)), (5, .int (xs 4))]) (st' := [.int (xs 2), .int (261 : Int32), .ref 144]) rfl ?_
                        refine w_as H (t := 0) (j := 261) (u := .int (xs 2)) (0, 2740, [(261, .int (xs 2)), (260, .int (xs 1)), (17, .int (1024 : Int32)), (16, .int (1 : Int32)), (15, .int (1 : Int32)), (13, .int (12 : Int32)), (12, .int (40 : Int32)), (11, .int (10 : Int32))], some (.int (0 : Int32))) (pc' := 10) (L' := [(0, .ref 144), (1, .int (260 : Int32)), (2, .int (xs 1)), (3, .int (xs 2)), (4, .int (xs 3)), (5, .int (xs 4))]) h_m165 (z_at.mk 1 rfl rfl) rfl rfl (w_ui _ _ (by decide)) rfl rfl rfl rfl ?_
                        clear H m; intro m H
                        refine w_p h_m165 5 (pc' := 16) (L' := [(0, .ref 144), (1, .int (260 : Int32)), (2, .int (xs 1)), (3, .int (xs 2)), (4, .int (xs 3)), (5, .int (xs 4))]) (st' := [.int (xs 3), .int (262 : Int32), .ref 144]) rfl ?_
                        refine w_as H (t := 0) (j := 262) (u := .int (xs 3)) (0, 2740, [(262, .int (xs 3)), (261, .int (xs 2)), (260, .int (xs 1)), (17, .int (1024 : Int32)), (16, .int (1 : Int32)), (15, .int (1 : Int32)), (13, .int (12 : Int32)), (12, .int (40 : Int32)), (11, .int (10 : Int32))], some (.int (0 : Int32))) (pc' := 17) (L' := [(0, .ref 144), (1, .int (260 : Int32)), (2, .int (xs 1)), (3, .int (xs 2)), (4, .int (xs 3)), (5, .int (xs 4))]) h_m165 (z_at.mk 1 rfl rfl) rfl rfl (w_ui _ _ (by decide)) rfl rfl rfl rfl ?_
                        clear H m; intro m H
                        refine w_p h_m165 5 (pc' := 23) (L' := [(0, .ref 144), (1, .int (260 : Int32)), (2, .int (xs 1)), (3, .int (xs 2)), (4, .int (xs 3)), (5, .int (xs 4))]) (st' := [.int (xs 4), .int (263 : Int32), .ref 144]) rfl ?_
                        refine w_as H (t := 0) (j := 263) (u := .int (xs 4)) (0, 2740, [(263, .int (xs 4)), (262, .int (xs 3)), (261, .int (xs 2)), (260, .int (xs 1)), (17, .int (1024 : Int32)), (16, .int (1 : Int32)), (15, .int (1 : Int32)), (13, .int (12 : Int32)), (12, .int (40 : Int32)), (11, .int (10 : Int32))], some (.int (0 : Int32))) (pc' := 24) (L' := [(0, .ref 144), (1, .int (260 : Int32)), (2, .int (xs 1)), (3, .int (xs 2)), (4, .int (xs 3)), (5, .int (xs 4))]) h_m165 (z_at.mk 1 rfl rfl) rfl rfl (w_ui _ _ (by decide)) rfl rfl rfl rfl ?_
                        clear H m; intro m H
                        refine w_rv h_m165 (z_at.mk 1 rfl rfl) rfl ?_
                        show z_W 999 254 69 [(0, .ref 143), (1, .int (xs 1)), (2, .int (xs 2)), (3, .int (xs 3)), (4, .int (xs 4))] [] m _
                        refine w_p h_m254 1 (pc' := 70) (L' := [(0, .ref 143), (1, .int (xs 1)), (2, .int (xs 2)), (3, .int (xs 3)), (4, .int (xs 4))]) (st' := [.ref 143]) rfl ?_
                        refine w_gf H (pc' := 73) (L' := [(0, .ref 143), (1, .int (xs 1)), (2, .int (xs 2)), (3, .int (xs 3)), (4, .int (xs 4))]) h_m254 (z_at.mk 3 rfl rfl) rfl (u := .ref 144) rfl rfl rfl ?_
                        refine w_p h_m254 2 (pc' := 76) (L' := [(0, .ref 143), (1, .int (xs 1)), (2, .int (xs 2)), (3, .int (xs 3)), (4, .int (xs 4))]) (st' := [.int (9 : Int32), .ref 144, .int (9 : Int32), .ref 144]) rfl ?_
                        refine w_al H (t := 0) (j := 9) (pc' := 77) (L' := [(0, .ref 143), (1, .int (xs 1)), (2, .int (xs 2)), (3, .int (xs 3)), (4, .int (xs 4))]) h_m254 (z_at.mk 1 rfl rfl) rfl rfl rfl (u := .int (0 : Int32)) rfl rfl rfl ?_
                        refine w_p h_m254 2 (pc' := 79) (L' := [(0, .ref 143), (1, .int (xs 1)), (2, .int (xs 2)), (3, .int (xs 3)), (4, .int (xs 4))]) (st' := [.int (1 : Int32), .int (9 : Int32), .ref 144]) rfl ?_
                        refine w_as H (t := 0) (j := 9) (u := .int (1 : Int32)) (0, 2740, [(9, .int (1 : Int32)), (263, .int (xs 4)), (262, .int (xs 3)), (261, .int (xs 2)), (260, .int (xs 1)), (17, .int (1024 : Int32)), (16, .int (1 : Int32)), (15, .int (1 : Int32)), (13, .int (12 : Int32)), (12, .int (40 : Int32)), (11, .int (10 : Int32))], some (.int (0 : Int32))) (pc' := 80) (L' := [(0, .ref 143), (1, .int (xs 1)), (2, .int (xs 2)), (3, .int (xs 3)), (4, .int (xs 4))]) h_m254 (z_at.mk 1 rfl rfl) rfl rfl (w_ui _ _ (by decide)) rfl rfl rfl rfl ?_
                        clear H m; intro m H
                        refine w_p h_m254 1 (pc' := 81) (L' := [(0, .ref 143), (1, .int (xs 1)), (2, .int (xs 2)), (3, .int (xs 3)), (4, .int (xs 4))]) (st' := [.ref 143]) rfl ?_
                        refine w_gf H (pc' := 84) (L' := [(0, .ref 143), (1, .int (xs 1)), (2, .int (xs 2)), (3, .int (xs 3)), (4, .int (xs 4))]) h_m254 (z_at.mk 3 rfl rfl) rfl (u := .ref 144) rfl rfl rfl ?_
                        refine w_p h_m254 1 (pc' := 86) (L' := [(0, .ref 143), (1, .int (xs 1)), (2, .int (xs 2)), (3, .int (xs 3)), (4, .int (xs 4))]) (st' := [.int (9 : Int32), .ref 144]) rfl ?_
                        refine w_al H (t := 0) (j := 9) (pc' := 87) (L' := [(0, .ref 143), (1, .int (xs 1)), (2, .int (xs 2)), (3, .int (xs 3)), (4, .int (xs 4))]) h_m254 (z_at.mk 1 rfl rfl) rfl rfl rfl (u := .int (1 : Int32)) rfl rfl rfl ?_
                        refine w_ri h_m254 (z_at.mk 1 rfl rfl) rfl rfl ?_
                        show z_W 1000 1000 908 [(0, .ref 0), (1, .ref 39), (2, .ref 143), (3, .int (0 : Int32))] [.int (1 : Int32), .int (1 : Int32)] m _
                        refine w_p h_m1000 5 (pc' := 20) (L' := [(0, .ref 0), (1, .ref 39), (2, .ref 143), (3, .int (6 : Int32))]) (st' := [.ref 0, .int (6 : Int32)]) rfl ?_
                        refine w_lene H (x := (6 : Int32)) (pc' := 21) (L' := [(0, .ref 0), (1, .ref 39), (2, .ref 143), (3, .int (6 : Int32))]) h_m1000 (z_at.mk 1 rfl rfl) (by decide) rfl (by decide) rfl rfl rfl ?_
                        refine w_p h_m1000 4 (pc' := 1381) (L' := [(0, .ref 0), (1, .ref 39), (2, .ref 143), (3, .int (6 : Int32))]) (st' := [.int (1 : Int32)]) rfl ?_
                        refine w_ri h_m1000 (z_at.mk 1 rfl rfl) rfl rfl ?_
                        exact hQ _ _ _ _ H (by decide) (by decide)
                      · refine w_t2 (pc' := 30) (L' := []) h_m1 (z_at.mk 3 rfl rfl) rfl (zc (a := (xs 3).toInt) (b := (xs 4).toInt) rfl rfl (decide_eq_true (by omega))) rfl rfl ?_
                        refine w_p h_m1 1 (pc' := 31) (L' := []) (st' := [.int (0 : Int32)]) rfl ?_
                        refine w_ri h_m1 (z_at.mk 1 rfl rfl) rfl rfl ?_
                        show z_W 999 143 26 [(0, .ref 39), (1, .int (xs 1)), (2, .int (xs 2)), (3, .int (xs 3)), (4, .int (xs 4))] [.int (0 : Int32)] m _
                        refine w_p h_m143 2 (pc' := 31) (L' := [(0, .ref 39), (1, .int (xs 1)), (2, .int (xs 2)), (3, .int (xs 3)), (4, .int (xs 4))]) (st' := [.int (-2 : Int32)]) rfl ?_
                        refine w_ri h_m143 (z_at.mk 1 rfl rfl) rfl rfl ?_
                        show z_W 1000 1000 884 [(0, .ref 0), (1, .ref 39), (2, .ref 143), (3, .int (0 : Int32))] [.int (-2 : Int32)] m _
                        refine w_p h_m1000 5 (pc' := 889) (L' := [(0, .ref 0), (1, .ref 39), (2, .ref 143), (3, .int (0 : Int32))]) (st' := [.int (1 : Int32), .ref 0, .ref 143, .int (-2 : Int32)]) rfl ?_
                        refine w_ae H (j := 1) (pc' := 890) (L' := [(0, .ref 0), (1, .ref 39), (2, .ref 143), (3, .int (0 : Int32))]) h_m1000 (z_at.mk 1 rfl rfl) rfl rfl rfl (by decide) rfl (by decide) rfl rfl rfl ?_
                        refine w_p h_m1000 4 (pc' := 894) (L' := [(0, .ref 0), (1, .ref 39), (2, .ref 143), (3, .int (0 : Int32))]) (st' := [.int (2 : Int32), .ref 0, .int (xs 1), .ref 143, .int (-2 : Int32)]) rfl ?_
                        refine w_ae H (j := 2) (pc' := 895) (L' := [(0, .ref 0), (1, .ref 39), (2, .ref 143), (3, .int (0 : Int32))]) h_m1000 (z_at.mk 1 rfl rfl) rfl rfl rfl (by decide) rfl (by decide) rfl rfl rfl ?_
                        refine w_p h_m1000 4 (pc' := 899) (L' := [(0, .ref 0), (1, .ref 39), (2, .ref 143), (3, .int (0 : Int32))]) (st' := [.int (3 : Int32), .ref 0, .int (xs 2), .int (xs 1), .ref 143, .int (-2 : Int32)]) rfl ?_
                        refine w_ae H (j := 3) (pc' := 900) (L' := [(0, .ref 0), (1, .ref 39), (2, .ref 143), (3, .int (0 : Int32))]) h_m1000 (z_at.mk 1 rfl rfl) rfl rfl rfl (by decide) rfl (by decide) rfl rfl rfl ?_
                        refine w_p h_m1000 4 (pc' := 904) (L' := [(0, .ref 0), (1, .ref 39), (2, .ref 143), (3, .int (0 : Int32))]) (st' := [.int (4 : Int32), .ref 0, .int (xs 3), .int (xs 2), .int (xs 1), .ref 143, .int (-2 : Int32)]) rfl ?_
                        refine w_ae H (j := 4) (pc' := 905) (L' := [(0, .ref 0), (1, .ref 39), (2, .ref 143), (3, .int (0 : Int32))]) h_m1000 (z_at.mk 1 rfl rfl) rfl rfl rfl (by decide) rfl (by decide) rfl rfl rfl ?_
                        refine w_cv (H.t rfl) (pc' := 908) (L' := [(0, .ref 0), (1, .ref 39), (2, .ref 143), (3, .int (0 : Int32))]) (rest := [.int (-2 : Int32)]) (Ps := [.int (xs 1), .int (xs 2), .int (xs 3), .int (xs 4)]) (L0 := [(0, .ref 143), (1, .int (xs 1)), (2, .int (xs 2)), (3, .int (xs 3)), (4, .int (xs 4))]) h_m1000 (z_at.mk 3 rfl rfl) (Or.inl ⟨rfl, rfl⟩) rfl rfl (by decide) (by decide) rfl rfl rfl rfl rfl rfl (by decide) rfl rfl rfl ?_
                        refine w_p h_m254 2 (pc' := 2) (L' := [(0, .ref 143), (1, .int (xs 1)), (2, .int (xs 2)), (3, .int (xs 3)), (4, .int (xs 4))]) (st' := [.int (-1 : Int32), .int (xs 1)]) rfl ?_
                        refine w_t2 (pc' := 15) (L' := [(0, .ref 143), (1, .int (xs 1)), (2, .int (xs 2)), (3, .int (xs 3)), (4, .int (xs 4))]) h_m254 (z_at.mk 3 rfl rfl) rfl (zc (a := (xs 1).toInt) (b := (-1)) rfl rfl (decide_eq_true (by omega))) rfl rfl ?_
                        refine w_p h_m254 4 (pc' := 20) (L' := [(0, .ref 143), (1, .int (xs 1)), (2, .int (xs 2)), (3, .int (xs 3)), (4, .int (xs 4))]) (st' := [.int (xs 4), .int (xs 3), .int (xs 2), .int (xs 1)]) rfl ?_
                        refine w_cs (As := [.int (xs 1), .int (xs 2), .int (xs 3), .int (xs 4)]) (rest := []) (j := 164) (L0 := [(0, .int (xs 1)), (1, .int (xs 2)), (2, .int (xs 3)), (3, .int (xs 4))]) (pc' := 23) (L' := [(0, .ref 143), (1, .int (xs 1)), (2, .int (xs 2)), (3, .int (xs 3)), (4, .int (xs 4))]) h_m254 (z_at.mk 3 rfl rfl) (Or.inl ⟨rfl, rfl⟩) rfl rfl rfl rfl rfl ?_
                        refine w_p h_m164 3 (pc' := 4) (L' := [(0, .int (xs 1)), (1, .int (xs 2)), (2, .int (xs 3)), (3, .int (xs 4))]) (st' := [.int (31 : Int32), .int (0 : Int32), .int (xs 1)]) rfl ?_
                        refine w_cs (As := [.int (xs 1), .int (0 : Int32), .int (31 : Int32)]) (rest := []) (j := 159) (L0 := [(0, .int (xs 1)), (1, .int (0 : Int32)), (2, .int (31 : Int32))]) (pc' := 7) (L' := [(0, .int (xs 1)), (1, .int (xs 2)), (2, .int (xs 3)), (3, .int (xs 4))]) h_m164 (z_at.mk 3 rfl rfl) (Or.inl ⟨rfl, rfl⟩) rfl rfl rfl rfl rfl ?_
                        refine w_p h_m159 2 (pc' := 2) (L' := [(0, .int (xs 1)), (1, .int (0 : Int32)), (2, .int (31 : Int32))]) (st' := [.int (0 : Int32), .int (xs 1)]) rfl ?_
                        refine w_f2 (pc' := 5) (L' := [(0, .int (xs 1)), (1, .int (0 : Int32)), (2, .int (31 : Int32))]) h_m159 (z_at.mk 3 rfl rfl) rfl (zc (a := (xs 1).toInt) (b := 0) rfl rfl (decide_eq_false (by omega))) rfl rfl ?_
                        refine w_p h_m159 2 (pc' := 7) (L' := [(0, .int (xs 1)), (1, .int (0 : Int32)), (2, .int (31 : Int32))]) (st' := [.int (31 : Int32), .int (xs 1)]) rfl ?_
                        refine w_f2 (pc' := 10) (L' := [(0, .int (xs 1)), (1, .int (0 : Int32)), (2, .int (31 : Int32))]) h_m159 (z_at.mk 3 rfl rfl) rfl (zc (a := (xs 1).toInt) (b := 31) rfl rfl (decide_eq_false (by omega))) rfl rfl ?_
                        refine w_p h_m159 2 (pc' := 15) (L' := []) (st' := [.int (1 : Int32)]) rfl ?_
                        refine w_ri h_m159 (z_at.mk 1 rfl rfl) rfl rfl ?_
                        show z_W 998 164 7 [(0, .int (xs 1)), (1, .int (xs 2)), (2, .int (xs 3)), (3, .int (xs 4))] [.int (1 : Int32)] m _
                        refine w_p h_m164 4 (pc' := 14) (L' := [(0, .int (xs 1)), (1, .int (xs 2)), (2, .int (xs 3)), (3, .int (xs 4))]) (st' := [.int (31 : Int32), .int (xs 1), .int (xs 2)]) rfl ?_
                        refine w_cs (As := [.int (xs 2), .int (xs 1), .int (31 : Int32)]) (rest := []) (j := 159) (L0 := [(0, .int (xs 2)), (1, .int (xs 1)), (2, .int (31 : Int32))]) (pc' := 17) (L' := [(0, .int (xs 1)), (1, .int (xs 2)), (2, .int (xs 3)), (3, .int (xs 4))]) h_m164 (z_at.mk 3 rfl rfl) (Or.inl ⟨rfl, rfl⟩) rfl rfl rfl rfl rfl ?_
                        refine w_p h_m159 2 (pc' := 2) (L' := [(0, .int (xs 2)), (1, .int (xs 1)), (2, .int (31 : Int32))]) (st' := [.int (xs 1), .int (xs 2)]) rfl ?_
                        refine w_f2 (pc' := 5) (L' := [(0, .int (xs 2)), (1, .int (xs 1)), (2, .int (31 : Int32))]) h_m159 (z_at.mk 3 rfl rfl) rfl (zc (a := (xs 2).toInt) (b := (xs 1).toInt) rfl rfl (decide_eq_false (by omega))) rfl rfl ?_
                        refine w_p h_m159 2 (pc' := 7) (L' := [(0, .int (xs 2)), (1, .int (xs 1)), (2, .int (31 : Int32))]) (st' := [.int (31 : Int32), .int (xs 2)]) rfl ?_
                        refine w_f2 (pc' := 10) (L' := [(0, .int (xs 2)), (1, .int (xs 1)), (2, .int (31 : Int32))]) h_m159 (z_at.mk 3 rfl rfl) rfl (zc (a := (xs 2).toInt) (b := 31) rfl rfl (decide_eq_false (by omega))) rfl rfl ?_
                        refine w_p h_m159 2 (pc' := 15) (L' := []) (st' := [.int (1 : Int32)]) rfl ?_
                        refine w_ri h_m159 (z_at.mk 1 rfl rfl) rfl rfl ?_
                        show z_W 998 164 17 [(0, .int (xs 1)), (1, .int (xs 2)), (2, .int (xs 3)), (3, .int (xs 4))] [.int (1 : Int32)] m _
                        refine w_p h_m164 4 (pc' := 24) (L' := [(0, .int (xs 1)), (1, .int (xs 2)), (2, .int (xs 3)), (3, .int (xs 4))]) (st' := [.int (31 : Int32), .int (0 : Int32), .int (xs 3)]) rfl ?_
                        refine w_cs (As := [.int (xs 3), .int (0 : Int32), .int (31 : Int32)]) (rest := []) (j := 159) (L0 := [(0, .int (xs 3)), (1, .int (0 : Int32)), (2, .int (31 : Int32))]) (pc' := 27) (L' := [(0, .int (xs 1)), (1, .int (xs 2)), (2, .int (xs 3)), (3, .int (xs 4))]) h_m164 (z_at.mk 3 rfl rfl) (Or.inl ⟨rfl, rfl⟩) rfl rfl rfl rfl rfl ?_
                        refine w_p h_m159 2 (pc' := 2) (L' := [(0, .int (xs 3)), (1, .int (0 : Int32)), (2, .int (31 : Int32))]) (st' := [.int (0 : Int32), .int (xs 3)]) rfl ?_
                        refine w_f2 (pc' := 5) (L' := [(0, .int (xs 3)), (1, .int (0 : Int32)), (2, .int (31 : Int32))]) h_m159 (z_at.mk 3 rfl rfl) rfl (zc (a := (xs 3).toInt) (b := 0) rfl rfl (decide_eq_false (by omega))) rfl rfl ?_
                        refine w_p h_m159 2 (pc' := 7) (L' := [(0, .int (xs 3)), (1, .int (0 : Int32)), (2, .int (31 : Int32))]) (st' := [.int (31 : Int32), .int (xs 3)]) rfl ?_
                        refine w_f2 (pc' := 10) (L' := [(0, .int (xs 3)), (1, .int (0 : Int32)), (2, .int (31 : Int32))]) h_m159 (z_at.mk 3 rfl rfl) rfl (zc (a := (xs 3).toInt) (b := 31) rfl rfl (decide_eq_false (by omega))) rfl rfl ?_
                        refine w_p h_m159 2 (pc' := 15) (L' := []) (st' := [.int (1 : Int32)]) rfl ?_
                        refine w_ri h_m159 (z_at.mk 1 rfl rfl) rfl rfl ?_
                        show z_W 998 164 27 [(0, .int (xs 1)), (1, .int (xs 2)), (2, .int (xs 3)), (3, .int (xs 4))] [.int (1 : Int32)] m _
                        refine w_p h_m164 4 (pc' := 34) (L' := [(0, .int (xs 1)), (1, .int (xs 2)), (2, .int (xs 3)), (3, .int (xs 4))]) (st' := [.int (31 : Int32), .int (xs 3), .int (xs 4)]) rfl ?_
                        refine w_cs (As := [.int (xs 4), .int (xs 3), .int (31 : Int32)]) (rest := []) (j := 159) (L0 := [(0, .int (xs 4)), (1, .int (xs 3)), (2, .int (31 : Int32))]) (pc' := 37) (L' := [(0, .int (xs 1)), (1, .int (xs 2)), (2, .int (xs 3)), (3, .int (xs 4))]) h_m164 (z_at.mk 3 rfl rfl) (Or.inl ⟨rfl, rfl⟩) rfl rfl rfl rfl rfl ?_
                        refine w_p h_m159 2 (pc' := 2) (L' := [(0, .int (xs 4)), (1, .int (xs 3)), (2, .int (31 : Int32))]) (st' := [.int (xs 3), .int (xs 4)]) rfl ?_
                        refine w_t2 (pc' := 14) (L' := []) h_m159 (z_at.mk 3 rfl rfl) rfl (zc (a := (xs 4).toInt) (b := (xs 3).toInt) rfl rfl (decide_eq_true (by omega))) rfl rfl ?_
                        refine w_p h_m159 1 (pc' := 15) (L' := []) (st' := [.int (0 : Int32)]) rfl ?_
                        refine w_ri h_m159 (z_at.mk 1 rfl rfl) rfl rfl ?_
                        show z_W 998 164 37 [(0, .int (xs 1)), (1, .int (xs 2)), (2, .int (xs 3)), (3, .int (xs 4))] [.int (0 : Int32)] m _
                        refine w_p h_m164 2 (pc' := 45) (L' := []) (st' := [.int (0 : Int32)]) rfl ?_
                        refine w_ri h_m164 (z_at.mk 1 rfl rfl) rfl rfl ?_
                        show z_W 999 254 23 [(0, .ref 143), (1, .int (xs 1)), (2, .int (xs 2)), (3, .int (xs 3)), (4, .int (xs 4))] [.int (0 : Int32)] m _
                        refine w_p h_m254 2 (pc' := 28) (L' := [(0, .ref 143), (1, .int (xs 1)), (2, .int (xs 2)), (3, .int (xs 3)), (4, .int (xs 4))]) (st' := [.int (-2 : Int32)]) rfl ?_
                        refine w_ri h_m254 (z_at.mk 1 rfl rfl) rfl rfl ?_
                        show z_W 1000 1000 908 [(0, .ref 0), (1, .ref 39), (2, .ref 143), (3, .int (0 : Int32))] [.int (-2 : Int32), .int (-2 : Int32)] m _
                        refine w_p h_m1000 5 (pc' := 20) (L' := [(0, .ref 0), (1, .ref 39), (2, .ref 143), (3, .int (6 : Int32))]) (st' := [.ref 0, .int (6 : Int32)]) rfl ?_
                        refine w_lene H (x := (6 : Int32)) (pc' := 21) (L' := [(0, .ref 0), (1, .ref 39), (2, .ref 143), (3, .int (6 : Int32))]) h_m1000 (z_at.mk 1 rfl rfl) (by decide) rfl (by decide) rfl rfl rfl ?_
                        refine w_p h_m1000 4 (pc' := 1381) (L' := [(0, .ref 0), (1, .ref 39), (2, .ref 143), (3, .int (6 : Int32))]) (st' := [.int (1 : Int32)]) rfl ?_
                        refine w_ri h_m1000 (z_at.mk 1 rfl rfl) rfl rfl ?_
                        exact hQ _ _ _ _ H (by decide) (by decide)
                    · refine w_t2 (pc' := 30) (L' := []) h_m1 (z_at.mk 3 rfl rfl) rfl (zc (a := (xs 1).toInt) (b := (xs 2).toInt) rfl rfl (decide_eq_true (by omega))) rfl rfl ?_
                      refine w_p h_m1 1 (pc' := 31) (L' := []) (st' := [.int (0 : Int32)]) rfl ?_
                      refine w_ri h_m1 (z_at.mk 1 rfl rfl) rfl rfl ?_
                      show z_W 999 143 26 [(0, .ref 39), (1, .int (xs 1)), (2, .int (xs 2)), (3, .int (xs 3)), (4, .int (xs 4))] [.int (0 : Int32)] m _
                      refine w_p h_m143 2 (pc' := 31) (L' := [(0, .ref 39), (1, .int (xs 1)), (2, .int (xs 2)), (3, .int (xs 3)), (4, .int (xs 4))]) (st' := [.int (-2 : Int32)]) rfl ?_
                      refine w_ri h_m143 (z_at.mk 1 rfl rfl) rfl rfl ?_
                      show z_W 1000 1000 884 [(0, .ref 0), (1, .ref 39), (2, .ref 143), (3, .int (0 : Int32))] [.int (-2 : Int32)] m _
                      refine w_p h_m1000 5 (pc' := 889) (L' := [(0, .ref 0), (1, .ref 39), (2, .ref 143), (3, .int (0 : Int32))]) (st' := [.int (1 : Int32), .ref 0, .ref 143, .int (-2 : Int32)]) rfl ?_
                      refine w_ae H (j := 1) (pc' := 890) (L' := [(0, .ref 0), (1, .ref 39), (2, .ref 143), (3, .int (0 : Int32))]) h_m1000 (z_at.mk 1 rfl rfl) rfl rfl rfl (by decide) rfl (by decide) rfl rfl rfl ?_
                      refine w_p h_m1000 4 (pc' := 894) (L' := [(0, .ref 0), (1, .ref 39), (2, .ref 143), (3, .int (0 : Int32))]) (st' := [.int (2 : Int32), .ref 0, .int (xs 1), .ref 143, .int (-2 : Int32)]) rfl ?_
                      refine w_ae H (j := 2) (pc' := 895) (L' := [(0, .ref 0), (1, .ref 39), (2, .ref 143), (3, .int (0 : Int32))]) h_m1000 (z_at.mk 1 rfl rfl) rfl rfl rfl (by decide) rfl (by decide) rfl rfl rfl ?_
                      refine w_p h_m1000 4 (pc' := 899) (L' := [(0, .ref 0), (1, .ref 39), (2, .ref 143), (3, .int (0 : Int32))]) (st' := [.int (3 : Int32), .ref 0, .int (xs 2), .int (xs 1), .ref 143, .int (-2 : Int32)]) rfl ?_
                      refine w_ae H (j := 3) (pc' := 900) (L' := [(0, .ref 0), (1, .ref 39), (2, .ref 143), (3, .int (0 : Int32))]) h_m1000 (z_at.mk 1 rfl rfl) rfl rfl rfl (by decide) rfl (by decide) rfl rfl rfl ?_
                      refine w_p h_m1000 4 (pc' := 904) (L' := [(0, .ref 0), (1, .ref 39), (2, .ref 143), (3, .int (0 : Int32))]) (st' := [.int (4 : Int32), .ref 0, .int (xs 3), .int (xs 2), .int (xs 1), .ref 143, .int (-2 : Int32)]) rfl ?_
                      refine w_ae H (j := 4) (pc' := 905) (L' := [(0, .ref 0), (1, .ref 39), (2, .ref 143), (3, .int (0 : Int32))]) h_m1000 (z_at.mk 1 rfl rfl) rfl rfl rfl (by decide) rfl (by decide) rfl rfl rfl ?_
                      refine w_cv (H.t rfl) (pc' := 908) (L' := [(0, .ref 0), (1, .ref 39), (2, .ref 143), (3, .int (0 : Int32))]) (rest := [.int (-2 : Int32)]) (Ps := [.int (xs 1), .int (xs 2), .int (xs 3), .int (xs 4)]) (L0 := [(0, .ref 143), (1, .int (xs 1)), (2, .int (xs 2)), (3, .int (xs 3)), (4, .int (xs 4))]) h_m1000 (z_at.mk 3 rfl rfl) (Or.inl ⟨rfl, rfl⟩) rfl rfl (by decide) (by decide) rfl rfl rfl rfl rfl rfl (by decide) rfl rfl rfl ?_
                      refine w_p h_m254 2 (pc' := 2) (L' := [(0, .ref 143), (1, .int (xs 1)), (2, .int (xs 2)), (3, .int (xs 3)), (4, .int (xs 4))]) (st' := [.int (-1 : Int32), .int (xs 1)]) rfl ?_
                      refine w_t2 (pc' := 15) (L' := [(0, .ref 143), (1, .int (xs 1)), (2, .int (xs 2)), (3, .int (xs 3)), (4, .int (xs 4))]) h_m254 (z_at.mk 3 rfl rfl) rfl (zc (a := (xs 1).toInt) (b := (-1)) rfl rfl (decide_eq_true (by omega))) rfl rfl ?_
                      refine w_p h_m254 4 (pc' := 20) (L' := [(0, .ref 143), (1, .int (xs 1)), (2, .int (xs 2)), (3, .int (xs 3)), (4, .int (xs 4))]) (st' := [.int (xs 4), .int (xs 3), .int (xs 2), .int (xs 1)]) rfl ?_
                      refine w_cs (As := [.int (xs 1), .int (xs 2), .int (xs 3), .int (xs 4)]) (rest := []) (j := 164) (L0 := [(0, .int (xs 1)), (1, .int (xs 2)), (2, .int (xs 3)), (3, .int (xs 4))]) (pc' := 23) (L' := [(0, .ref 143), (1, .int (xs 1)), (2, .int (xs 2)), (3, .int (xs 3)), (4, .int (xs 4))]) h_m254 (z_at.mk 3 rfl rfl) (Or.inl ⟨rfl, rfl⟩) rfl rfl rfl rfl rfl ?_
                      refine w_p h_m164 3 (pc' := 4) (L' := [(0, .int (xs 1)), (1, .int (xs 2)), (2, .int (xs 3)), (3, .int (xs 4))]) (st' := [.int (31 : Int32), .int (0 : Int32), .int (xs 1)]) rfl ?_
                      refine w_cs (As := [.int (xs 1), .int (0 : Int32), .int (31 : Int32)]) (rest := []) (j := 159) (L0 := [(0, .int (xs 1)), (1, .int (0 : Int32)), (2, .int (31 : Int32))]) (pc' := 7) (L' := [(0, .int (xs 1)), (1, .int (xs 2)), (2, .int (xs 3)), (3, .int (xs 4))]) h_m164 (z_at.mk 3 rfl rfl) (Or.inl ⟨rfl, rfl⟩) rfl rfl rfl rfl rfl ?_
                      refine w_p h_m159 2 (pc' := 2) (L' := [(0, .int (xs 1)), (1, .int (0 : Int32)), (2, .int (31 : Int32))]) (st' := [.int (0 : Int32), .int (xs 1)]) rfl ?_
                      refine w_f2 (pc' := 5) (L' := [(0, .int (xs 1)), (1, .int (0 : Int32)), (2, .int (31 : Int32))]) h_m159 (z_at.mk 3 rfl rfl) rfl (zc (a := (xs 1).toInt) (b := 0) rfl rfl (decide_eq_false (by omega))) rfl rfl ?_
                      refine w_p h_m159 2 (pc' := 7) (L' := [(0, .int (xs 1)), (1, .int (0 : Int32)), (2, .int (31 : Int32))]) (st' := [.int (31 : Int32), .int (xs 1)]) rfl ?_
                      refine w_f2 (pc' := 10) (L' := [(0, .int (xs 1)), (1, .int (0 : Int32)), (2, .int (31 : Int32))]) h_m159 (z_at.mk 3 rfl rfl) rfl (zc (a := (xs 1).toInt) (b := 31) rfl rfl (decide_eq_false (by omega))) rfl rfl ?_
                      refine w_p h_m159 2 (pc' := 15) (L' := []) (st' := [.int (1 : Int32)]) rfl ?_
                      refine w_ri h_m159 (z_at.mk 1 rfl rfl) rfl rfl ?_
                      show z_W 998 164 7 [(0, .int (xs 1)), (1, .int (xs 2)), (2, .int (xs 3)), (3, .int (xs 4))] [.int (1 : Int32)] m _
                      refine w_p h_m164 4 (pc' := 14) (L' := [(0, .int (xs 1)), (1, .int (xs 2)), (2, .int (xs 3)), (3, .int (xs 4))]) (st' := [.int (31 : Int32), .int (xs 1), .int (xs 2)]) rfl ?_
                      refine w_cs (As := [.int (xs 2), .int (xs 1), .int (31 : Int32)]) (rest := []) (j := 159) (L0 := [(0, .int (xs 2)), (1, .int (xs 1)), (2, .int (31 : Int32))]) (pc' := 17) (L' := [(0, .int (xs 1)), (1, .int (xs 2)), (2, .int (xs 3)), (3, .int (xs 4))]) h_m164 (z_at.mk 3 rfl rfl) (Or.inl ⟨rfl, rfl⟩) rfl rfl rfl rfl rfl ?_
                      refine w_p h_m159 2 (pc' := 2) (L' := [(0, .int (xs 2)), (1, .int (xs 1)), (2, .int (31 : Int32))]) (st' := [.int (xs 1), .int (xs 2)]) rfl ?_
                      refine w_t2 (pc' := 14) (L' := []) h_m159 (z_at.mk 3 rfl rfl) rfl (zc (a := (xs 2).toInt) (b := (xs 1).toInt) rfl rfl (decide_eq_true (by omega))) rfl rfl ?_
                      refine w_p h_m159 1 (pc' := 15) (L' := []) (st' := [.int (0 : Int32)]) rfl ?_
                      refine w_ri h_m159 (z_at.mk 1 rfl rfl) rfl rfl ?_
                      show z_W 998 164 17 [(0, .int (xs 1)), (1, .int (xs 2)), (2, .int (xs 3)), (3, .int (xs 4))] [.int (0 : Int32)] m _
                      refine w_p h_m164 2 (pc' := 45) (L' := []) (st' := [.int (0 : Int32)]) rfl ?_
                      refine w_ri h_m164 (z_at.mk 1 rfl rfl) rfl rfl ?_
                      show z_W 999 254 23 [(0, .ref 143), (1, .int (xs 1)), (2, .int (xs 2)), (3, .int (xs 3)), (4, .int (xs 4))] [.int (0 : Int32)] m _
                      refine w_p h_m254 2 (pc' := 28) (L' := [(0, .ref 143), (1, .int (xs 1)), (2, .int (xs 2)), (3, .int (xs 3)), (4, .int (xs 4))]) (st' := [.int (-2 : Int32)]) rfl ?_
                      refine w_ri h_m254 (z_at.mk 1 rfl rfl) rfl rfl ?_
                      show z_W 1000 1000 908 [(0, .ref 0), (1, .ref 39), (2, .ref 143), (3, .int (0 : Int32))] [.int (-2 : Int32), .int (-2 : Int32)] m _
                      refine w_p h_m1000 5 (pc' := 20) (L' := [(0, .ref 0), (1, .ref 39), (2, .ref 143), (3, .int (6 : Int32))]) (st' := [.ref 0, .int (6 : Int32)]) rfl ?_
                      refine w_lene H (x := (6 : Int32)) (pc' := 21) (L' := [(0, .ref 0), (1, .ref 39), (2, .ref 143), (3, .int (6 : Int32))]) h_m1000 (z_at.mk 1 rfl rfl) (by decide) rfl (by decide) rfl rfl rfl ?_
                      refine w_p h_m1000 4 (pc' := 1381) (L' := [(0, .ref 0), (1, .ref 39), (2, .ref 143), (3, .int (6 : Int32))]) (st' := [.int (1 : Int32)]) rfl ?_
                      refine w_ri h_m1000 (z_at.mk 1 rfl rfl) rfl rfl ?_
                      exact hQ _ _ _ _ H (by decide) (by decide)
                  · refine w_t2 (pc' := 24) (L' := []) h_m0 (z_at.mk 3 rfl rfl) rfl (zc (a := (xs 4).toInt) (b := 32) rfl rfl (decide_eq_true (by omega))) rfl rfl ?_
                    refine w_p h_m0 1 (pc' := 25) (L' := []) (st' := [.int (0 : Int32)]) rfl ?_
                    refine w_ri h_m0 (z_at.mk 1 rfl rfl) rfl rfl ?_
                    show z_W 998 1 13 [(0, .int (xs 1)), (1, .int (xs 2)), (2, .int (xs 3)), (3, .int (xs 4))] [.int (0 : Int32)] m _
                    refine w_p h_m1 2 (pc' := 31) (L' := []) (st' := [.int (0 : Int32)]) rfl ?_
                    refine w_ri h_m1 (z_at.mk 1 rfl rfl) rfl rfl ?_
                    show z_W 999 143 26 [(0, .ref 39), (1, .int (xs 1)), (2, .int (xs 2)), (3, .int (xs 3)), (4, .int (xs 4))] [.int (0 : Int32)] m _
                    refine w_p h_m143 2 (pc' := 31) (L' := [(0, .ref 39), (1, .int (xs 1)), (2, .int (xs 2)), (3, .int (xs 3)), (4, .int (xs 4))]) (st' := [.int (-2 : Int32)]) rfl ?_
                    refine w_ri h_m143 (z_at.mk 1 rfl rfl) rfl rfl ?_
                    show z_W 1000 1000 884 [(0, .ref 0), (1, .ref 39), (2, .ref 143), (3, .int (0 : Int32))] [.int (-2 : Int32)] m _
                    refine w_p h_m1000 5 (pc' := 889) (L' := [(0, .ref 0), (1, .ref 39), (2, .ref 143), (3, .int (0 : Int32))]) (st' := [.int (1 : Int32), .ref 0, .ref 143, .int (-2 : Int32)]) rfl ?_
                    refine w_ae H (j := 1) (pc' := 890) (L' := [(0, .ref 0), (1, .ref 39), (2, .ref 143), (3, .int (0 : Int32))]) h_m1000 (z_at.mk 1 rfl rfl) rfl rfl rfl (by decide) rfl (by decide) rfl rfl rfl ?_
                    refine w_p h_m1000 4 (pc' := 894) (L' := [(0, .ref 0), (1, .ref 39), (2, .ref 143), (3, .int (0 : Int32))]) (st' := [.int (2 : Int32), .ref 0, .int (xs 1), .ref 143, .int (-2 : Int32)]) rfl ?_
                    refine w_ae H (j := 2) (pc' := 895) (L' := [(0, .ref 0), (1, .ref 39), (2, .ref 143), (3, .int (0 : Int32))]) h_m1000 (z_at.mk 1 rfl rfl) rfl rfl rfl (by decide) rfl (by decide) rfl rfl rfl ?_
                    refine w_p h_m1000 4 (pc' := 899) (L' := [(0, .ref 0), (1, .ref 39), (2, .ref 143), (3, .int (0 : Int32))]) (st' := [.int (3 : Int32), .ref 0, .int (xs 2), .int (xs 1), .ref 143, .int (-2 : Int32)]) rfl ?_
                    refine w_ae H (j := 3) (pc' := 900) (L' := [(0, .ref 0), (1, .ref 39), (2, .ref 143), (3, .int (0 : Int32))]) h_m1000 (z_at.mk 1 rfl rfl) rfl rfl rfl (by decide) rfl (by decide) rfl rfl rfl ?_
                    refine w_p h_m1000 4 (pc' := 904) (L' := [(0, .ref 0), (1, .ref 39), (2, .ref 143), (3, .int (0 : Int32))]) (st' := [.int (4 : Int32), .ref 0, .int (xs 3), .int (xs 2), .int (xs 1), .ref 143, .int (-2 : Int32)]) rfl ?_
                    refine w_ae H (j := 4) (pc' := 905) (L' := [(0, .ref 0), (1, .ref 39), (2, .ref 143), (3, .int (0 : Int32))]) h_m1000 (z_at.mk 1 rfl rfl) rfl rfl rfl (by decide) rfl (by decide) rfl rfl rfl ?_
                    refine w_cv (H.t rfl) (pc' := 908) (L' := [(0, .ref 0), (1, .ref 39), (2, .ref 143), (3, .int (0 : Int32))]) (rest := [.int (-2 : Int32)]) (Ps := [.int (xs 1), .int (xs 2), .int (xs 3), .int (xs 4)]) (L0 := [(0, .ref 143), (1, .int (xs 1)), (2, .int (xs 2)), (3, .int (xs 3)), (4, .int (xs 4))]) h_m1000 (z_at.mk 3 rfl rfl) (Or.inl ⟨rfl, rfl⟩) rfl rfl (by decide) (by decide) rfl rfl rfl rfl rfl rfl (by decide) rfl rfl rfl ?_
                    refine w_p h_m254 2 (pc' := 2) (L' := [(0, .ref 143), (1, .int (xs 1)), (2, .int (xs 2)), (3, .int (xs 3)), (4, .int (xs 4))]) (st' := [.int (-1 : Int32), .int (xs 1)]) rfl ?_
                    refine w_t2 (pc' := 15) (L' := [(0, .ref 143), (1, .int (xs 1)), (2, .int (xs 2)), (3, .int (xs 3)), (4, .int (xs 4))]) h_m254 (z_at.mk 3 rfl rfl) rfl (zc (a := (xs 1).toInt) (b := (-1)) rfl rfl (decide_eq_true (by omega))) rfl rfl ?_
                    refine w_p h_m254 4 (pc' := 20) (L' := [(0, .ref 143), (1, .int (xs 1)), (2, .int (xs 2)), (3, .int (xs 3)), (4, .int (xs 4))]) (st' := [.int (xs 4), .int (xs 3), .int (xs 2), .int (xs 1)]) rfl ?_
                    refine w_cs (As := [.int (xs 1), .int (xs 2), .int (xs 3), .int (xs 4)]) (rest := []) (j := 164) (L0 := [(0, .int (xs 1)), (1, .int (xs 2)), (2, .int (xs 3)), (3, .int (xs 4))]) (pc' := 23) (L' := [(0, .ref 143), (1, .int (xs 1)), (2, .int (xs 2)), (3, .int (xs 3)), (4, .int (xs 4))]) h_m254 (z_at.mk 3 rfl rfl) (Or.inl ⟨rfl, rfl⟩) rfl rfl rfl rfl rfl ?_
                    refine w_p h_m164 3 (pc' := 4) (L' := [(0, .int (xs 1)), (1, .int (xs 2)), (2, .int (xs 3)), (3, .int (xs 4))]) (st' := [.int (31 : Int32), .int (0 : Int32), .int (xs 1)]) rfl ?_
                    refine w_cs (As := [.int (xs 1), .int (0 : Int32), .int (31 : Int32)]) (rest := []) (j := 159) (L0 := [(0, .int (xs 1)), (1, .int (0 : Int32)), (2, .int (31 : Int32))]) (pc' := 7) (L' := [(0, .int (xs 1)), (1, .int (xs 2)), (2, .int (xs 3)), (3, .int (xs 4))]) h_m164 (z_at.mk 3 rfl rfl) (Or.inl ⟨rfl, rfl⟩) rfl rfl rfl rfl rfl ?_
                    refine w_p h_m159 2 (pc' := 2) (L' := [(0, .int (xs 1)), (1, .int (0 : Int32)), (2, .int (31 : Int32))]) (st' := [.int (0 : Int32), .int (xs 1)]) rfl ?_
                    refine w_f2 (pc' := 5) (L' := [(0, .int (xs 1)), (1, .int (0 : Int32)), (2, .int (31 : Int32))]) h_m159 (z_at.mk 3 rfl rfl) rfl (zc (a := (xs 1).toInt) (b := 0) rfl rfl (decide_eq_false (by omega))) rfl rfl ?_
                    refine w_p h_m159 2 (pc' := 7) (L' := [(0, .int (xs 1)), (1, .int (0 : Int32)), (2, .int (31 : Int32))]) (st' := [.int (31 : Int32), .int (xs 1)]) rfl ?_
                    refine w_f2 (pc' := 10) (L' := [(0, .int (xs 1)), (1, .int (0 : Int32)), (2, .int (31 : Int32))]) h_m159 (z_at.mk 3 rfl rfl) rfl (zc (a := (xs 1).toInt) (b := 31) rfl rfl (decide_eq_false (by omega))) rfl rfl ?_
                    refine w_p h_m159 2 (pc' := 15) (L' := []) (st' := [.int (1 : Int32)]) rfl ?_
                    refine w_ri h_m159 (z_at.mk 1 rfl rfl) rfl rfl ?_
                    show z_W 998 164 7 [(0, .int (xs 1)), (1, .int (xs 2)), (2, .int (xs 3)), (3, .int (xs 4))] [.int (1 : Int32)] m _
                    refine w_p h_m164 4 (pc' := 14) (L' := [(0, .int (xs 1)), (1, .int (xs 2)), (2, .int (xs 3)), (3, .int (xs 4))]) (st' := [.int (31 : Int32), .int (xs 1), .int (xs 2)]) rfl ?_
                    refine w_cs (As := [.int (xs 2), .int (xs 1), .int (31 : Int32)]) (rest := []) (j := 159) (L0 := [(0, .int (xs 2)), (1, .int (xs 1)), (2, .int (31 : Int32))]) (pc' := 17) (L' := [(0, .int (xs 1)), (1, .int (xs 2)), (2, .int (xs 3)), (3, .int (xs 4))]) h_m164 (z_at.mk 3 rfl rfl) (Or.inl ⟨rfl, rfl⟩) rfl rfl rfl rfl rfl ?_
                    refine w_p h_m159 2 (pc' := 2) (L' := [(0, .int (xs 2)), (1, .int (xs 1)), (2, .int (31 : Int32))]) (st' := [.int (xs 1), .int (xs 2)]) rfl ?_
                    by_cases c_10 : (xs 2).toInt < (xs 1).toInt
                    · refine w_t2 (pc' := 14) (L' := []) h_m159 (z_at.mk 3 rfl rfl) rfl (zc (a := (xs 2).toInt) (b := (xs 1).toInt) rfl rfl (decide_eq_true (by omega))) rfl rfl ?_
                      refine w_p h_m159 1 (pc' := 15) (L' := []) (st' := [.int (0 : Int32)]) rfl ?_
                      refine w_ri h_m159 (z_at.mk 1 rfl rfl) rfl rfl ?_
                      show z_W 998 164 17 [(0, .int (xs 1)), (1, .int (xs 2)), (2, .int (xs 3)), (3, .int (xs 4))] [.int (0 : Int32)] m _
                      refine w_p h_m164 2 (pc' := 45) (L' := []) (st' := [.int (0 : Int32)]) rfl ?_
                      refine w_ri h_m164 (z_at.mk 1 rfl rfl) rfl rfl ?_
                      show z_W 999 254 23 [(0, .ref 143), (1, .int (xs 1)), (2, .int (xs 2)), (3, .int (xs 3)), (4, .int (xs 4))] [.int (0 : Int32)] m _
                      refine w_p h_m254 2 (pc' := 28) (L' := [(0, .ref 143), (1, .int (xs 1)), (2, .int (xs 2)), (3, .int (xs 3)), (4, .int (xs 4))]) (st' := [.int (-2 : Int32)]) rfl ?_
                      refine w_ri h_m254 (z_at.mk 1 rfl rfl) rfl rfl ?_
                      show z_W 1000 1000 908 [(0, .ref 0), (1, .ref 39), (2, .ref 143), (3, .int (0 : Int32))] [.int (-2 : Int32), .int (-2 : Int32)] m _
                      refine w_p h_m1000 5 (pc' := 20) (L' := [(0, .ref 0), (1, .ref 39), (2, .ref 143), (3, .int (6 : Int32))]) (st' := [.ref 0, .int (6 : Int32)]) rfl ?_
                      refine w_lene H (x := (6 : Int32)) (pc' := 21) (L' := [(0, .ref 0), (1, .ref 39), (2, .ref 143), (3, .int (6 : Int32))]) h_m1000 (z_at.mk 1 rfl rfl) (by decide) rfl (by decide) rfl rfl rfl ?_
                      refine w_p h_m1000 4 (pc' := 1381) (L' := [(0, .ref 0), (1, .ref 39), (2, .ref 143), (3, .int (6 : Int32))]) (st' := [.int (1 : Int32)]) rfl ?_
                      refine w_ri h_m1000 (z_at.mk 1 rfl rfl) rfl rfl ?_
                      exact hQ _ _ _ _ H (by decide) (by decide)
                    · refine w_f2 (pc' := 5) (L' := [(0, .int (xs 2)), (1, .int (xs 1)), (2, .int (31 : Int32))]) h_m159 (z_at.mk 3 rfl rfl) rfl (zc (a := (xs 2).toInt) (b := (xs 1).toInt) rfl rfl (decide_eq_false (by omega))) rfl rfl ?_
                      refine w_p h_m159 2 (pc' := 7) (L' := [(0, .int (xs 2)), (1, .int (xs 1)), (2, .int (31 : Int32))]) (st' := [.int (31 : Int32), .int (xs 2)]) rfl ?_
                      refine w_f2 (pc' := 10) (L' := [(0, .int (xs 2)), (1, .int (xs 1)), (2, .int (31 : Int32))]) h_m159 (z_at.mk 3 rfl rfl) rfl (zc (a := (xs 2).toInt) (b := 31) rfl rfl (decide_eq_false (by omega))) rfl rfl ?_
                      refine w_p h_m159 2 (pc' := 15) (L' := []) (st' := [.int (1 : Int32)]) rfl ?_
                      refine w_ri h_m159 (z_at.mk 1 rfl rfl) rfl rfl ?_
                      show z_W 998 164 17 [(0, .int (xs 1)), (1, .int (xs 2)), (2, .int (xs 3)), (3, .int (xs 4))] [.int (1 : Int32)] m _
                      refine w_p h_m164 4 (pc' := 24) (L' := [(0, .int (xs 1)), (1, .int (xs 2)), (2, .int (xs 3)), (3, .int (xs 4))]) (st' := [.int (31 : Int32), .int (0 : Int32), .int (xs 3)]) rfl ?_
                      refine w_cs (As := [.int (xs 3), .int (0 : Int32), .int (31 : Int32)]) (rest := []) (j := 159) (L0 := [(0, .int (xs 3)), (1, .int (0 : Int32)), (2, .int (31 : Int32))]) (pc' := 27) (L' := [(0, .int (xs 1)), (1, .int (xs 2)), (2, .int (xs 3)), (3, .int (xs 4))]) h_m164 (z_at.mk 3 rfl rfl) (Or.inl ⟨rfl, rfl⟩) rfl rfl rfl rfl rfl ?_
                      refine w_p h_m159 2 (pc' := 2) (L' := [(0, .int (xs 3)), (1, .int (0 : Int32)), (2, .int (31 : Int32))]) (st' := [.int (0 : Int32), .int (xs 3)]) rfl ?_
                      refine w_f2 (pc' := 5) (L' := [(0, .int (xs 3)), (1, .int (0 : Int32)), (2, .int (31 : Int32))]) h_m159 (z_at.mk 3 rfl rfl) rfl (zc (a := (xs 3).toInt) (b := 0) rfl rfl (decide_eq_false (by omega))) rfl rfl ?_
                      refine w_p h_m159 2 (pc' := 7) (L' := [(0, .int (xs 3)), (1, .int (0 : Int32)), (2, .int (31 : Int32))]) (st' := [.int (31 : Int32), .int (xs 3)]) rfl ?_
                      refine w_f2 (pc' := 10) (L' := [(0, .int (xs 3)), (1, .int (0 : Int32)), (2, .int (31 : Int32))]) h_m159 (z_at.mk 3 rfl rfl) rfl (zc (a := (xs 3).toInt) (b := 31) rfl rfl (decide_eq_false (by omega))) rfl rfl ?_
                      refine w_p h_m159 2 (pc' := 15) (L' := []) (st' := [.int (1 : Int32)]) rfl ?_
                      refine w_ri h_m159 (z_at.mk 1 rfl rfl) rfl rfl ?_
                      show z_W 998 164 27 [(0, .int (xs 1)), (1, .int (xs 2)), (2, .int (xs 3)), (3, .int (xs 4))] [.int (1 : Int32)] m _
                      refine w_p h_m164 4 (pc' := 34) (L' := [(0, .int (xs 1)), (1, .int (xs 2)), (2, .int (xs 3)), (3, .int (xs 4))]) (st' := [.int (31 : Int32), .int (xs 3), .int (xs 4)]) rfl ?_
                      refine w_cs (As := [.int (xs 4), .int (xs 3), .int (31 : Int32)]) (rest := []) (j := 159) (L0 := [(0, .int (xs 4)), (1, .int (xs 3)), (2, .int (31 : Int32))]) (pc' := 37) (L' := [(0, .int (xs 1)), (1, .int (xs 2)), (2, .int (xs 3)), (3, .int (xs 4))]) h_m164 (z_at.mk 3 rfl rfl) (Or.inl ⟨rfl, rfl⟩) rfl rfl rfl rfl rfl ?_
                      refine w_p h_m159 2 (pc' := 2) (L' := [(0, .int (xs 4)), (1, .int (xs 3)), (2, .int (31 : Int32))]) (st' := [.int (xs 3), .int (xs 4)]) rfl ?_
                      refine w_f2 (pc' := 5) (L' := [(0, .int (xs 4)), (1, .int (xs 3)), (2, .int (31 : Int32))]) h_m159 (z_at.mk 3 rfl rfl) rfl (zc (a := (xs 4).toInt) (b := (xs 3).toInt) rfl rfl (decide_eq_false (by omega))) rfl rfl ?_
                      refine w_p h_m159 2 (pc' := 7) (L' := [(0, .int (xs 4)), (1, .int (xs 3)), (2, .int (31 : Int32))]) (st' := [.int (31 : Int32), .int (xs 4)]) rfl ?_
                      refine w_t2 (pc' := 14) (L' := []) h_m159 (z_at.mk 3 rfl rfl) rfl (zc (a := (xs 4).toInt) (b := 31) rfl rfl (decide_eq_true (by omega))) rfl rfl ?_
                      refine w_p h_m159 1 (pc' := 15) (L' := []) (st' := [.int (0 : Int32)]) rfl ?_
                      refine w_ri h_m159 (z_at.mk 1 rfl rfl) rfl rfl ?_
                      show z_W 998 164 37 [(0, .int (xs 1)), (1, .int (xs 2)), (2, .int (xs 3)), (3, .int (xs 4))] [.int (0 : Int32)] m _
                      refine w_p h_m164 2 (pc' := 45) (L' := []) (st' := [.int (0 : Int32)]) rfl ?_
                      refine w_ri h_m164 (z_at.mk 1 rfl rfl) rfl rfl ?_
                      show z_W 999 254 23 [(0, .ref 143), (1, .int (xs 1)), (2, .int (xs 2)), (3, .int (xs 3)), (4, .int (xs 4))] [.int (0 : Int32)] m _
                      refine w_p h_m254 2 (pc' := 28) (L' := [(0, .ref 143), (1, .int (xs 1)), (2, .int (xs 2)), (3, .int (xs 3)), (4, .int (xs 4))]) (st' := [.int (-2 : Int32)]) rfl ?_
                      refine w_ri h_m254 (z_at.mk 1 rfl rfl) rfl rfl ?_
                      show z_W 1000 1000 908 [(0, .ref 0), (1, .ref 39), (2, .ref 143), (3, .int (0 : Int32))] [.int (-2 : Int32), .int (-2 : Int32)] m _
                      refine w_p h_m1000 5 (pc' := 20) (L' := [(0, .ref 0), (1, .ref 39), (2, .ref 143), (3, .int (6 : Int32))]) (st' := [.ref 0, .int (6 : Int32)]) rfl ?_
                      refine w_lene H (x := (6 : Int32)) (pc' := 21) (L' := [(0, .ref 0), (1, .ref 39), (2, .ref 143), (3, .int (6 : Int32))]) h_m1000 (z_at.mk 1 rfl rfl) (by decide) rfl (by decide) rfl rfl rfl ?_
                      refine w_p h_m1000 4 (pc' := 1381) (L' := [(0, .ref 0), (1, .ref 39), (2, .ref 143), (3, .int (6 : Int32))]) (st' := [.int (1 : Int32)]) rfl ?_
                      refine w_ri h_m1000 (z_at.mk 1 rfl rfl) rfl rfl ?_
                      exact hQ _ _ _ _ H (by decide) (by decide)
              · refine w_t2 (pc' := 24) (L' := []) h_m0 (z_at.mk 3 rfl rfl) rfl (zc (a := (xs 2).toInt) (b := 32) rfl rfl (decide_eq_true (by omega))) rfl rfl ?_
                refine w_p h_m0 1 (pc' := 25) (L' := []) (st' := [.int (0 : Int32)]) rfl ?_
                refine w_ri h_m0 (z_at.mk 1 rfl rfl) rfl rfl ?_
                show z_W 998 1 13 [(0, .int (xs 1)), (1, .int (xs 2)), (2, .int (xs 3)), (3, .int (xs 4))] [.int (0 : Int32)] m _
                refine w_p h_m1 2 (pc' := 31) (L' := []) (st' := [.int (0 : Int32)]) rfl ?_
                refine w_ri h_m1 (z_at.mk 1 rfl rfl) rfl rfl ?_
                show z_W 999 143 26 [(0, .ref 39), (1, .int (xs 1)), (2, .int (xs 2)), (3, .int (xs 3)), (4, .int (xs 4))] [.int (0 : Int32)] m _
                refine w_p h_m143 2 (pc' := 31) (L' := [(0, .ref 39), (1, .int (xs 1)), (2, .int (xs 2)), (3, .int (xs 3)), (4, .int (xs 4))]) (st' := [.int (-2 : Int32)]) rfl ?_
                refine w_ri h_m143 (z_at.mk 1 rfl rfl) rfl rfl ?_
                show z_W 1000 1000 884 [(0, .ref 0), (1, .ref 39), (2, .ref 143), (3, .int (0 : Int32))] [.int (-2 : Int32)] m _
                refine w_p h_m1000 5 (pc' := 889) (L' := [(0, .ref 0), (1, .ref 39), (2, .ref 143), (3, .int (0 : Int32))]) (st' := [.int (1 : Int32), .ref 0, .ref 143, .int (-2 : Int32)]) rfl ?_
                refine w_ae H (j := 1) (pc' := 890) (L' := [(0, .ref 0), (1, .ref 39), (2, .ref 143), (3, .int (0 : Int32))]) h_m1000 (z_at.mk 1 rfl rfl) rfl rfl rfl (by decide) rfl (by decide) rfl rfl rfl ?_
                refine w_p h_m1000 4 (pc' := 894) (L' := [(0, .ref 0), (1, .ref 39), (2, .ref 143), (3, .int (0 : Int32))]) (st' := [.int (2 : Int32), .ref 0, .int (xs 1), .ref 143, .int (-2 : Int32)]) rfl ?_
                refine w_ae H (j := 2) (pc' := 895) (L' := [(0, .ref 0), (1, .ref 39), (2, .ref 143), (3, .int (0 : Int32))]) h_m1000 (z_at.mk 1 rfl rfl) rfl rfl rfl (by decide) rfl (by decide) rfl rfl rfl ?_
                refine w_p h_m1000 4 (pc' := 899) (L' := [(0, .ref 0), (1, .ref 39), (2, .ref 143), (3, .int (0 : Int32))]) (st' := [.int (3 : Int32), .ref 0, .int (xs 2), .int (xs 1), .ref 143, .int (-2 : Int32)]) rfl ?_
                refine w_ae H (j := 3) (pc' := 900) (L' := [(0, .ref 0), (1, .ref 39), (2, .ref 143), (3, .int (0 : Int32))]) h_m1000 (z_at.mk 1 rfl rfl) rfl rfl rfl (by decide) rfl (by decide) rfl rfl rfl ?_
                refine w_p h_m1000 4 (pc' := 904) (L' := [(0, .ref 0), (1, .ref 39), (2, .ref 143), (3, .int (0 : Int32))]) (st' := [.int (4 : Int32), .ref 0, .int (xs 3), .int (xs 2), .int (xs 1), .ref 143, .int (-2 : Int32)]) rfl ?_
                refine w_ae H (j := 4) (pc' := 905) (L' := [(0, .ref 0), (1, .ref 39), (2, .ref 143), (3, .int (0 : Int32))]) h_m1000 (z_at.mk 1 rfl rfl) rfl rfl rfl (by decide) rfl (by decide) rfl rfl rfl ?_
                refine w_cv (H.t rfl) (pc' := 908) (L' := [(0, .ref 0), (1, .ref 39), (2, .ref 143), (3, .int (0 : Int32))]) (rest := [.int (-2 : Int32)]) (Ps := [.int (xs 1), .int (xs 2), .int (xs 3), .int (xs 4)]) (L0 := [(0, .ref 143), (1, .int (xs 1)), (2, .int (xs 2)), (3, .int (xs 3)), (4, .int (xs 4))]) h_m1000 (z_at.mk 3 rfl rfl) (Or.inl ⟨rfl, rfl⟩) rfl rfl (by decide) (by decide) rfl rfl rfl rfl rfl rfl (by decide) rfl rfl rfl ?_
                refine w_p h_m254 2 (pc' := 2) (L' := [(0, .ref 143), (1, .int (xs 1)), (2, .int (xs 2)), (3, .int (xs 3)), (4, .int (xs 4))]) (st' := [.int (-1 : Int32), .int (xs 1)]) rfl ?_
                refine w_t2 (pc' := 15) (L' := [(0, .ref 143), (1, .int (xs 1)), (2, .int (xs 2)), (3, .int (xs 3)), (4, .int (xs 4))]) h_m254 (z_at.mk 3 rfl rfl) rfl (zc (a := (xs 1).toInt) (b := (-1)) rfl rfl (decide_eq_true (by omega))) rfl rfl ?_
                refine w_p h_m254 4 (pc' := 20) (L' := [(0, .ref 143), (1, .int (xs 1)), (2, .int (xs 2)), (3, .int (xs 3)), (4, .int (xs 4))]) (st' := [.int (xs 4), .int (xs 3), .int (xs 2), .int (xs 1)]) rfl ?_
                refine w_cs (As := [.int (xs 1), .int (xs 2), .int (xs 3), .int (xs 4)]) (rest := []) (j := 164) (L0 := [(0, .int (xs 1)), (1, .int (xs 2)), (2, .int (xs 3)), (3, .int (xs 4))]) (pc' := 23) (L' := [(0, .ref 143), (1, .int (xs 1)), (2, .int (xs 2)), (3, .int (xs 3)), (4, .int (xs 4))]) h_m254 (z_at.mk 3 rfl rfl) (Or.inl ⟨rfl, rfl⟩) rfl rfl rfl rfl rfl ?_
                refine w_p h_m164 3 (pc' := 4) (L' := [(0, .int (xs 1)), (1, .int (xs 2)), (2, .int (xs 3)), (3, .int (xs 4))]) (st' := [.int (31 : Int32), .int (0 : Int32), .int (xs 1)]) rfl ?_
                refine w_cs (As := [.int (xs 1), .int (0 : Int32), .int (31 : Int32)]) (rest := []) (j := 159) (L0 := [(0, .int (xs 1)), (1, .int (0 : Int32)), (2, .int (31 : Int32))]) (pc' := 7) (L' := [(0, .int (xs 1)), (1, .int (xs 2)), (2, .int (xs 3)), (3, .int (xs 4))]) h_m164 (z_at.mk 3 rfl rfl) (Or.inl ⟨rfl, rfl⟩) rfl rfl rfl rfl rfl ?_
                refine w_p h_m159 2 (pc' := 2) (L' := [(0, .int (xs 1)), (1, .int (0 : Int32)), (2, .int (31 : Int32))]) (st' := [.int (0 : Int32), .int (xs 1)]) rfl ?_
                refine w_f2 (pc' := 5) (L' := [(0, .int (xs 1)), (1, .int (0 : Int32)), (2, .int (31 : Int32))]) h_m159 (z_at.mk 3 rfl rfl) rfl (zc (a := (xs 1).toInt) (b := 0) rfl rfl (decide_eq_false (by omega))) rfl rfl ?_
                refine w_p h_m159 2 (pc' := 7) (L' := [(0, .int (xs 1)), (1, .int (0 : Int32)), (2, .int (31 : Int32))]) (st' := [.int (31 : Int32), .int (xs 1)]) rfl ?_
                refine w_f2 (pc' := 10) (L' := [(0, .int (xs 1)), (1, .int (0 : Int32)), (2, .int (31 : Int32))]) h_m159 (z_at.mk 3 rfl rfl) rfl (zc (a := (xs 1).toInt) (b := 31) rfl rfl (decide_eq_false (by omega))) rfl rfl ?_
                refine w_p h_m159 2 (pc' := 15) (L' := []) (st' := [.int (1 : Int32)]) rfl ?_
                refine w_ri h_m159 (z_at.mk 1 rfl rfl) rfl rfl ?_
                show z_W 998 164 7 [(0, .int (xs 1)), (1, .int (xs 2)), (2, .int (xs 3)), (3, .int (xs 4))] [.int (1 : Int32)] m _
                refine w_p h_m164 4 (pc' := 14) (L' := [(0, .int (xs 1)), (1, .int (xs 2)), (2, .int (xs 3)), (3, .int (xs 4))]) (st' := [.int (31 : Int32), .int (xs 1), .int (xs 2)]) rfl ?_
                refine w_cs (As := [.int (xs 2), .int (xs 1), .int (31 : Int32)]) (rest := []) (j := 159) (L0 := [(0, .int (xs 2)), (1, .int (xs 1)), (2, .int (31 : Int32))]) (pc' := 17) (L' := [(0, .int (xs 1)), (1, .int (xs 2)), (2, .int (xs 3)), (3, .int (xs 4))]) h_m164 (z_at.mk 3 rfl rfl) (Or.inl ⟨rfl, rfl⟩) rfl rfl rfl rfl rfl ?_
                refine w_p h_m159 2 (pc' := 2) (L' := [(0, .int (xs 2)), (1, .int (xs 1)), (2, .int (31 : Int32))]) (st' := [.int (xs 1), .int (xs 2)]) rfl ?_
                refine w_f2 (pc' := 5) (L' := [(0, .int (xs 2)), (1, .int (xs 1)), (2, .int (31 : Int32))]) h_m159 (z_at.mk 3 rfl rfl) rfl (zc (a := (xs 2).toInt) (b := (xs 1).toInt) rfl rfl (decide_eq_false (by omega))) rfl rfl ?_
                refine w_p h_m159 2 (pc' := 7) (L' := [(0, .int (xs 2)), (1, .int (xs 1)), (2, .int (31 : Int32))]) (st' := [.int (31 : Int32), .int (xs 2)]) rfl ?_
                refine w_t2 (pc' := 14) (L' := []) h_m159 (z_at.mk 3 rfl rfl) rfl (zc (a := (xs 2).toInt) (b := 31) rfl rfl (decide_eq_true (by omega))) rfl rfl ?_
                refine w_p h_m159 1 (pc' := 15) (L' := []) (st' := [.int (0 : Int32)]) rfl ?_
                refine w_ri h_m159 (z_at.mk 1 rfl rfl) rfl rfl ?_
                show z_W 998 164 17 [(0, .int (xs 1)), (1, .int (xs 2)), (2, .int (xs 3)), (3, .int (xs 4))] [.int (0 : Int32)] m _
                refine w_p h_m164 2 (pc' := 45) (L' := []) (st' := [.int (0 : Int32)]) rfl ?_
                refine w_ri h_m164 (z_at.mk 1 rfl rfl) rfl rfl ?_
                show z_W 999 254 23 [(0, .ref 143), (1, .int (xs 1)), (2, .int (xs 2)), (3, .int (xs 3)), (4, .int (xs 4))] [.int (0 : Int32)] m _
                refine w_p h_m254 2 (pc' := 28) (L' := [(0, .ref 143), (1, .int (xs 1)), (2, .int (xs 2)), (3, .int (xs 3)), (4, .int (xs 4))]) (st' := [.int (-2 : Int32)]) rfl ?_
                refine w_ri h_m254 (z_at.mk 1 rfl rfl) rfl rfl ?_
                show z_W 1000 1000 908 [(0, .ref 0), (1, .ref 39), (2, .ref 143), (3, .int (0 : Int32))] [.int (-2 : Int32), .int (-2 : Int32)] m _
                refine w_p h_m1000 5 (pc' := 20) (L' := [(0, .ref 0), (1, .ref 39), (2, .ref 143), (3, .int (6 : Int32))]) (st' := [.ref 0, .int (6 : Int32)]) rfl ?_
                refine w_lene H (x := (6 : Int32)) (pc' := 21) (L' := [(0, .ref 0), (1, .ref 39), (2, .ref 143), (3, .int (6 : Int32))]) h_m1000 (z_at.mk 1 rfl rfl) (by decide) rfl (by decide) rfl rfl rfl ?_
                refine w_p h_m1000 4 (pc' := 1381) (L' := [(0, .ref 0), (1, .ref 39), (2, .ref 143), (3, .int (6 : Int32))]) (st' := [.int (1 : Int32)]) rfl ?_
                refine w_ri h_m1000 (z_at.mk 1 rfl rfl) rfl rfl ?_
                exact hQ _ _ _ _ H (by decide) (by decide)
          · refine w_t2 (pc' := 24) (L' := []) h_m0 (z_at.mk 3 rfl rfl) rfl (zc (a := (xs 3).toInt) (b := 32) rfl rfl (decide_eq_true (by omega))) rfl rfl ?_
            refine w_p h_m0 1 (pc' := 25) (L' := []) (st' := [.int (0 : Int32)]) rfl ?_
            refine w_ri h_m0 (z_at.mk 1 rfl rfl) rfl rfl ?_
            show z_W 998 1 5 [(0, .int (xs 1)), (1, .int (xs 2)), (2, .int (xs 3)), (3, .int (xs 4))] [.int (0 : Int32)] m _
            refine w_p h_m1 2 (pc' := 31) (L' := []) (st' := [.int (0 : Int32)]) rfl ?_
            refine w_ri h_m1 (z_at.mk 1 rfl rfl) rfl rfl ?_
            show z_W 999 143 26 [(0, .ref 39), (1, .int (xs 1)), (2, .int (xs 2)), (3, .int (xs 3)), (4, .int (xs 4))] [.int (0 : Int32)] m _
            refine w_p h_m143 2 (pc' := 31) (L' := [(0, .ref 39), (1, .int (xs 1)), (2, .int (xs 2)), (3, .int (xs 3)), (4, .int (xs 4))]) (st' := [.int (-2 : Int32)]) rfl ?_
            refine w_ri h_m143 (z_at.mk 1 rfl rfl) rfl rfl ?_
            show z_W 1000 1000 884 [(0, .ref 0), (1, .ref 39), (2, .ref 143), (3, .int (0 : Int32))] [.int (-2 : Int32)] m _
            refine w_p h_m1000 5 (pc' := 889) (L' := [(0, .ref 0), (1, .ref 39), (2, .ref 143), (3, .int (0 : Int32))]) (st' := [.int (1 : Int32), .ref 0, .ref 143, .int (-2 : Int32)]) rfl ?_
            refine w_ae H (j := 1) (pc' := 890) (L' := [(0, .ref 0), (1, .ref 39), (2, .ref 143), (3, .int (0 : Int32))]) h_m1000 (z_at.mk 1 rfl rfl) rfl rfl rfl (by decide) rfl (by decide) rfl rfl rfl ?_
            refine w_p h_m1000 4 (pc' := 894) (L' := [(0, .ref 0), (1, .ref 39), (2, .ref 143), (3, .int (0 : Int32))]) (st' := [.int (2 : Int32), .ref 0, .int (xs 1), .ref 143, .int (-2 : Int32)]) rfl ?_
            refine w_ae H (j := 2) (pc' := 895) (L' := [(0, .ref 0), (1, .ref 39), (2, .ref 143), (3, .int (0 : Int32))]) h_m1000 (z_at.mk 1 rfl rfl) rfl rfl rfl (by decide) rfl (by decide) rfl rfl rfl ?_
            refine w_p h_m1000 4 (pc' := 899) (L' := [(0, .ref 0), (1, .ref 39), (2, .ref 143), (3, .int (0 : Int32))]) (st' := [.int (3 : Int32), .ref 0, .int (xs 2), .int (xs 1), .ref 143, .int (-2 : Int32)]) rfl ?_
            refine w_ae H (j := 3) (pc' := 900) (L' := [(0, .ref 0), (1, .ref 39), (2, .ref 143), (3, .int (0 : Int32))]) h_m1000 (z_at.mk 1 rfl rfl) rfl rfl rfl (by decide) rfl (by decide) rfl rfl rfl ?_
            refine w_p h_m1000 4 (pc' := 904) (L' := [(0, .ref 0), (1, .ref 39), (2, .ref 143), (3, .int (0 : Int32))]) (st' := [.int (4 : Int32), .ref 0, .int (xs 3), .int (xs 2), .int (xs 1), .ref 143, .int (-2 : Int32)]) rfl ?_
            refine w_ae H (j := 4) (pc' := 905) (L' := [(0, .ref 0), (1, .ref 39), (2, .ref 143), (3, .int (0 : Int32))]) h_m1000 (z_at.mk 1 rfl rfl) rfl rfl rfl (by decide) rfl (by decide) rfl rfl rfl ?_
            refine w_cv (H.t rfl) (pc' := 908) (L' := [(0, .ref 0), (1, .ref 39), (2, .ref 143), (3, .int (0 : Int32))]) (rest := [.int (-2 : Int32)]) (Ps := [.int (xs 1), .int (xs 2), .int (xs 3), .int (xs 4)]) (L0 := [(0, .ref 143), (1, .int (xs 1)), (2, .int (xs 2)), (3, .int (xs 3)), (4, .int (xs 4))]) h_m1000 (z_at.mk 3 rfl rfl) (Or.inl ⟨rfl, rfl⟩) rfl rfl (by decide) (by decide) rfl rfl rfl rfl rfl rfl (by decide) rfl rfl rfl ?_
            refine w_p h_m254 2 (pc' := 2) (L' := [(0, .ref 143), (1, .int (xs 1)), (2, .int (xs 2)), (3, .int (xs 3)), (4, .int (xs 4))]) (st' := [.int (-1 : Int32), .int (xs 1)]) rfl ?_
            refine w_t2 (pc' := 15) (L' := [(0, .ref 143), (1, .int (xs 1)), (2, .int (xs 2)), (3, .int (xs 3)), (4, .int (xs 4))]) h_m254 (z_at.mk 3 rfl rfl) rfl (zc (a := (xs 1).toInt) (b := (-1)) rfl rfl (decide_eq_true (by omega))) rfl rfl ?_
            refine w_p h_m254 4 (pc' := 20) (L' := [(0, .ref 143), (1, .int (xs 1)), (2, .int (xs 2)), (3, .int (xs 3)), (4, .int (xs 4))]) (st' := [.int (xs 4), .int (xs 3), .int (xs 2), .int (xs 1)]) rfl ?_
            refine w_cs (As := [.int (xs 1), .int (xs 2), .int (xs 3), .int (xs 4)]) (rest := []) (j := 164) (L0 := [(0, .int (xs 1)), (1, .int (xs 2)), (2, .int (xs 3)), (3, .int (xs 4))]) (pc' := 23) (L' := [(0, .ref 143), (1, .int (xs 1)), (2, .int (xs 2)), (3, .int (xs 3)), (4, .int (xs 4))]) h_m254 (z_at.mk 3 rfl rfl) (Or.inl ⟨rfl, rfl⟩) rfl rfl rfl rfl rfl ?_
            refine w_p h_m164 3 (pc' := 4) (L' := [(0, .int (xs 1)), (1, .int (xs 2)), (2, .int (xs 3)), (3, .int (xs 4))]) (st' := [.int (31 : Int32), .int (0 : Int32), .int (xs 1)]) rfl ?_
            refine w_cs (As := [.int (xs 1), .int (0 : Int32), .int (31 : Int32)]) (rest := []) (j := 159) (L0 := [(0, .int (xs 1)), (1, .int (0 : Int32)), (2, .int (31 : Int32))]) (pc' := 7) (L' := [(0, .int (xs 1)), (1, .int (xs 2)), (2, .int (xs 3)), (3, .int (xs 4))]) h_m164 (z_at.mk 3 rfl rfl) (Or.inl ⟨rfl, rfl⟩) rfl rfl rfl rfl rfl ?_
            refine w_p h_m159 2 (pc' := 2) (L' := [(0, .int (xs 1)), (1, .int (0 : Int32)), (2, .int (31 : Int32))]) (st' := [.int (0 : Int32), .int (xs 1)]) rfl ?_
            refine w_f2 (pc' := 5) (L' := [(0, .int (xs 1)), (1, .int (0 : Int32)), (2, .int (31 : Int32))]) h_m159 (z_at.mk 3 rfl rfl) rfl (zc (a := (xs 1).toInt) (b := 0) rfl rfl (decide_eq_false (by omega))) rfl rfl ?_
            refine w_p h_m159 2 (pc' := 7) (L' := [(0, .int (xs 1)), (1, .int (0 : Int32)), (2, .int (31 : Int32))]) (st' := [.int (31 : Int32), .int (xs 1)]) rfl ?_
            refine w_f2 (pc' := 10) (L' := [(0, .int (xs 1)), (1, .int (0 : Int32)), (2, .int (31 : Int32))]) h_m159 (z_at.mk 3 rfl rfl) rfl (zc (a := (xs 1).toInt) (b := 31) rfl rfl (decide_eq_false (by omega))) rfl rfl ?_
            refine w_p h_m159 2 (pc' := 15) (L' := []) (st' := [.int (1 : Int32)]) rfl ?_
            refine w_ri h_m159 (z_at.mk 1 rfl rfl) rfl rfl ?_
            show z_W 998 164 7 [(0, .int (xs 1)), (1, .int (xs 2)), (2, .int (xs 3)), (3, .int (xs 4))] [.int (1 : Int32)] m _
            refine w_p h_m164 4 (pc' := 14) (L' := [(0, .int (xs 1)), (1, .int (xs 2)), (2, .int (xs 3)), (3, .int (xs 4))]) (st' := [.int (31 : Int32), .int (xs 1), .int (xs 2)]) rfl ?_
            refine w_cs (As := [.int (xs 2), .int (xs 1), .int (31 : Int32)]) (rest := []) (j := 159) (L0 := [(0, .int (xs 2)), (1, .int (xs 1)), (2, .int (31 : Int32))]) (pc' := 17) (L' := [(0, .int (xs 1)), (1, .int (xs 2)), (2, .int (xs 3)), (3, .int (xs 4))]) h_m164 (z_at.mk 3 rfl rfl) (Or.inl ⟨rfl, rfl⟩) rfl rfl rfl rfl rfl ?_
            refine w_p h_m159 2 (pc' := 2) (L' := [(0, .int (xs 2)), (1, .int (xs 1)), (2, .int (31 : Int32))]) (st' := [.int (xs 1), .int (xs 2)]) rfl ?_
            by_cases c_6 : (xs 2).toInt < (xs 1).toInt
            · refine w_t2 (pc' := 14) (L' := []) h_m159 (z_at.mk 3 rfl rfl) rfl (zc (a := (xs 2).toInt) (b := (xs 1).toInt) rfl rfl (decide_eq_true (by omega))) rfl rfl ?_
              refine w_p h_m159 1 (pc' := 15) (L' := []) (st' := [.int (0 : Int32)]) rfl ?_
              refine w_ri h_m159 (z_at.mk 1 rfl rfl) rfl rfl ?_
              show z_W 998 164 17 [(0, .int (xs 1)), (1, .int (xs 2)), (2, .int (xs 3)), (3, .int (xs 4))] [.int (0 : Int32)] m _
              refine w_p h_m164 2 (pc' := 45) (L' := []) (st' := [.int (0 : Int32)]) rfl ?_
              refine w_ri h_m164 (z_at.mk 1 rfl rfl) rfl rfl ?_
              show z_W 999 254 23 [(0, .ref 143), (1, .int (xs 1)), (2, .int (xs 2)), (3, .int (xs 3)), (4, .int (xs 4))] [.int (0 : Int32)] m _
              refine w_p h_m254 2 (pc' := 28) (L' := [(0, .ref 143), (1, .int (xs 1)), (2, .int (xs 2)), (3, .int (xs 3)), (4, .int (xs 4))]) (st' := [.int (-2 : Int32)]) rfl ?_
              refine w_ri h_m254 (z_at.mk 1 rfl rfl) rfl rfl ?_
              show z_W 1000 1000 908 [(0, .ref 0), (1, .ref 39), (2, .ref 143), (3, .int (0 : Int32))] [.int (-2 : Int32), .int (-2 : Int32)] m _
              refine w_p h_m1000 5 (pc' := 20) (L' := [(0, .ref 0), (1, .ref 39), (2, .ref 143), (3, .int (6 : Int32))]) (st' := [.ref 0, .int (6 : Int32)]) rfl ?_
              refine w_lene H (x := (6 : Int32)) (pc' := 21) (L' := [(0, .ref 0), (1, .ref 39), (2, .ref 143), (3, .int (6 : Int32))]) h_m1000 (z_at.mk 1 rfl rfl) (by decide) rfl (by decide) rfl rfl rfl ?_
              refine w_p h_m1000 4 (pc' := 1381) (L' := [(0, .ref 0), (1, .ref 39), (2, .ref 143), (3, .int (6 : Int32))]) (st' := [.int (1 : Int32)]) rfl ?_
              refine w_ri h_m1000 (z_at.mk 1 rfl rfl) rfl rfl ?_
              exact hQ _ _ _ _ H (by decide) (by decide)
            · refine w_f2 (pc' := 5) (L' := [(0, .int (xs 2)), (1, .int (xs 1)), (2, .int (31 : Int32))]) h_m159 (z_at.mk 3 rfl rfl) rfl (zc (a := (xs 2).toInt) (b := (xs 1).toInt) rfl rfl (decide_eq_false (by omega))) rfl rfl ?_
              refine w_p h_m159 2 (pc' := 7) (L' := [(0, .int (xs 2)), (1, .int (xs 1)), (2, .int (31 : Int32))]) (st' := [.int (31 : Int32), .int (xs 2)]) rfl ?_
              by_cases c_7 : (xs 2).toInt ≤ 31
              · refine w_f2 (pc' := 10) (L' := [(0, .int (xs 2)), (1, .int (xs 1)), (2, .int (31 : Int32))]) h_m159 (z_at.mk 3 rfl rfl) rfl (zc (a := (xs 2).toInt) (b := 31) rfl rfl (decide_eq_false (by omega))) rfl rfl ?_
                refine w_p h_m159 2 (pc' := 15) (L' := []) (st' := [.int (1 : Int32)]) rfl ?_
                refine w_ri h_m159 (z_at.mk 1 rfl rfl) rfl rfl ?_
                show z_W 998 164 17 [(0, .int (xs 1)), (1, .int (xs 2)), (2, .int (xs 3)), (3, .int (xs 4))] [.int (1 : Int32)] m _
                refine w_p h_m164 4 (pc' := 24) (L' := [(0, .int (xs 1)), (1, .int (xs 2)), (2, .int (xs 3)), (3, .int (xs 4))]) (st' := [.int (31 : Int32), .int (0 : Int32), .int (xs 3)]) rfl ?_
                refine w_cs (As := [.int (xs 3), .int (0 : Int32), .int (31 : Int32)]) (rest := []) (j := 159) (L0 := [(0, .int (xs 3)), (1, .int (0 : Int32)), (2, .int (31 : Int32))]) (pc' := 27) (L' := [(0, .int (xs 1)), (1, .int (xs 2)), (2, .int (xs 3)), (3, .int (xs 4))]) h_m164 (z_at.mk 3 rfl rfl) (Or.inl ⟨rfl, rfl⟩) rfl rfl rfl rfl rfl ?_
                refine w_p h_m159 2 (pc' := 2) (L' := [(0, .int (xs 3)), (1, .int (0 : Int32)), (2, .int (31 : Int32))]) (st' := [.int (0 : Int32), .int (xs 3)]) rfl ?_
                refine w_f2 (pc' := 5) (L' := [(0, .int (xs 3)), (1, .int (0 : Int32)), (2, .int (31 : Int32))]) h_m159 (z_at.mk 3 rfl rfl) rfl (zc (a := (xs 3).toInt) (b := 0) rfl rfl (decide_eq_false (by omega))) rfl rfl ?_
                refine w_p h_m159 2 (pc' := 7) (L' := [(0, .int (xs 3)), (1, .int (0 : Int32)), (2, .int (31 : Int32))]) (st' := [.int (31 : Int32), .int (xs 3)]) rfl ?_
                refine w_t2 (pc' := 14) (L' := []) h_m159 (z_at.mk 3 rfl rfl) rfl (zc (a := (xs 3).toInt) (b := 31) rfl rfl (decide_eq_true (by omega))) rfl rfl ?_
                refine w_p h_m159 1 (pc' := 15) (L' := []) (st' := [.int (0 : Int32)]) rfl ?_
                refine w_ri h_m159 (z_at.mk 1 rfl rfl) rfl rfl ?_
                show z_W 998 164 27 [(0, .int (xs 1)), (1, .int (xs 2)), (2, .int (xs 3)), (3, .int (xs 4))] [.int (0 : Int32)] m _
                refine w_p h_m164 2 (pc' := 45) (L' := []) (st' := [.int (0 : Int32)]) rfl ?_
                refine w_ri h_m164 (z_at.mk 1 rfl rfl) rfl rfl ?_
                show z_W 999 254 23 [(0, .ref 143), (1, .int (xs 1)), (2, .int (xs 2)), (3, .int (xs 3)), (4, .int (xs 4))] [.int (0 : Int32)] m _
                refine w_p h_m254 2 (pc' := 28) (L' := [(0, .ref 143), (1, .int (xs 1)), (2, .int (xs 2)), (3, .int (xs 3)), (4, .int (xs 4))]) (st' := [.int (-2 : Int32)]) rfl ?_
                refine w_ri h_m254 (z_at.mk 1 rfl rfl) rfl rfl ?_
                show z_W 1000 1000 908 [(0, .ref 0), (1, .ref 39), (2, .ref 143), (3, .int (0 : Int32))] [.int (-2 : Int32), .int (-2 : Int32)] m _
                refine w_p h_m1000 5 (pc' := 20) (L' := [(0, .ref 0), (1, .ref 39), (2, .ref 143), (3, .int (6 : Int32))]) (st' := [.ref 0, .int (6 : Int32)]) rfl ?_
                refine w_lene H (x := (6 : Int32)) (pc' := 21) (L' := [(0, .ref 0), (1, .ref 39), (2, .ref 143), (3, .int (6 : Int32))]) h_m1000 (z_at.mk 1 rfl rfl) (by decide) rfl (by decide) rfl rfl rfl ?_
                refine w_p h_m1000 4 (pc' := 1381) (L' := [(0, .ref 0), (1, .ref 39), (2, .ref 143), (3, .int (6 : Int32))]) (st' := [.int (1 : Int32)]) rfl ?_
                refine w_ri h_m1000 (z_at.mk 1 rfl rfl) rfl rfl ?_
                exact hQ _ _ _ _ H (by decide) (by decide)
              · refine w_t2 (pc' := 14) (L' := []) h_m159 (z_at.mk 3 rfl rfl) rfl (zc (a := (xs 2).toInt) (b := 31) rfl rfl (decide_eq_true (by omega))) rfl rfl ?_
                refine w_p h_m159 1 (pc' := 15) (L' := []) (st' := [.int (0 : Int32)]) rfl ?_
                refine w_ri h_m159 (z_at.mk 1 rfl rfl) rfl rfl ?_
                show z_W 998 164 17 [(0, .int (xs 1)), (1, .int (xs 2)), (2, .int (xs 3)), (3, .int (xs 4))] [.int (0 : Int32)] m _
                refine w_p h_m164 2 (pc' := 45) (L' := []) (st' := [.int (0 : Int32)]) rfl ?_
                refine w_ri h_m164 (z_at.mk 1 rfl rfl) rfl rfl ?_
                show z_W 999 254 23 [(0, .ref 143), (1, .int (xs 1)), (2, .int (xs 2)), (3, .int (xs 3)), (4, .int (xs 4))] [.int (0 : Int32)] m _
                refine w_p h_m254 2 (pc' := 28) (L' := [(0, .ref 143), (1, .int (xs 1)), (2, .int (xs 2)), (3, .int (xs 3)), (4, .int (xs 4))]) (st' := [.int (-2 : Int32)]) rfl ?_
                refine w_ri h_m254 (z_at.mk 1 rfl rfl) rfl rfl ?_
                show z_W 1000 1000 908 [(0, .ref 0), (1, .ref 39), (2, .ref 143), (3, .int (0 : Int32))] [.int (-2 : Int32), .int (-2 : Int32)] m _
                refine w_p h_m1000 5 (pc' := 20) (L' := [(0, .ref 0), (1, .ref 39), (2, .ref 143), (3, .int (6 : Int32))]) (st' := [.ref 0, .int (6 : Int32)]) rfl ?_
                refine w_lene H (x := (6 : Int32)) (pc' := 21) (L' := [(0, .ref 0), (1, .ref 39), (2, .ref 143), (3, .int (6 : Int32))]) h_m1000 (z_at.mk 1 rfl rfl) (by decide) rfl (by decide) rfl rfl rfl ?_
                refine w_p h_m1000 4 (pc' := 1381) (L' := [(0, .ref 0), (1, .ref 39), (2, .ref 143), (3, .int (6 : Int32))]) (st' := [.int (1 : Int32)]) rfl ?_
                refine w_ri h_m1000 (z_at.mk 1 rfl rfl) rfl rfl ?_
                exact hQ _ _ _ _ H (by decide) (by decide)
      · refine w_t2 (pc' := 24) (L' := []) h_m0 (z_at.mk 3 rfl rfl) rfl (zc (a := (xs 1).toInt) (b := 32) rfl rfl (decide_eq_true (by omega))) rfl rfl ?_
        refine w_p h_m0 1 (pc' := 25) (L' := []) (st' := [.int (0 : Int32)]) rfl ?_
        refine w_ri h_m0 (z_at.mk 1 rfl rfl) rfl rfl ?_
        show z_W 998 1 5 [(0, .int (xs 1)), (1, .int (xs 2)), (2, .int (xs 3)), (3, .int (xs 4))] [.int (0 : Int32)] m _
        refine w_p h_m1 2 (pc' := 31) (L' := []) (st' := [.int (0 : Int32)]) rfl ?_
        refine w_ri h_m1 (z_at.mk 1 rfl rfl) rfl rfl ?_
        show z_W 999 143 26 [(0, .ref 39), (1, .int (xs 1)), (2, .int (xs 2)), (3, .int (xs 3)), (4, .int (xs 4))] [.int (0 : Int32)] m _
        refine w_p h_m143 2 (pc' := 31) (L' := [(0, .ref 39), (1, .int (xs 1)), (2, .int (xs 2)), (3, .int (xs 3)), (4, .int (xs 4))]) (st' := [.int (-2 : Int32)]) rfl ?_
        refine w_ri h_m143 (z_at.mk 1 rfl rfl) rfl rfl ?_
        show z_W 1000 1000 884 [(0, .ref 0), (1, .ref 39), (2, .ref 143), (3, .int (0 : Int32))] [.int (-2 : Int32)] m _
        refine w_p h_m1000 5 (pc' := 889) (L' := [(0, .ref 0), (1, .ref 39), (2, .ref 143), (3, .int (0 : Int32))]) (st' := [.int (1 : Int32), .ref 0, .ref 143, .int (-2 : Int32)]) rfl ?_
        refine w_ae H (j := 1) (pc' := 890) (L' := [(0, .ref 0), (1, .ref 39), (2, .ref 143), (3, .int (0 : Int32))]) h_m1000 (z_at.mk 1 rfl rfl) rfl rfl rfl (by decide) rfl (by decide) rfl rfl rfl ?_
        refine w_p h_m1000 4 (pc' := 894) (L' := [(0, .ref 0), (1, .ref 39), (2, .ref 143), (3, .int (0 : Int32))]) (st' := [.int (2 : Int32), .ref 0, .int (xs 1), .ref 143, .int (-2 : Int32)]) rfl ?_
        refine w_ae H (j := 2) (pc' := 895) (L' := [(0, .ref 0), (1, .ref 39), (2, .ref 143), (3, .int (0 : Int32))]) h_m1000 (z_at.mk 1 rfl rfl) rfl rfl rfl (by decide) rfl (by decide) rfl rfl rfl ?_
        refine w_p h_m1000 4 (pc' := 899) (L' := [(0, .ref 0), (1, .ref 39), (2, .ref 143), (3, .int (0 : Int32))]) (st' := [.int (3 : Int32), .ref 0, .int (xs 2), .int (xs 1), .ref 143, .int (-2 : Int32)]) rfl ?_
        refine w_ae H (j := 3) (pc' := 900) (L' := [(0, .ref 0), (1, .ref 39), (2, .ref 143), (3, .int (0 : Int32))]) h_m1000 (z_at.mk 1 rfl rfl) rfl rfl rfl (by decide) rfl (by decide) rfl rfl rfl ?_
        refine w_p h_m1000 4 (pc' := 904) (L' := [(0, .ref 0), (1, .ref 39), (2, .ref 143), (3, .int (0 : Int32))]) (st' := [.int (4 : Int32), .ref 0, .int (xs 3), .int (xs 2), .int (xs 1), .ref 143, .int (-2 : Int32)]) rfl ?_
        refine w_ae H (j := 4) (pc' := 905) (L' := [(0, .ref 0), (1, .ref 39), (2, .ref 143), (3, .int (0 : Int32))]) h_m1000 (z_at.mk 1 rfl rfl) rfl rfl rfl (by decide) rfl (by decide) rfl rfl rfl ?_
        refine w_cv (H.t rfl) (pc' := 908) (L' := [(0, .ref 0), (1, .ref 39), (2, .ref 143), (3, .int (0 : Int32))]) (rest := [.int (-2 : Int32)]) (Ps := [.int (xs 1), .int (xs 2), .int (xs 3), .int (xs 4)]) (L0 := [(0, .ref 143), (1, .int (xs 1)), (2, .int (xs 2)), (3, .int (xs 3)), (4, .int (xs 4))]) h_m1000 (z_at.mk 3 rfl rfl) (Or.inl ⟨rfl, rfl⟩) rfl rfl (by decide) (by decide) rfl rfl rfl rfl rfl rfl (by decide) rfl rfl rfl ?_
        refine w_p h_m254 2 (pc' := 2) (L' := [(0, .ref 143), (1, .int (xs 1)), (2, .int (xs 2)), (3, .int (xs 3)), (4, .int (xs 4))]) (st' := [.int (-1 : Int32), .int (xs 1)]) rfl ?_
        refine w_t2 (pc' := 15) (L' := [(0, .ref 143), (1, .int (xs 1)), (2, .int (xs 2)), (3, .int (xs 3)), (4, .int (xs 4))]) h_m254 (z_at.mk 3 rfl rfl) rfl (zc (a := (xs 1).toInt) (b := (-1)) rfl rfl (decide_eq_true (by omega))) rfl rfl ?_
        refine w_p h_m254 4 (pc' := 20) (L' := [(0, .ref 143), (1, .int (xs 1)), (2, .int (xs 2)), (3, .int (xs 3)), (4, .int (xs 4))]) (st' := [.int (xs 4), .int (xs 3), .int (xs 2), .int (xs 1)]) rfl ?_
        refine w_cs (As := [.int (xs 1), .int (xs 2), .int (xs 3), .int (xs 4)]) (rest := []) (j := 164) (L0 := [(0, .int (xs 1)), (1, .int (xs 2)), (2, .int (xs 3)), (3, .int (xs 4))]) (pc' := 23) (L' := [(0, .ref 143), (1, .int (xs 1)), (2, .int (xs 2)), (3, .int (xs 3)), (4, .int (xs 4))]) h_m254 (z_at.mk 3 rfl rfl) (Or.inl ⟨rfl, rfl⟩) rfl rfl rfl rfl rfl ?_
        refine w_p h_m164 3 (pc' := 4) (L' := [(0, .int (xs 1)), (1, .int (xs 2)), (2, .int (xs 3)), (3, .int (xs 4))]) (st' := [.int (31 : Int32), .int (0 : Int32), .int (xs 1)]) rfl ?_
        refine w_cs (As := [.int (xs 1), .int (0 : Int32), .int (31 : Int32)]) (rest := []) (j := 159) (L0 := [(0, .int (xs 1)), (1, .int (0 : Int32)), (2, .int (31 : Int32))]) (pc' := 7) (L' := [(0, .int (xs 1)), (1, .int (xs 2)), (2, .int (xs 3)), (3, .int (xs 4))]) h_m164 (z_at.mk 3 rfl rfl) (Or.inl ⟨rfl, rfl⟩) rfl rfl rfl rfl rfl ?_
        refine w_p h_m159 2 (pc' := 2) (L' := [(0, .int (xs 1)), (1, .int (0 : Int32)), (2, .int (31 : Int32))]) (st' := [.int (0 : Int32), .int (xs 1)]) rfl ?_
        refine w_f2 (pc' := 5) (L' := [(0, .int (xs 1)), (1, .int (0 : Int32)), (2, .int (31 : Int32))]) h_m159 (z_at.mk 3 rfl rfl) rfl (zc (a := (xs 1).toInt) (b := 0) rfl rfl (decide_eq_false (by omega))) rfl rfl ?_
        refine w_p h_m159 2 (pc' := 7) (L' := [(0, .int (xs 1)), (1, .int (0 : Int32)), (2, .int (31 : Int32))]) (st' := [.int (31 : Int32), .int (xs 1)]) rfl ?_
        refine w_t2 (pc' := 14) (L' := []) h_m159 (z_at.mk 3 rfl rfl) rfl (zc (a := (xs 1).toInt) (b := 31) rfl rfl (decide_eq_true (by omega))) rfl rfl ?_
        refine w_p h_m159 1 (pc' := 15) (L' := []) (st' := [.int (0 : Int32)]) rfl ?_
        refine w_ri h_m159 (z_at.mk 1 rfl rfl) rfl rfl ?_
        show z_W 998 164 7 [(0, .int (xs 1)), (1, .int (xs 2)), (2, .int (xs 3)), (3, .int (xs 4))] [.int (0 : Int32)] m _
        refine w_p h_m164 2 (pc' := 45) (L' := []) (st' := [.int (0 : Int32)]) rfl ?_
        refine w_ri h_m164 (z_at.mk 1 rfl rfl) rfl rfl ?_
        show z_W 999 254 23 [(0, .ref 143), (1, .int (xs 1)), (2, .int (xs 2)), (3, .int (xs 3)), (4, .int (xs 4))] [.int (0 : Int32)] m _
        refine w_p h_m254 2 (pc' := 28) (L' := [(0, .ref 143), (1, .int (xs 1)), (2, .int (xs 2)), (3, .int (xs 3)), (4, .int (xs 4))]) (st' := [.int (-2 : Int32)]) rfl ?_
        refine w_ri h_m254 (z_at.mk 1 rfl rfl) rfl rfl ?_
        show z_W 1000 1000 908 [(0, .ref 0), (1, .ref 39), (2, .ref 143), (3, .int (0 : Int32))] [.int (-2 : Int32), .int (-2 : Int32)] m _
        refine w_p h_m1000 5 (pc' := 20) (L' := [(0, .ref 0), (1, .ref 39), (2, .ref 143), (3, .int (6 : Int32))]) (st' := [.ref 0, .int (6 : Int32)]) rfl ?_
        refine w_lene H (x := (6 : Int32)) (pc' := 21) (L' := [(0, .ref 0), (1, .ref 39), (2, .ref 143), (3, .int (6 : Int32))]) h_m1000 (z_at.mk 1 rfl rfl) (by decide) rfl (by decide) rfl rfl rfl ?_
        refine w_p h_m1000 4 (pc' := 1381) (L' := [(0, .ref 0), (1, .ref 39), (2, .ref 143), (3, .int (6 : Int32))]) (st' := [.int (1 : Int32)]) rfl ?_
        refine w_ri h_m1000 (z_at.mk 1 rfl rfl) rfl rfl ?_
        exact hQ _ _ _ _ H (by decide) (by decide)
set_option maxHeartbeats 400000000 in
set_option maxRecDepth 20000 in
theorem w_c32 {xs : Nat → Int32} {m : zM} {Q : Option Value → zM → Prop} (H : w_ok 6 xs 168 63950 w_T0 m) (hQ : ∀ N S T m, w_ok 6 xs N S T m → N ≤ 600039 → S ≤ 7302250 → Q (some (.int 1)) m) : z_W 1000 1000 1219 [(0, .ref 0), (1, .ref 39), (2, .ref 143), (3, .int (0 : Int32))] [] m Q := by
  have b1 := zi_bd (xs 1)
  have b2 := zi_bd (xs 2)
  have b3 := zi_bd (xs 3)
  have b4 := zi_bd (xs 4)
  have b5 := zi_bd (xs 5)
  refine w_p h_m1000 5 (pc' := 1224) (L' := [(0, .ref 0), (1, .ref 39), (2, .ref 143), (3, .int (0 : Int32))]) (st' := [.int (1 : Int32), .ref 0, .ref 39]) rfl ?_
  refine w_ae H (j := 1) (pc' := 1225) (L' := [(0, .ref 0), (1, .ref 39), (2, .ref 143), (3, .int (0 : Int32))]) h_m1000 (z_at.mk 1 rfl rfl) rfl rfl rfl (by decide) rfl (by decide) rfl rfl rfl ?_
  refine w_p h_m1000 4 (pc' := 1229) (L' := [(0, .ref 0), (1, .ref 39), (2, .ref 143), (3, .int (0 : Int32))]) (st' := [.int (2 : Int32), .ref 0, .int (xs 1), .ref 39]) rfl ?_
  refine w_ae H (j := 2) (pc' := 1230) (L' := [(0, .ref 0), (1, .ref 39), (2, .ref 143), (3, .int (0 : Int32))]) h_m1000 (z_at.mk 1 rfl rfl) rfl rfl rfl (by decide) rfl (by decide) rfl rfl rfl ?_
  refine w_p h_m1000 4 (pc' := 1234) (L' := [(0, .ref 0), (1, .ref 39), (2, .ref 143), (3, .int (0 : Int32))]) (st' := [.int (3 : Int32), .ref 0, .int (xs 2), .int (xs 1), .ref 39]) rfl ?_
  refine w_ae H (j := 3) (pc' := 1235) (L' := [(0, .ref 0), (1, .ref 39), (2, .ref 143), (3, .int (0 : Int32))]) h_m1000 (z_at.mk 1 rfl rfl) rfl rfl rfl (by decide) rfl (by decide) rfl rfl rfl ?_
  refine w_p h_m1000 4 (pc' := 1239) (L' := [(0, .ref 0), (1, .ref 39), (2, .ref 143), (3, .int (0 : Int32))]) (st' := [.int (4 : Int32), .ref 0, .int (xs 3), .int (xs 2), .int (xs 1), .ref 39]) rfl ?_
  refine w_ae H (j := 4) (pc' := 1240) (L' := [(0, .ref 0), (1, .ref 39), (2, .ref 143), (3, .int (0 : Int32))]) h_m1000 (z_at.mk 1 rfl rfl) rfl rfl rfl (by decide) rfl (by decide) rfl rfl rfl ?_
  refine w_p h_m1000 4 (pc' := 1244) (L' := [(0, .ref 0), (1, .ref 39), (2, .ref 143), (3, .int (0 : Int32))]) (st' := [.int (5 : Int32), .ref 0, .int (xs 4), .int (xs 3), .int (xs 2), .int (xs 1), .ref 39]) rfl ?_
  refine w_ae H (j := 5) (pc' := 1245) (L' := [(0, .ref 0), (1, .ref 39), (2, .ref 143), (3, .int (0 : Int32))]) h_m1000 (z_at.mk 1 rfl rfl) rfl rfl rfl (by decide) rfl (by decide) rfl rfl rfl ?_
  refine w_cv (H.t rfl) (pc' := 1248) (L' := [(0, .ref 0), (1, .ref 39), (2, .ref 143), (3, .int (0 : Int32))]) (rest := []) (Ps := [.int (xs 1), .int (xs 2), .int (xs 3), .int (xs 4), .int (xs 5)]) (L0 := [(0, .ref 39), (1, .int (xs 1)), (2, .int (xs 2)), (3, .int (xs 3)), (4, .int (xs 4)), (5, .int (xs 5))]) h_m1000 (z_at.mk 3 rfl rfl) (Or.inl ⟨rfl, rfl⟩) rfl rfl (by decide) (by decide) rfl rfl rfl rfl rfl rfl (by decide) rfl rfl rfl ?_
  refine w_p h_m153 1 (pc' := 1) (L' := [(0, .ref 39), (1, .int (xs 1)), (2, .int (xs 2)), (3, .int (xs 3)), (4, .int (xs 4)), (5, .int (xs 5))]) (st' := [.int (xs 1)]) rfl ?_
  refine w_cs (As := [.int (xs 1)]) (rest := []) (j := 58) (L0 := [(0, .int (xs 1))]) (pc' := 4) (L' := [(0, .ref 39), (1, .int (xs 1)), (2, .int (xs 2)), (3, .int (xs 3)), (4, .int (xs 4)), (5, .int (xs 5))]) h_m153 (z_at.mk 3 rfl rfl) (Or.inl ⟨rfl, rfl⟩) rfl rfl rfl rfl rfl ?_
  refine w_p h_m58 1 (pc' := 1) (L' := [(0, .int (xs 1))]) (st' := [.int (xs 1)]) rfl ?_
  by_cases c_1 : (xs 1).toInt < 0
  · refine w_t1 (pc' := 14) (L' := []) h_m58 (z_at.mk 3 rfl rfl) rfl (zc (a := (xs 1).toInt) (b := 0) rfl rfl (decide_eq_true (by omega))) rfl rfl ?_
    refine w_p h_m58 1 (pc' := 15) (L' := []) (st' := [.int (0 : Int32)]) rfl ?_
    refine w_ri h_m58 (z_at.mk 1 rfl rfl) rfl rfl ?_
    show z_W 999 153 4 [(0, .ref 39), (1, .int (xs 1)), (2, .int (xs 2)), (3, .int (xs 3)), (4, .int (xs 4)), (5, .int (xs 5))] [.int (0 : Int32)] m _
    refine w_p h_m153 2 (pc' := 15) (L' := []) (st' := [.int (-1 : Int32)]) rfl ?_
    refine w_ri h_m153 (z_at.mk 1 rfl rfl) rfl rfl ?_
    show z_W 1000 1000 1248 [(0, .ref 0), (1, .ref 39), (2, .ref 143), (3, .int (0 : Int32))] [.int (-1 : Int32)] m _
    refine w_p h_m1000 5 (pc' := 1253) (L' := [(0, .ref 0), (1, .ref 39), (2, .ref 143), (3, .int (0 : Int32))]) (st' := [.int (1 : Int32), .ref 0, .ref 143, .int (-1 : Int32)]) rfl ?_
    refine w_ae H (j := 1) (pc' := 1254) (L' := [(0, .ref 0), (1, .ref 39), (2, .ref 143), (3, .int (0 : Int32))]) h_m1000 (z_at.mk 1 rfl rfl) rfl rfl rfl (by decide) rfl (by decide) rfl rfl rfl ?_
    refine w_p h_m1000 4 (pc' := 1258) (L' := [(0, .ref 0), (1, .ref 39), (2, .ref 143), (3, .int (0 : Int32))]) (st' := [.int (2 : Int32), .ref 0, .int (xs 1), .ref 143, .int (-1 : Int32)]) rfl ?_
    refine w_ae H (j := 2) (pc' := 1259) (L' := [(0, .ref 0), (1, .ref 39), (2, .ref 143), (3, .int (0 : Int32))]) h_m1000 (z_at.mk 1 rfl rfl) rfl rfl rfl (by decide) rfl (by decide) rfl rfl rfl ?_
    refine w_p h_m1000 4 (pc' := 1263) (L' := [(0, .ref 0), (1, .ref 39), (2, .ref 143), (3, .int (0 : Int32))]) (st' := [.int (3 : Int32), .ref 0, .int (xs 2), .int (xs 1), .ref 143, .int (-1 : Int32)]) rfl ?_
    refine w_ae H (j := 3) (pc' := 1264) (L' := [(0, .ref 0), (1, .ref 39), (2, .ref 143), (3, .int (0 : Int32))]) h_m1000 (z_at.mk 1 rfl rfl) rfl rfl rfl (by decide) rfl (by decide) rfl rfl rfl ?_
    refine w_p h_m1000 4 (pc' := 1268) (L' := [(0, .ref 0), (1, .ref 39), (2, .ref 143), (3, .int (0 : Int32))]) (st' := [.int (4 : Int32), .ref 0, .int (xs 3), .int (xs 2), .int (xs 1), .ref 143, .int (-1 : Int32)]) rfl ?_
    refine w_ae H (j := 4) (pc' := 1269) (L' := [(0, .ref 0), (1, .ref 39), (2, .ref 143), (3, .int (0 : Int32))]) h_m1000 (z_at.mk 1 rfl rfl) rfl rfl rfl (by decide) rfl (by decide) rfl rfl rfl ?_
    refine w_p h_m1000 4 (pc' := 1273) (L' := [(0, .ref 0), (1, .ref 39), (2, .ref 143), (3, .int (0 : Int32))]) (st' := [.int (5 : Int32), .ref 0, .int (xs 4), .int (xs 3), .int (xs 2), .int (xs 1), .ref 143, .int (-1 : Int32)]) rfl ?_
    refine w_ae H (j := 5) (pc' := 1274) (L' := [(0, .ref 0), (1, .ref 39), (2, .ref 143), (3, .int (0 : Int32))]) h_m1000 (z_at.mk 1 rfl rfl) rfl rfl rfl (by decide) rfl (by decide) rfl rfl rfl ?_
    refine w_cv (H.t rfl) (pc' := 1277) (L' := [(0, .ref 0), (1, .ref 39), (2, .ref 143), (3, .int (0 : Int32))]) (rest := [.int (-1 : Int32)]) (Ps := [.int (xs 1), .int (xs 2), .int (xs 3), .int (xs 4), .int (xs 5)]) (L0 := [(0, .ref 143), (1, .int (xs 1)), (2, .int (xs 2)), (3, .int (xs 3)), (4, .int (xs 4)), (5, .int (xs 5))]) h_m1000 (z_at.mk 3 rfl rfl) (Or.inl ⟨rfl, rfl⟩) rfl rfl (by decide) (by decide) rfl rfl rfl rfl rfl rfl (by decide) rfl rfl rfl ?_
    refine w_p h_m267 1 (pc' := 1) (L' := [(0, .ref 143), (1, .int (xs 1)), (2, .int (xs 2)), (3, .int (xs 3)), (4, .int (xs 4)), (5, .int (xs 5))]) (st' := [.int (xs 1)]) rfl ?_
    refine w_cs (As := [.int (xs 1)]) (rest := []) (j := 262) (L0 := [(0, .int (xs 1))]) (pc' := 4) (L' := [(0, .ref 143), (1, .int (xs 1)), (2, .int (xs 2)), (3, .int (xs 3)), (4, .int (xs 4)), (5, .int (xs 5))]) h_m267 (z_at.mk 3 rfl rfl) (Or.inl ⟨rfl, rfl⟩) rfl rfl rfl rfl rfl ?_
    refine w_p h_m262 3 (pc' := 3) (L' := [(0, .int (xs 1))]) (st' := [.int (5 : Int32), .int (0 : Int32), .int (xs 1)]) rfl ?_
    refine w_cs (As := [.int (xs 1), .int (0 : Int32), .int (5 : Int32)]) (rest := []) (j := 159) (L0 := [(0, .int (xs 1)), (1, .int (0 : Int32)), (2, .int (5 : Int32))]) (pc' := 6) (L' := [(0, .int (xs 1))]) h_m262 (z_at.mk 3 rfl rfl) (Or.inl ⟨rfl, rfl⟩) rfl rfl rfl rfl rfl ?_
    refine w_p h_m159 2 (pc' := 2) (L' := [(0, .int (xs 1)), (1, .int (0 : Int32)), (2, .int (5 : Int32))]) (st' := [.int (0 : Int32), .int (xs 1)]) rfl ?_
    refine w_t2 (pc' := 14) (L' := []) h_m159 (z_at.mk 3 rfl rfl) rfl (zc (a := (xs 1).toInt) (b := 0) rfl rfl (decide_eq_true (by omega))) rfl rfl ?_
    refine w_p h_m159 1 (pc' := 15) (L' := []) (st' := [.int (0 : Int32)]) rfl ?_
    refine w_ri h_m159 (z_at.mk 1 rfl rfl) rfl rfl ?_
    show z_W 998 262 6 [(0, .int (xs 1))] [.int (0 : Int32)] m _
    refine w_ri h_m262 (z_at.mk 1 rfl rfl) rfl rfl ?_
    show z_W 999 267 4 [(0, .ref 143), (1, .int (xs 1)), (2, .int (xs 2)), (3, .int (xs 3)), (4, .int (xs 4)), (5, .int (xs 5))] [.int (0 : Int32)] m _
    refine w_p h_m267 2 (pc' := 15) (L' := []) (st' := [.int (-1 : Int32)]) rfl ?_
    refine w_ri h_m267 (z_at.mk 1 rfl rfl) rfl rfl ?_
    show z_W 1000 1000 1277 [(0, .ref 0), (1, .ref 39), (2, .ref 143), (3, .int (0 : Int32))] [.int (-1 : Int32), .int (-1 : Int32)] m _
    refine w_p h_m1000 5 (pc' := 20) (L' := [(0, .ref 0), (1, .ref 39), (2, .ref 143), (3, .int (6 : Int32))]) (st' := [.ref 0, .int (6 : Int32)]) rfl ?_
    refine w_lene H (x := (6 : Int32)) (pc' := 21) (L' := [(0, .ref 0), (1, .ref 39), (2, .ref 143), (3, .int (6 : Int32))]) h_m1000 (z_at.mk 1 rfl rfl) (by decide) rfl (by decide) rfl rfl rfl ?_
    refine w_p h_m1000 4 (pc' := 1381) (L' := [(0, .ref 0), (1, .ref 39), (2, .ref 143), (3, .int (6 : Int32))]) (st' := [.int (1 : Int32)]) rfl ?_
    refine w_ri h_m1000 (z_at.mk 1 rfl rfl) rfl rfl ?_
    exact hQ _ _ _ _ H (by decide) (by decide)
  · refine w_f1 (pc' := 4) (L' := [(0, .int (xs 1))]) h_m58 (z_at.mk 3 rfl rfl) rfl (zc (a := (xs 1).toInt) (b := 0) rfl rfl (decide_eq_false (by omega))) rfl rfl ?_
    refine w_p h_m58 2 (pc' := 7) (L' := [(0, .int (xs 1))]) (st' := [.int (6 : Int32), .int (xs 1)]) rfl ?_
    by_cases c_2 : (xs 1).toInt < 6
    · refine w_f2 (pc' := 10) (L' := [(0, .int (xs 1))]) h_m58 (z_at.mk 3 rfl rfl) rfl (zc (a := (xs 1).toInt) (b := 6) rfl rfl (decide_eq_false (by omega))) rfl rfl ?_
      refine w_p h_m58 2 (pc' := 15) (L' := []) (st' := [.int (1 : Int32)]) rfl ?_
      refine w_ri h_m58 (z_at.mk 1 rfl rfl) rfl rfl ?_
      show z_W 999 153 4 [(0, .ref 39), (1, .int (xs 1)), (2, .int (xs 2)), (3, .int (xs 3)), (4, .int (xs 4)), (5, .int (xs 5))] [.int (1 : Int32)] m _
      refine w_p h_m153 2 (pc' := 8) (L' := [(0, .ref 39), (1, .int (xs 1)), (2, .int (xs 2)), (3, .int (xs 3)), (4, .int (xs 4)), (5, .int (xs 5))]) (st' := [.int (xs 3)]) rfl ?_
      refine w_cs (As := [.int (xs 3)]) (rest := []) (j := 58) (L0 := [(0, .int (xs 3))]) (pc' := 11) (L' := [(0, .ref 39), (1, .int (xs 1)), (2, .int (xs 2)), (3, .int (xs 3)), (4, .int (xs 4)), (5, .int (xs 5))]) h_m153 (z_at.mk 3 rfl rfl) (Or.inl ⟨rfl, rfl⟩) rfl rfl rfl rfl rfl ?_
      refine w_p h_m58 1 (pc' := 1) (L' := [(0, .int (xs 3))]) (st' := [.int (xs 3)]) rfl ?_
      by_cases c_3 : (xs 3).toInt < 0
      · refine w_t1 (pc' := 14) (L' := []) h_m58 (z_at.mk 3 rfl rfl) rfl (zc (a := (xs 3).toInt) (b := 0) rfl rfl (decide_eq_true (by omega))) rfl rfl ?_
        refine w_p h_m58 1 (pc' := 15) (L' := []) (st' := [.int (0 : Int32)]) rfl ?_
        refine w_ri h_m58 (z_at.mk 1 rfl rfl) rfl rfl ?_
        show z_W 999 153 11 [(0, .ref 39), (1, .int (xs 1)), (2, .int (xs 2)), (3, .int (xs 3)), (4, .int (xs 4)), (5, .int (xs 5))] [.int (0 : Int32)] m _
        refine w_p h_m153 2 (pc' := 15) (L' := []) (st' := [.int (-1 : Int32)]) rfl ?_
        refine w_ri h_m153 (z_at.mk 1 rfl rfl) rfl rfl ?_
        show z_W 1000 1000 1248 [(0, .ref 0), (1, .ref 39), (2, .ref 143), (3, .int (0 : Int32))] [.int (-1 : Int32)] m _
        refine w_p h_m1000 5 (pc' := 1253) (L' := [(0, .ref 0), (1, .ref 39), (2, .ref 143), (3, .int (0 : Int32))]) (st' := [.int (1 : Int32), .ref 0, .ref 143, .int (-1 : Int32)]) rfl ?_
        refine w_ae H (j := 1) (pc' := 1254) (L' := [(0, .ref 0), (1, .ref 39), (2, .ref 143), (3, .int (0 : Int32))]) h_m1000 (z_at.mk 1 rfl rfl) rfl rfl rfl (by decide) rfl (by decide) rfl rfl rfl ?_
        refine w_p h_m1000 4 (pc' := 1258) (L' := [(0, .ref 0), (1, .ref 39), (2, .ref 143), (3, .int (0 : Int32))]) (st' := [.int (2 : Int32), .ref 0, .int (xs 1), .ref 143, .int (-1 : Int32)]) rfl ?_
        refine w_ae H (j := 2) (pc' := 1259) (L' := [(0, .ref 0), (1, .ref 39), (2, .ref 143), (3, .int (0 : Int32))]) h_m1000 (z_at.mk 1 rfl rfl) rfl rfl rfl (by decide) rfl (by decide) rfl rfl rfl ?_
        refine w_p h_m1000 4 (pc' := 1263) (L' := [(0, .ref 0), (1, .ref 39), (2, .ref 143), (3, .int (0 : Int32))]) (st' := [.int (3 : Int32), .ref 0, .int (xs 2), .int (xs 1), .ref 143, .int (-1 : Int32)]) rfl ?_
        refine w_ae H (j := 3) (pc' := 1264) (L' := [(0, .ref 0), (1, .ref 39), (2, .ref 143), (3, .int (0 : Int32))]) h_m1000 (z_at.mk 1 rfl rfl) rfl rfl rfl (by decide) rfl (by decide) rfl rfl rfl ?_
        refine w_p h_m1000 4 (pc' := 1268) (L' := [(0, .ref 0), (1, .ref 39), (2, .ref 143), (3, .int (0 : Int32))]) (st' := [.int (4 : Int32), .ref 0, .int (xs 3), .int (xs 2), .int (xs 1), .ref 143, .int (-1 : Int32)]) rfl ?_
        refine w_ae H (j := 4) (pc' := 1269) (L' := [(0, .ref 0), (1, .ref 39), (2, .ref 143), (3, .int (0 : Int32))]) h_m1000 (z_at.mk 1 rfl rfl) rfl rfl rfl (by decide) rfl (by decide) rfl rfl rfl ?_
        refine w_p h_m1000 4 (pc' := 1273) (L' := [(0, .ref 0), (1, .ref 39), (2, .ref 143), (3, .int (0 : Int32))]) (st' := [.int (5 : Int32), .ref 0, .int (xs 4), .int (xs 3), .int (xs 2), .int (xs 1), .ref 143, .int (-1 : Int32)]) rfl ?_
        refine w_ae H (j := 5) (pc' := 1274) (L' := [(0, .ref 0), (1, .ref 39), (2, .ref 143), (3, .int (0 : Int32))]) h_m1000 (z_at.mk 1 rfl rfl) rfl rfl rfl (by decide) rfl (by decide) rfl rfl rfl ?_
        refine w_cv (H.t rfl) (pc' := 1277) (L' := [(0, .ref 0), (1, .ref 39), (2, .ref 143), (3, .int (0 : Int32))]) (rest := [.int (-1 : Int32)]) (Ps := [.int (xs 1), .int (xs 2), .int (xs 3), .int (xs 4), .int (xs 5)]) (L0 := [(0, .ref 143), (1, .int (xs 1)), (2, .int (xs 2)), (3, .int (xs 3)), (4, .int (xs 4)), (5, .int (xs 5))]) h_m1000 (z_at.mk 3 rfl rfl) (Or.inl ⟨rfl, rfl⟩) rfl rfl (by decide) (by decide) rfl rfl rfl rfl rfl rfl (by decide) rfl rfl rfl ?_
        refine w_p h_m267 1 (pc' := 1) (L' := [(0, .ref 143), (1, .int (xs 1)), (2, .int (xs 2)), (3, .int (xs 3)), (4, .int (xs 4)), (5, .int (xs 5))]) (st' := [.int (xs 1)]) rfl ?_
        refine w_cs (As := [.int (xs 1)]) (rest := []) (j := 262) (L0 := [(0, .int (xs 1))]) (pc' := 4) (L' := [(0, .ref 143), (1, .int (xs 1)), (2, .int (xs 2)), (3, .int (xs 3)), (4, .int (xs 4)), (5, .int (xs 5))]) h_m267 (z_at.mk 3 rfl rfl) (Or.inl ⟨rfl, rfl⟩) rfl rfl rfl rfl rfl ?_
        refine w_p h_m262 3 (pc' := 3) (L' := [(0, .int (xs 1))]) (st' := [.int (5 : Int32), .int (0 : Int32), .int (xs 1)]) rfl ?_
        refine w_cs (As := [.int (xs 1), .int (0 : Int32), .int (5 : Int32)]) (rest := []) (j := 159) (L0 := [(0, .int (xs 1)), (1, .int (0 : Int32)), (2, .int (5 : Int32))]) (pc' := 6) (L' := [(0, .int (xs 1))]) h_m262 (z_at.mk 3 rfl rfl) (Or.inl ⟨rfl, rfl⟩) rfl rfl rfl rfl rfl ?_
        refine w_p h_m159 2 (pc' := 2) (L' := [(0, .int (xs 1)), (1, .int (0 : Int32)), (2, .int (5 : Int32))]) (st' := [.int (0 : Int32), .int (xs 1)]) rfl ?_
        refine w_f2 (pc' := 5) (L' := [(0, .int (xs 1)), (1, .int (0 : Int32)), (2, .int (5 : Int32))]) h_m159 (z_at.mk 3 rfl rfl) rfl (zc (a := (xs 1).toInt) (b := 0) rfl rfl (decide_eq_false (by omega))) rfl rfl ?_
        refine w_p h_m159 2 (pc' := 7) (L' := [(0, .int (xs 1)), (1, .int (0 : Int32)), (2, .int (5 : Int32))]) (st' := [.int (5 : Int32), .int (xs 1)]) rfl ?_
        refine w_f2 (pc' := 10) (L' := [(0, .int (xs 1)), (1, .int (0 : Int32)), (2, .int (5 : Int32))]) h_m159 (z_at.mk 3 rfl rfl) rfl (zc (a := (xs 1).toInt) (b := 5) rfl rfl (decide_eq_false (by omega))) rfl rfl ?_
        refine w_p h_m159 2 (pc' := 15) (L' := []) (st' := [.int (1 : Int32)]) rfl ?_
        refine w_ri h_m159 (z_at.mk 1 rfl rfl) rfl rfl ?_
        show z_W 998 262 6 [(0, .int (xs 1))] [.int (1 : Int32)] m _
        refine w_ri h_m262 (z_at.mk 1 rfl rfl) rfl rfl ?_
        show z_W 999 267 4 [(0, .ref 143), (1, .int (xs 1)), (2, .int (xs 2)), (3, .int (xs 3)), (4, .int (xs 4)), (5, .int (xs 5))] [.int (1 : Int32)] m _
        refine w_p h_m267 2 (pc' := 8) (L' := [(0, .ref 143), (1, .int (xs 1)), (2, .int (xs 2)), (3, .int (xs 3)), (4, .int (xs 4)), (5, .int (xs 5))]) (st' := [.int (xs 3)]) rfl ?_
        refine w_cs (As := [.int (xs 3)]) (rest := []) (j := 262) (L0 := [(0, .int (xs 3))]) (pc' := 11) (L' := [(0, .ref 143), (1, .int (xs 1)), (2, .int (xs 2)), (3, .int (xs 3)), (4, .int (xs 4)), (5, .int (xs 5))]) h_m267 (z_at.mk 3 rfl rfl) (Or.inl ⟨rfl, rfl⟩) rfl rfl rfl rfl rfl ?_
        refine w_p h_m262 3 (pc' := 3) (L' := [(0, .int (xs 3))]) (st' := [.int (5 : Int32), .int (0 : Int32), .int (xs 3)]) rfl ?_
        refine w_cs (As := [.int (xs 3), .int (0 : Int32), .int (5 : Int32)]) (rest := []) (j := 159) (L0 := [(0, .int (xs 3)), (1, .int (0 : Int32)), (2, .int (5 : Int32))]) (pc' := 6) (L' := [(0, .int (xs 3))]) h_m262 (z_at.mk 3 rfl rfl) (Or.inl ⟨rfl, rfl⟩) rfl rfl rfl rfl rfl ?_
        refine w_p h_m159 2 (pc' := 2) (L' := [(0, .int (xs 3)), (1, .int (0 : Int32)), (2, .int (5 : Int32))]) (st' := [.int (0 : Int32), .int (xs 3)]) rfl ?_
        refine w_t2 (pc' := 14) (L' := []) h_m159 (z_at.mk 3 rfl rfl) rfl (zc (a := (xs 3).toInt) (b := 0) rfl rfl (decide_eq_true (by omega))) rfl rfl ?_
        refine w_p h_m159 1 (pc' := 15) (L' := []) (st' := [.int (0 : Int32)]) rfl ?_
        refine w_ri h_m159 (z_at.mk 1 rfl rfl) rfl rfl ?_
        show z_W 998 262 6 [(0, .int (xs 3))] [.int (0 : Int32)] m _
        refine w_ri h_m262 (z_at.mk 1 rfl rfl) rfl rfl ?_
        show z_W 999 267 11 [(0, .ref 143), (1, .int (xs 1)), (2, .int (xs 2)), (3, .int (xs 3)), (4, .int (xs 4)), (5, .int (xs 5))] [.int (0 : Int32)] m _
        refine w_p h_m267 2 (pc' := 15) (L' := []) (st' := [.int (-1 : Int32)]) rfl ?_
        refine w_ri h_m267 (z_at.mk 1 rfl rfl) rfl rfl ?_
        show z_W 1000 1000 1277 [(0, .ref 0), (1, .ref 39), (2, .ref 143), (3, .int (0 : Int32))] [.int (-1 : Int32), .int (-1 : Int32)] m _
        refine w_p h_m1000 5 (pc' := 20) (L' := [(0, .ref 0), (1, .ref 39), (2, .ref 143), (3, .int (6 : Int32))]) (st' := [.ref 0, .int (6 : Int32)]) rfl ?_
        refine w_lene H (x := (6 : Int32)) (pc' := 21) (L' := [(0, .ref 0), (1, .ref 39), (2, .ref 143), (3, .int (6 : Int32))]) h_m1000 (z_at.mk 1 rfl rfl) (by decide) rfl (by decide) rfl rfl rfl ?_
        refine w_p h_m1000 4 (pc' := 1381) (L' := [(0, .ref 0), (1, .ref 39), (2, .ref 143), (3, .int (6 : Int32))]) (st' := [.int (1 : Int32)]) rfl ?_
        refine w_ri h_m1000 (z_at.mk 1 rfl rfl) rfl rfl ?_
        exact hQ _ _ _ _ H (by decide) (by decide)
      · refine w_f1 (pc' := 4) (L' := [(0, .int (xs 3))]) h_m58 (z_at.mk 3 rfl rfl) rfl (zc (a := (xs 3).toInt) (b := 0) rfl rfl (decide_eq_false (by omega))) rfl rfl ?_
        refine w_p h_m58 2 (pc' := 7) (L' := [(0, .int (xs 3))]) (st' := [.int (6 : Int32), .int (xs 3)]) rfl ?_
        by_cases c_4 : (xs 3).toInt < 6
        · refine w_f2 (pc' := 10) (L' := [(0, .int (xs 3))]) h_m58 (z_at.mk 3 rfl rfl) rfl (zc (a := (xs 3).toInt) (b := 6) rfl rfl (decide_eq_false (by omega))) rfl rfl ?_
          refine w_p h_m58 2 (pc' := 15) (L' := []) (st' := [.int (1 : Int32)]) rfl ?_
          refine w_ri h_m58 (z_at.mk 1 rfl rfl) rfl rfl ?_
          show z_W 999 153 11 [(0, .ref 39), (1, .int (xs 1)), (2, .int (xs 2)), (3, .int (xs 3)), (4, .int (xs 4)), (5, .int (xs 5))] [.int (1 : Int32)] m _
          refine w_p h_m153 2 (pc' := 17) (L' := [(0, .ref 39), (1, .int (xs 1)), (2, .int (xs 2)), (3, .int (xs 3)), (4, .int (xs 4)), (5, .int (xs 5))]) (st' := [.ref 39]) rfl ?_
          refine w_gf H (pc' := 20) (L' := [(0, .ref 39), (1, .int (xs 1)), (2, .int (xs 2)), (3, .int (xs 3)), (4, .int (xs 4)), (5, .int (xs 5))]) h_m153 (z_at.mk 3 rfl rfl) rfl (u := .ref 134) rfl rfl rfl ?_
          refine w_p h_m153 1 (pc' := 21) (L' := [(0, .ref 39), (1, .int (xs 1)), (2, .int (xs 2)), (3, .int (xs 3)), (4, .int (xs 4)), (5, .int (xs 5))]) (st' := [.int (xs 1), .ref 134]) rfl ?_
          refine w_cv (H.t rfl) (pc' := 24) (L' := [(0, .ref 39), (1, .int (xs 1)), (2, .int (xs 2)), (3, .int (xs 3)), (4, .int (xs 4)), (5, .int (xs 5))]) (rest := []) (Ps := [.int (xs 1)]) (L0 := [(0, .ref 134), (1, .int (xs 1))]) h_m153 (z_at.mk 3 rfl rfl) (Or.inl ⟨rfl, rfl⟩) rfl rfl (by decide) (by decide) rfl rfl rfl rfl rfl rfl (by decide) rfl rfl rfl ?_
          refine w_p h_m59 1 (pc' := 1) (L' := [(0, .ref 134), (1, .int (xs 1))]) (st' := [.int (xs 1)]) rfl ?_
          refine w_cs (As := [.int (xs 1)]) (rest := []) (j := 58) (L0 := [(0, .int (xs 1))]) (pc' := 4) (L' := [(0, .ref 134), (1, .int (xs 1))]) h_m59 (z_at.mk 3 rfl rfl) (Or.inl ⟨rfl, rfl⟩) rfl rfl rfl rfl rfl ?_
          refine w_p h_m58 1 (pc' := 1) (L' := [(0, .int (xs 1))]) (st' := [.int (xs 1)]) rfl ?_
          refine w_f1 (pc' := 4) (L' := [(0, .int (xs 1))]) h_m58 (z_at.mk 3 rfl rfl) rfl (zc (a := (xs 1).toInt) (b := 0) rfl rfl (decide_eq_false (by omega))) rfl rfl ?_
          refine w_p h_m58 2 (pc' := 7) (L' := [(0, .int (xs 1))]) (st' := [.int (6 : Int32), .int (xs 1)]) rfl ?_
          refine w_f2 (pc' := 10) (L' := [(0, .int (xs 1))]) h_m58 (z_at.mk 3 rfl rfl) rfl (zc (a := (xs 1).toInt) (b := 6) rfl rfl (decide_eq_false (by omega))) rfl rfl ?_
          refine w_p h_m58 2 (pc' := 15) (L' := []) (st' := [.int (1 : Int32)]) rfl ?_
          refine w_ri h_m58 (z_at.mk 1 rfl rfl) rfl rfl ?_
          show z_W 998 59 4 [(0, .ref 134), (1, .int (xs 1))] [.int (1 : Int32)] m _
          refine w_p h_m59 2 (pc' := 10) (L' := [(0, .ref 134), (1, .int (xs 1))]) (st' := [.ref 134]) rfl ?_
          refine w_gf H (pc' := 13) (L' := [(0, .ref 134), (1, .int (xs 1))]) h_m59 (z_at.mk 3 rfl rfl) rfl (u := .ref 142) rfl rfl rfl ?_
          refine w_p h_m59 1 (pc' := 14) (L' := [(0, .ref 134), (1, .int (xs 1))]) (st' := [.int (xs 1), .ref 142]) rfl ?_
          by_cases c_5 : (xs 1).toInt = 5
          · refine w_top (v' := .int (5 : Int32)) (congrArg Value.int (zi_lit (c := (xs 1).toInt) rfl c_5)) ?_
            refine w_al H (t := 0) (j := 5) (pc' := 15) (L' := [(0, .ref 134), (1, .int (xs 1))]) h_m59 (z_at.mk 1 rfl rfl) rfl rfl rfl (u := .int (-1 : Int32)) rfl rfl rfl ?_
            refine w_p h_m59 3 (pc' := 24) (L' := []) (st' := [.int (-11 : Int32)]) rfl ?_
            refine w_ri h_m59 (z_at.mk 1 rfl rfl) rfl rfl ?_
            show z_W 999 153 24 [(0, .ref 39), (1, .int (xs 1)), (2, .int (xs 2)), (3, .int (xs 3)), (4, .int (xs 4)), (5, .int (xs 5))] [.int (-11 : Int32)] m _
            refine w_p h_m153 2 (pc' := 40) (L' := []) (st' := [.int (-11 : Int32)]) rfl ?_
            refine w_ri h_m153 (z_at.mk 1 rfl rfl) rfl rfl ?_
            show z_W 1000 1000 1248 [(0, .ref 0), (1, .ref 39), (2, .ref 143), (3, .int (0 : Int32))] [.int (-11 : Int32)] m _
            refine w_p h_m1000 5 (pc' := 1253) (L' := [(0, .ref 0), (1, .ref 39), (2, .ref 143), (3, .int (0 : Int32))]) (st' := [.int (1 : Int32), .ref 0, .ref 143, .int (-11 : Int32)]) rfl ?_
            refine w_ae H (j := 1) (pc' := 1254) (L' := [(0, .ref 0), (1, .ref 39), (2, .ref 143), (3, .int (0 : Int32))]) h_m1000 (z_at.mk 1 rfl rfl) rfl rfl rfl (by decide) rfl (by decide) rfl rfl rfl ?_
            refine w_p h_m1000 4 (pc' := 1258) (L' := [(0, .ref 0), (1, .ref 39), (2, .ref 143), (3, .int (0 : Int32))]) (st' := [.int (2 : Int32), .ref 0, .int (xs 1), .ref 143, .int (-11 : Int32)]) rfl ?_
            refine w_ae H (j := 2) (pc' := 1259) (L' := [(0, .ref 0), (1, .ref 39), (2, .ref 143), (3, .int (0 : Int32))]) h_m1000 (z_at.mk 1 rfl rfl) rfl rfl rfl (by decide) rfl (by decide) rfl rfl rfl ?_
            refine w_p h_m1000 4 (pc' := 1263) (L' := [(0, .ref 0), (1, .ref 39), (2, .ref 143), (3, .int (0 : Int32))]) (st' := [.int (3 : Int32), .ref 0, .int (xs 2), .int (xs 1), .ref 143, .int (-11 : Int32)]) rfl ?_
            refine w_ae H (j := 3) (pc' := 1264) (L' := [(0, .ref 0), (1, .ref 39), (2, .ref 143), (3, .int (0 : Int32))]) h_m1000 (z_at.mk 1 rfl rfl) rfl rfl rfl (by decide) rfl (by decide) rfl rfl rfl ?_
            refine w_p h_m1000 4 (pc' := 1268) (L' := [(0, .ref 0), (1, .ref 39), (2, .ref 143), (3, .int (0 : Int32))]) (st' := [.int (4 : Int32), .ref 0, .int (xs 3), .int (xs 2), .int (xs 1), .ref 143, .int (-11 : Int32)]) rfl ?_
            refine w_ae H (j := 4) (pc' := 1269) (L' := [(0, .ref 0), (1, .ref 39), (2, .ref 143), (3, .int (0 : Int32))]) h_m1000 (z_at.mk 1 rfl rfl) rfl rfl rfl (by decide) rfl (by decide) rfl rfl rfl ?_
            refine w_p h_m1000 4 (pc' := 1273) (L' := [(0, .ref 0), (1, .ref 39), (2, .ref 143), (3, .int (0 : Int32))]) (st' := [.int (5 : Int32), .ref 0, .int (xs 4), .int (xs 3), .int (xs 2), .int (xs 1), .ref 143, .int (-11 : Int32)]) rfl ?_
            refine w_ae H (j := 5) (pc' := 1274) (L' := [(0, .ref 0), (1, .ref 39), (2, .ref 143), (3, .int (0 : Int32))]) h_m1000 (z_at.mk 1 rfl rfl) rfl rfl rfl (by decide) rfl (by decide) rfl rfl rfl ?_
            refine w_cv (H.t rfl) (pc' := 1277) (L' := [(0, .ref 0), (1, .ref 39), (2, .ref 143), (3, .int (0 : Int32))]) (rest := [.int (-11 : Int32)]) (Ps := [.int (xs 1), .int (xs 2), .int (xs 3), .int (xs 4), .int (xs 5)]) (L0 := [(0, .ref 143), (1, .int (xs 1)), (2, .int (xs 2)), (3, .int (xs 3)), (4, .int (xs 4)), (5, .int (xs 5))]) h_m1000 (z_at.mk 3 rfl rfl) (Or.inl ⟨rfl, rfl⟩) rfl rfl (by decide) (by decide) rfl rfl rfl rfl rfl rfl (by decide) rfl rfl rfl ?_
            refine w_p h_m267 1 (pc' := 1) (L' := [(0, .ref 143), (1, .int (xs 1)), (2, .int (xs 2)), (3, .int (xs 3)), (4, .int (xs 4)), (5, .int (xs 5))]) (st' := [.int (xs 1)]) rfl ?_
            refine w_cs (As := [.int (xs 1)]) (rest := []) (j := 262) (L0 := [(0, .int (xs 1))]) (pc' := 4) (L' := [(0, .ref 143), (1, .int (xs 1)), (2, .int (xs 2)), (3, .int (xs 3)), (4, .int (xs 4)), (5, .int (xs 5))]) h_m267 (z_at.mk 3 rfl rfl) (Or.inl ⟨rfl, rfl⟩) rfl rfl rfl rfl rfl ?_
            refine w_p h_m262 3 (pc' := 3) (L' := [(0, .int (xs 1))]) (st' := [.int (5 : Int32), .int (0 : Int32), .int (xs 1)]) rfl ?_
            refine w_cs (As := [.int (xs 1), .int (0 : Int32), .int (5 : Int32)]) (rest := []) (j := 159) (L0 := [(0, .int (xs 1)), (1, .int (0 : Int32)), (2, .int (5 : Int32))]) (pc' := 6) (L' := [(0, .int (xs 1))]) h_m262 (z_at.mk 3 rfl rfl) (Or.inl ⟨rfl, rfl⟩) rfl rfl rfl rfl rfl ?_
            refine w_p h_m159 2 (pc' := 2) (L' := [(0, .int (xs 1)), (1, .int (0 : Int32)), (2, .int (5 : Int32))]) (st' := [.int (0 : Int32), .int (xs 1)]) rfl ?_
            refine w_f2 (pc' := 5) (L' := [(0, .int (xs 1)), (1, .int (0 : Int32)), (2, .int (5 : Int32))]) h_m159 (z_at.mk 3 rfl rfl) rfl (zc (a := (xs 1).toInt) (b := 0) rfl rfl (decide_eq_false (by omega))) rfl rfl ?_
            refine w_p h_m159 2 (pc' := 7) (L' := [(0, .int (xs 1)), (1, .int (0 : Int32)), (2, .int (5 : Int32))]) (st' := [.int (5 : Int32), .int (xs 1)]) rfl ?_
            refine w_f2 (pc' := 10) (L' := [(0, .int (xs 1)), (1, .int (0 : Int32)), (2, .int (5 : Int32))]) h_m159 (z_at.mk 3 rfl rfl) rfl (zc (a := (xs 1).toInt) (b := 5) rfl rfl (decide_eq_false (by omega))) rfl rfl ?_
            refine w_p h_m159 2 (pc' := 15) (L' := []) (st' := [.int (1 : Int32)]) rfl ?_
            refine w_ri h_m159 (z_at.mk 1 rfl rfl) rfl rfl ?_
            show z_W 998 262 6 [(0, .int (xs 1))] [.int (1 : Int32)] m _
            refine w_ri h_m262 (z_at.mk 1 rfl rfl) rfl rfl ?_
            show z_W 999 267 4 [(0, .ref 143), (1, .int (xs 1)), (2, .int (xs 2)), (3, .int (xs 3)), (4, .int (xs 4)), (5, .int (xs 5))] [.int (1 : Int32)] m _
            refine w_p h_m267 2 (pc' := 8) (L' := [(0, .ref 143), (1, .int (xs 1)), (2, .int (xs 2)), (3, .int (xs 3)), (4, .int (xs 4)), (5, .int (xs 5))]) (st' := [.int (xs 3)]) rfl ?_
            refine w_cs (As := [.int (xs 3)]) (rest := []) (j := 262) (L0 := [(0, .int (xs 3))]) (pc' := 11) (L' := [(0, .ref 143), (1, .int (xs 1)), (2, .int (xs 2)), (3, .int (xs 3)), (4, .int (xs 4)), (5, .int (xs 5))]) h_m267 (z_at.mk 3 rfl rfl) (Or.inl ⟨rfl, rfl⟩) rfl rfl rfl rfl rfl ?_
            refine w_p h_m262 3 (pc' := 3) (L' := [(0, .int (xs 3))]) (st' := [.int (5 : Int32), .int (0 : Int32), .int (xs 3)]) rfl ?_
            refine w_cs (As := [.int (xs 3), .int (0 : Int32), .int (5 : Int32)]) (rest := []) (j := 159) (L0 := [(0, .int (xs 3)), (1, .int (0 : Int32)), (2, .int (5 : Int32))]) (pc' := 6) (L' := [(0, .int (xs 3))]) h_m262 (z_at.mk 3 rfl rfl) (Or.inl ⟨rfl, rfl⟩) rfl rfl rfl rfl rfl ?_
            refine w_p h_m159 2 (pc' := 2) (L' := [(0, .int (xs 3)), (1, .int (0 : Int32)), (2, .int (5 : Int32))]) (st' := [.int (0 : Int32), .int (xs 3)]) rfl ?_
            refine w_f2 (pc' := 5) (L' := [(0, .int (xs 3)), (1, .int (0 : Int32)), (2, .int (5 : Int32))]) h_m159 (z_at.mk 3 rfl rfl) rfl (zc (a := (xs 3).toInt) (b := 0) rfl rfl (decide_eq_false (by omega))) rfl rfl ?_
            refine w_p h_m159 2 (pc' := 7) (L' := [(0, .int (xs 3)), (1, .int (0 : Int32)), (2, .int (5 : Int32))]) (st' := [.int (5 : Int32), .int (xs 3)]) rfl ?_
            refine w_f2 (pc' := 10) (L' := [(0, .int (xs 3)), (1, .int (0 : Int32)), (2, .int (5 : Int32))]) h_m159 (z_at.mk 3 rfl rfl) rfl (zc (a := (xs 3).toInt) (b := 5) rfl rfl (decide_eq_false (by omega))) rfl rfl ?_
            refine w_p h_m159 2 (pc' := 15) (L' := []) (st' := [.int (1 : Int32)]) rfl ?_
            refine w_ri h_m159 (z_at.mk 1 rfl rfl) rfl rfl ?_
            show z_W 998 262 6 [(0, .int (xs 3))] [.int (1 : Int32)] m _
            refine w_ri h_m262 (z_at.mk 1 rfl rfl) rfl rfl ?_
            show z_W 999 267 11 [(0, .ref 143), (1, .int (xs 1)), (2, .int (xs 2)), (3, .int (xs 3)), (4, .int (xs 4)), (5, .int (xs 5))] [.int (1 : Int32)] m _
            refine w_p h_m267 2 (pc' := 17) (L' := [(0, .ref 143), (1, .int (xs 1)), (2, .int (xs 2)), (3, .int (xs 3)), (4, .int (xs 4)), (5, .int (xs 5))]) (st' := [.ref 143]) rfl ?_
            refine w_gf H (pc' := 20) (L' := [(0, .ref 143), (1, .int (xs 1)), (2, .int (xs 2)), (3, .int (xs 3)), (4, .int (xs 4)), (5, .int (xs 5))]) h_m267 (z_at.mk 3 rfl rfl) rfl (u := .ref 166) rfl rfl rfl ?_
            refine w_p h_m267 1 (pc' := 21) (L' := [(0, .ref 143), (1, .int (xs 1)), (2, .int (xs 2)), (3, .int (xs 3)), (4, .int (xs 4)), (5, .int (xs 5))]) (st' := [.int (xs 1), .ref 166]) rfl ?_
            have c_6 : (xs 1).toInt = 5 := by omega
            refine w_top (v' := .int (5 : Int32)) (congrArg Value.int (zi_lit (c := (xs 1).toInt) rfl c_6)) ?_
            refine w_al H (t := 0) (j := 5) (pc' := 22) (L' := [(0, .ref 143), (1, .int (xs 1)), (2, .int (xs 2)), (3, .int (xs 3)), (4, .int (xs 4)), (5, .int (xs 5))]) h_m267 (z_at.mk 1 rfl rfl) rfl rfl rfl (u := .int (-1 : Int32)) rfl rfl rfl ?_
            refine w_p h_m267 2 (pc' := 36) (L' := []) (st' := [.int (-11 : Int32)]) rfl ?_
            refine w_ri h_m267 (z_at.mk 1 rfl rfl) rfl rfl ?_
            show z_W 1000 1000 1277 [(0, .ref 0), (1, .ref 39), (2, .ref 143), (3, .int (0 : Int32))] [.int (-11 : Int32), .int (-11 : Int32)] m _
            refine w_p h_m1000 5 (pc' := 20) (L' := [(0, .ref 0), (1, .ref 39), (2, .ref 143), (3, .int (6 : Int32))]) (st' := [.ref 0, .int (6 : Int32)]) rfl ?_
            refine w_lene H (x := (6 : Int32)) (pc' := 21) (L' := [(0, .ref 0), (1, .ref 39), (2, .ref 143), (3, .int (6 : Int32))]) h_m1000 (z_at.mk 1 rfl rfl) (by decide) rfl (by decide) rfl rfl rfl ?_
            refine w_p h_m1000 4 (pc' := 1381) (L' := [(0, .ref 0), (1, .ref 39), (2, .ref 143), (3, .int (6 : Int32))]) (st' := [.int (1 : Int32)]) rfl ?_
            refine w_ri h_m1000 (z_at.mk 1 rfl rfl) rfl rfl ?_
            exact hQ _ _ _ _ H (by decide) (by decide)
          by_cases c_6 : (xs 1).toInt = 4
          · refine w_top (v' := .int (4 : Int32)) (congrArg Value.int (zi_lit (c := (xs 1).toInt) rfl c_6)) ?_
            refine w_al H (t := 0) (j := 4) (pc' := 15) (L' := [(0, .ref 134), (1, .int (xs 1))]) h_m59 (z_at.mk 1 rfl rfl) rfl rfl rfl (u := .int (-1 : Int32)) rfl rfl rfl ?_
            refine w_p h_m59 3 (pc' := 24) (L' := []) (st' := [.int (-11 : Int32)]) rfl ?_
            refine w_ri h_m59 (z_at.mk 1 rfl rfl) rfl rfl ?_
            show z_W 999 153 24 [(0, .ref 39), (1, .int (xs 1)), (2, .int (xs 2)), (3, .int (xs 3)), (4, .int (xs 4)), (5, .int (xs 5))] [.int (-11 : Int32)] m _
            refine w_p h_m153 2 (pc' := 40) (L' := []) (st' := [.int (-11 : Int32)]) rfl ?_
            refine w_ri h_m153 (z_at.mk 1 rfl rfl) rfl rfl ?_
            show z_W 1000 1000 1248 [(0, .ref 0), (1, .ref 39), (2, .ref 143), (3, .int (0 : Int32))] [.int (-11 : Int32)] m _
            refine w_p h_m1000 5 (pc' := 1253) (L' := [(0, .ref 0), (1, .ref 39), (2, .ref 143), (3, .int (0 : Int32))]) (st' := [.int (1 : Int32), .ref 0, .ref 143, .int (-11 : Int32)]) rfl ?_
            refine w_ae H (j := 1) (pc' := 1254) (L' := [(0, .ref 0), (1, .ref 39), (2, .ref 143), (3, .int (0 : Int32))]) h_m1000 (z_at.mk 1 rfl rfl) rfl rfl rfl (by decide) rfl (by decide) rfl rfl rfl ?_
            refine w_p h_m1000 4 (pc' := 1258) (L' := [(0, .ref 0), (1, .ref 39), (2, .ref 143), (3, .int (0 : Int32))]) (st' := [.int (2 : Int32), .ref 0, .int (xs 1), .ref 143, .int (-11 : Int32)]) rfl ?_
            refine w_ae H (j := 2) (pc' := 1259) (L' := [(0, .ref 0), (1, .ref 39), (2, .ref 143), (3, .int (0 : Int32))]) h_m1000 (z_at.mk 1 rfl rfl) rfl rfl rfl (by decide) rfl (by decide) rfl rfl rfl ?_
            refine w_p h_m1000 4 (pc' := 1263) (L' := [(0, .ref 0), (1, .ref 39), (2, .ref 143), (3, .int (0 : Int32))]) (st' := [.int (3 : Int32), .ref 0, .int (xs 2), .int (xs 1), .ref 143, .int (-11 : Int32)]) rfl ?_
            refine w_ae H (j := 3) (pc' := 1264) (L' := [(0, .ref 0), (1, .ref 39), (2, .ref 143), (3, .int (0 : Int32))]) h_m1000 (z_at.mk 1 rfl rfl) rfl rfl rfl (by decide) rfl (by decide) rfl rfl rfl ?_
            refine w_p h_m1000 4 (pc' := 1268) (L' := [(0, .ref 0), (1, .ref 39), (2, .ref 143), (3, .int (0 : Int32))]) (st' := [.int (4 : Int32), .ref 0, .int (xs 3), .int (xs 2), .int (xs 1), .ref 143, .int (-11 : Int32)]) rfl ?_
            refine w_ae H (j := 4) (pc' := 1269) (L' := [(0, .ref 0), (1, .ref 39), (2, .ref 143), (3, .int (0 : Int32))]) h_m1000 (z_at.mk 1 rfl rfl) rfl rfl rfl (by decide) rfl (by decide) rfl rfl rfl ?_
            refine w_p h_m1000 4 (pc' := 1273) (L' := [(0, .ref 0), (1, .ref 39), (2, .ref 143), (3, .int (0 : Int32))]) (st' := [.int (5 : Int32), .ref 0, .int (xs 4), .int (xs 3), .int (xs 2), .int (xs 1), .ref 143, .int (-11 : Int32)]) rfl ?_
            refine w_ae H (j := 5) (pc' := 1274) (L' := [(0, .ref 0), (1, .ref 39), (2, .ref 143), (3, .int (0 : Int32))]) h_m1000 (z_at.mk 1 rfl rfl) rfl rfl rfl (by decide) rfl (by decide) rfl rfl rfl ?_
            refine w_cv (H.t rfl) (pc' := 1277) (L' := [(0, .ref 0), (1, .ref 39), (2, .ref 143), (3, .int (0 : Int32))]) (rest := [.int (-11 : Int32)]) (Ps := [.int (xs 1), .int (xs 2), .int (xs 3), .int (xs 4), .int (xs 5)]) (L0 := [(0, .ref 143), (1, .int (xs 1)), (2, .int (xs 2)), (3, .int (xs 3)), (4, .int (xs 4)), (5, .int (xs 5))]) h_m1000 (z_at.mk 3 rfl rfl) (Or.inl ⟨rfl, rfl⟩) rfl rfl (by decide) (by decide) rfl rfl rfl rfl rfl rfl (by decide) rfl rfl rfl ?_
            refine w_p h_m267 1 (pc' := 1) (L' := [(0, .ref 143), (1, .int (xs 1)), (2, .int (xs 2)), (3, .int (xs 3)), (4, .int (xs 4)), (5, .int (xs 5))]) (st' := [.int (xs 1)]) rfl ?_
            refine w_cs (As := [.int (xs 1)]) (rest := []) (j := 262) (L0 := [(0, .int (xs 1))]) (pc' := 4) (L' := [(0, .ref 143), (1, .int (xs 1)), (2, .int (xs 2)), (3, .int (xs 3)), (4, .int (xs 4)), (5, .int (xs 5))]) h_m267 (z_at.mk 3 rfl rfl) (Or.inl ⟨rfl, rfl⟩) rfl rfl rfl rfl rfl ?_
            refine w_p h_m262 3 (pc' := 3) (L' := [(0, .int (xs 1))]) (st' := [.int (5 : Int32), .int (0 : Int32), .int (xs 1)]) rfl ?_
            refine w_cs (As := [.int (xs 1), .int (0 : Int32), .int (5 : Int32)]) (rest := []) (j := 159) (L0 := [(0, .int (xs 1)), (1, .int (0 : Int32)), (2, .int (5 : Int32))]) (pc' := 6) (L' := [(0, .int (xs 1))]) h_m262 (z_at.mk 3 rfl rfl) (Or.inl ⟨rfl, rfl⟩) rfl rfl rfl rfl rfl ?_
            refine w_p h_m159 2 (pc' := 2) (L' := [(0, .int (xs 1)), (1, .int (0 : Int32)), (2, .int (5 : Int32))]) (st' := [.int (0 : Int32), .int (xs 1)]) rfl ?_
            refine w_f2 (pc' := 5) (L' := [(0, .int (xs 1)), (1, .int (0 : Int32)), (2, .int (5 : Int32))]) h_m159 (z_at.mk 3 rfl rfl) rfl (zc (a := (xs 1).toInt) (b := 0) rfl rfl (decide_eq_false (by omega))) rfl rfl ?_
            refine w_p h_m159 2 (pc' := 7) (L' := [(0, .int (xs 1)), (1, .int (0 : Int32)), (2, .int (5 : Int32))]) (st' := [.int (5 : Int32), .int (xs 1)]) rfl ?_
            refine w_f2 (pc' := 10) (L' := [(0, .int (xs 1)), (1, .int (0 : Int32)), (2, .int (5 : Int32))]) h_m159 (z_at.mk 3 rfl rfl) rfl (zc (a := (xs 1).toInt) (b := 5) rfl rfl (decide_eq_false (by omega))) rfl rfl ?_
            refine w_p h_m159 2 (pc' := 15) (L' := []) (st' := [.int (1 : Int32)]) rfl ?_
            refine w_ri h_m159 (z_at.mk 1 rfl rfl) rfl rfl ?_
            show z_W 998 262 6 [(0, .int (xs 1))] [.int (1 : Int32)] m _
            refine w_ri h_m262 (z_at.mk 1 rfl rfl) rfl rfl ?_
            show z_W 999 267 4 [(0, .ref 143), (1, .int (xs 1)), (2, .int (xs 2)), (3, .int (xs 3)), (4, .int (xs 4)), (5, .int (xs 5))] [.int (1 : Int32)] m _
            refine w_p h_m267 2 (pc' := 8) (L' := [(0, .ref 143), (1, .int (xs 1)), (2, .int (xs 2)), (3, .int (xs 3)), (4, .int (xs 4)), (5, .int (xs 5))]) (st' := [.int (xs 3)]) rfl ?_
            refine w_cs (As := [.int (xs 3)]) (rest := []) (j := 262) (L0 := [(0, .int (xs 3))]) (pc' := 11) (L' := [(0, .ref 143), (1, .int (xs 1)), (2, .int (xs 2)), (3, .int (xs 3)), (4, .int (xs 4)), (5, .int (xs 5))]) h_m267 (z_at.mk 3 rfl rfl) (Or.inl ⟨rfl, rfl⟩) rfl rfl rfl rfl rfl ?_
            refine w_p h_m262 3 (pc' := 3) (L' := [(0, .int (xs 3))]) (st' := [.int (5 : Int32), .int (0 : Int32), .int (xs 3)]) rfl ?_
            refine w_cs (As := [.int (xs 3), .int (0 : Int32), .int (5 : Int32)]) (rest := []) (j := 159) (L0 := [(0, .int (xs 3)), (1, .int (0 : Int32)), (2, .int (5 : Int32))]) (pc' := 6) (L' := [(0, .int (xs 3))]) h_m262 (z_at.mk 3 rfl rfl) (Or.inl ⟨rfl, rfl⟩) rfl rfl rfl rfl rfl ?_
            refine w_p h_m159 2 (pc' := 2) (L' := [(0, .int (xs 3)), (1, .int (0 : Int32)), (2, .int (5 : Int32))]) (st' := [.int (0 : Int32), .int (xs 3)]) rfl ?_
            refine w_f2 (pc' := 5) (L' := [(0, .int (xs 3)), (1, .int (0 : Int32)), (2, .int (5 : Int32))]) h_m159 (z_at.mk 3 rfl rfl) rfl (zc (a := (xs 3).toInt) (b := 0) rfl rfl (decide_eq_false (by omega))) rfl rfl ?_
            refine w_p h_m159 2 (pc' := 7) (L' := [(0, .int (xs 3)), (1, .int (0 : Int32)), (2, .int (5 : Int32))]) (st' := [.int (5 : Int32), .int (xs 3)]) rfl ?_
            refine w_f2 (pc' := 10) (L' := [(0, .int (xs 3)), (1, .int (0 : Int32)), (2, .int (5 : Int32))]) h_m159 (z_at.mk 3 rfl rfl) rfl (zc (a := (xs 3).toInt) (b := 5) rfl rfl (decide_eq_false (by omega))) rfl rfl ?_
            refine w_p h_m159 2 (pc' := 15) (L' := []) (st' := [.int (1 : Int32)]) rfl ?_
            refine w_ri h_m159 (z_at.mk 1 rfl rfl) rfl rfl ?_
            show z_W 998 262 6 [(0, .int (xs 3))] [.int (1 : Int32)] m _
            refine w_ri h_m262 (z_at.mk 1 rfl rfl) rfl rfl ?_
            show z_W 999 267 11 [(0, .ref 143), (1, .int (xs 1)), (2, .int (xs 2)), (3, .int (xs 3)), (4, .int (xs 4)), (5, .int (xs 5))] [.int (1 : Int32)] m _
            refine w_p h_m267 2 (pc' := 17) (L' := [(0, .ref 143), (1, .int (xs 1)), (2, .int (xs 2)), (3, .int (xs 3)), (4, .int (xs 4)), (5, .int (xs 5))]) (st' := [.ref 143]) rfl ?_
            refine w_gf H (pc' := 20) (L' := [(0, .ref 143), (1, .int (xs 1)), (2, .int (xs 2)), (3, .int (xs 3)), (4, .int (xs 4)), (5, .int (xs 5))]) h_m267 (z_at.mk 3 rfl rfl) rfl (u := .ref 166) rfl rfl rfl ?_
            refine w_p h_m267 1 (pc' := 21) (L' := [(0, .ref 143), (1, .int (xs 1)), (2, .int (xs 2)), (3, .int (xs 3)), (4, .int (xs 4)), (5, .int (xs 5))]) (st' := [.int (xs 1), .ref 166]) rfl ?_
            have c_7 : (xs 1).toInt = 4 := by omega
            refine w_top (v' := .int (4 : Int32)) (congrArg Value.int (zi_lit (c := (xs 1).toInt) rfl c_7)) ?_
            refine w_al H (t := 0) (j := 4) (pc' := 22) (L' := [(0, .ref 143), (1, .int (xs 1)), (2, .int (xs 2)), (3, .int (xs 3)), (4, .int (xs 4)), (5, .int (xs 5))]) h_m267 (z_at.mk 1 rfl rfl) rfl rfl rfl (u := .int (-1 : Int32)) rfl rfl rfl ?_
            refine w_p h_m267 2 (pc' := 36) (L' := []) (st' := [.int (-11 : Int32)]) rfl ?_
            refine w_ri h_m267 (z_at.mk 1 rfl rfl) rfl rfl ?_
            show z_W 1000 1000 1277 [(0, .ref 0), (1, .ref 39), (2, .ref 143), (3, .int (0 : Int32))] [.int (-11 : Int32), .int (-11 : Int32)] m _
            refine w_p h_m1000 5 (pc' := 20) (L' := [(0, .ref 0), (1, .ref 39), (2, .ref 143), (3, .int (6 : Int32))]) (st' := [.ref 0, .int (6 : Int32)]) rfl ?_
            refine w_lene H (x := (6 : Int32)) (pc' := 21) (L' := [(0, .ref 0), (1, .ref 39), (2, .ref 143), (3, .int (6 : Int32))]) h_m1000 (z_at.mk 1 rfl rfl) (by decide) rfl (by decide) rfl rfl rfl ?_
            refine w_p h_m1000 4 (pc' := 1381) (L' := [(0, .ref 0), (1, .ref 39), (2, .ref 143), (3, .int (6 : Int32))]) (st' := [.int (1 : Int32)]) rfl ?_
            refine w_ri h_m1000 (z_at.mk 1 rfl rfl) rfl rfl ?_
            exact hQ _ _ _ _ H (by decide) (by decide)
          by_cases c_7 : (xs 1).toInt = 3
          · refine w_top (v' := .int (3 : Int32)) (congrArg Value.int (zi_lit (c := (xs 1).toInt) rfl c_7)) ?_
            refine w_al H (t := 0) (j := 3) (pc' := 15) (L' := [(0, .ref 134), (1, .int (xs 1))]) h_m59 (z_at.mk 1 rfl rfl) rfl rfl rfl (u := .int (-1 : Int32)) rfl rfl rfl ?_
            refine w_p h_m59 3 (pc' := 24) (L' := []) (st' := [.int (-11 : Int32)]) rfl ?_
            refine w_ri h_m59 (z_at.mk 1 rfl rfl) rfl rfl ?_
            show z_W 999 153 24 [(0, .ref 39), (1, .int (xs 1)), (2, .int (xs 2)), (3, .int (xs 3)), (4, .int (xs 4)), (5, .int (xs 5))] [.int (-11 : Int32)] m _
            refine w_p h_m153 2 (pc' := 40) (L' := []) (st' := [.int (-11 : Int32)]) rfl ?_
            refine w_ri h_m153 (z_at.mk 1 rfl rfl) rfl rfl ?_
            show z_W 1000 1000 1248 [(0, .ref 0), (1, .ref 39), (2, .ref 143), (3, .int (0 : Int32))] [.int (-11 : Int32)] m _
            refine w_p h_m1000 5 (pc' := 1253) (L' := [(0, .ref 0), (1, .ref 39), (2, .ref 143), (3, .int (0 : Int32))]) (st' := [.int (1 : Int32), .ref 0, .ref 143, .int (-11 : Int32)]) rfl ?_
            refine w_ae H (j := 1) (pc' := 1254) (L' := [(0, .ref 0), (1, .ref 39), (2, .ref 143), (3, .int (0 : Int32))]) h_m1000 (z_at.mk 1 rfl rfl) rfl rfl rfl (by decide) rfl (by decide) rfl rfl rfl ?_
            refine w_p h_m1000 4 (pc' := 1258) (L' := [(0, .ref 0), (1, .ref 39), (2, .ref 143), (3, .int (0 : Int32))]) (st' := [.int (2 : Int32), .ref 0, .int (xs 1), .ref 143, .int (-11 : Int32)]) rfl ?_
            refine w_ae H (j := 2) (pc' := 1259) (L' := [(0, .ref 0), (1, .ref 39), (2, .ref 143), (3, .int (0 : Int32))]) h_m1000 (z_at.mk 1 rfl rfl) rfl rfl rfl (by decide) rfl (by decide) rfl rfl rfl ?_
            refine w_p h_m1000 4 (pc' := 1263) (L' := [(0, .ref 0), (1, .ref 39), (2, .ref 143), (3, .int (0 : Int32))]) (st' := [.int (3 : Int32), .ref 0, .int (xs 2), .int (xs 1), .ref 143, .int (-11 : Int32)]) rfl ?_
            refine w_ae H (j := 3) (pc' := 1264) (L' := [(0, .ref 0), (1, .ref 39), (2, .ref 143), (3, .int (0 : Int32))]) h_m1000 (z_at.mk 1 rfl rfl) rfl rfl rfl (by decide) rfl (by decide) rfl rfl rfl ?_
            refine w_p h_m1000 4 (pc' := 1268) (L' := [(0, .ref 0), (1, .ref 39), (2, .ref 143), (3, .int (0 : Int32))]) (st' := [.int (4 : Int32), .ref 0, .int (xs 3), .int (xs 2), .int (xs 1), .ref 143, .int (-11 : Int32)]) rfl ?_
            refine w_ae H (j := 4) (pc' := 1269) (L' := [(0, .ref 0), (1, .ref 39), (2, .ref 143), (3, .int (0 : Int32))]) h_m1000 (z_at.mk 1 rfl rfl) rfl rfl rfl (by decide) rfl (by decide) rfl rfl rfl ?_
            refine w_p h_m1000 4 (pc' := 1273) (L' := [(0, .ref 0), (1, .ref 39), (2, .ref 143), (3, .int (0 : Int32))]) (st' := [.int (5 : Int32), .ref 0, .int (xs 4), .int (xs 3), .int (xs 2), .int (xs 1), .ref 143, .int (-11 : Int32)]) rfl ?_
            refine w_ae H (j := 5) (pc' := 1274) (L' := [(0, .ref 0), (1, .ref 39), (2, .ref 143), (3, .int (0 : Int32))]) h_m1000 (z_at.mk 1 rfl rfl) rfl rfl rfl (by decide) rfl (by decide) rfl rfl rfl ?_
            refine w_cv (H.t rfl) (pc' := 1277) (L' := [(0, .ref 0), (1, .ref 39), (2, .ref 143), (3, .int (0 : Int32))]) (rest := [.int (-11 : Int32)]) (Ps := [.int (xs 1), .int (xs 2), .int (xs 3), .int (xs 4), .int (xs 5)]) (L0 := [(0, .ref 143), (1, .int (xs 1)), (2, .int (xs 2)), (3, .int (xs 3)), (4, .int (xs 4)), (5, .int (xs 5))]) h_m1000 (z_at.mk 3 rfl rfl) (Or.inl ⟨rfl, rfl⟩) rfl rfl (by decide) (by decide) rfl rfl rfl rfl rfl rfl (by decide) rfl rfl rfl ?_
            refine w_p h_m267 1 (pc' := 1) (L' := [(0, .ref 143), (1, .int (xs 1)), (2, .int (xs 2)), (3, .int (xs 3)), (4, .int (xs 4)), (5, .int (xs 5))]) (st' := [.int (xs 1)]) rfl ?_
            refine w_cs (As := [.int (xs 1)]) (rest := []) (j := 262) (L0 := [(0, .int (xs 1))]) (pc' := 4) (L' := [(0, .ref 143), (1, .int (xs 1)), (2, .int (xs 2)), (3, .int (xs 3)), (4, .int (xs 4)), (5, .int (xs 5))]) h_m267 (z_at.mk 3 rfl rfl) (Or.inl ⟨rfl, rfl⟩) rfl rfl rfl rfl rfl ?_
            refine w_p h_m262 3 (pc' := 3) (L' := [(0, .int (xs 1))]) (st' := [.int (5 : Int32), .int (0 : Int32), .int (xs 1)]) rfl ?_
            refine w_cs (As := [.int (xs 1), .int (0 : Int32), .int (5 : Int32)]) (rest := []) (j := 159) (L0 := [(0, .int (xs 1)), (1, .int (0 : Int32)), (2, .int (5 : Int32))]) (pc' := 6) (L' := [(0, .int (xs 1))]) h_m262 (z_at.mk 3 rfl rfl) (Or.inl ⟨rfl, rfl⟩) rfl rfl rfl rfl rfl ?_
            refine w_p h_m159 2 (pc' := 2) (L' := [(0, .int (xs 1)), (1, .int (0 : Int32)), (2, .int (5 : Int32))]) (st' := [.int (0 : Int32), .int (xs 1)]) rfl ?_
            refine w_f2 (pc' := 5) (L' := [(0, .int (xs 1)), (1, .int (0 : Int32)), (2, .int (5 : Int32))]) h_m159 (z_at.mk 3 rfl rfl) rfl (zc (a := (xs 1).toInt) (b := 0) rfl rfl (decide_eq_false (by omega))) rfl rfl ?_
            refine w_p h_m159 2 (pc' := 7) (L' := [(0, .int (xs 1)), (1, .int (0 : Int32)), (2, .int (5 : Int32))]) (st' := [.int (5 : Int32), .int (xs 1)]) rfl ?_
            refine w_f2 (pc' := 10) (L' := [(0, .int (xs 1)), (1, .int (0 : Int32)), (2, .int (5 : Int32))]) h_m159 (z_at.mk 3 rfl rfl) rfl (zc (a := (xs 1).toInt) (b := 5) rfl rfl (decide_eq_false (by omega))) rfl rfl ?_
            refine w_p h_m159 2 (pc' := 15) (L' := []) (st' := [.int (1 : Int32)]) rfl ?_
            refine w_ri h_m159 (z_at.mk 1 rfl rfl) rfl rfl ?_
            show z_W 998 262 6 [(0, .int (xs 1))] [.int (1 : Int32)] m _
            refine w_ri h_m262 (z_at.mk 1 rfl rfl) rfl rfl ?_
            show z_W 999 267 4 [(0, .ref 143), (1, .int (xs 1)), (2, .int (xs 2)), (3, .int (xs 3)), (4, .int (xs 4)), (5, .int (xs 5))] [.int (1 : Int32)] m _
            refine w_p h_m267 2 (pc' := 8) (L' := [(0, .ref 143), (1, .int (xs 1)), (2, .int (xs 2)), (3, .int (xs 3)), (4, .int (xs 4)), (5, .int (xs 5))]) (st' := [.int (xs 3)]) rfl ?_
            refine w_cs (As := [.int (xs 3)]) (rest := []) (j := 262) (L0 := [(0, .int (xs 3))]) (pc' := 11) (L' := [(0, .ref 143), (1, .int (xs 1)), (2, .int (xs 2)), (3, .int (xs 3)), (4, .int (xs 4)), (5, .int (xs 5))]) h_m267 (z_at.mk 3 rfl rfl) (Or.inl ⟨rfl, rfl⟩) rfl rfl rfl rfl rfl ?_
            refine w_p h_m262 3 (pc' := 3) (L' := [(0, .int (xs 3))]) (st' := [.int (5 : Int32), .int (0 : Int32), .int (xs 3)]) rfl ?_
            refine w_cs (As := [.int (xs 3), .int (0 : Int32), .int (5 : Int32)]) (rest := []) (j := 159) (L0 := [(0, .int (xs 3)), (1, .int (0 : Int32)), (2, .int (5 : Int32))]) (pc' := 6) (L' := [(0, .int (xs 3))]) h_m262 (z_at.mk 3 rfl rfl) (Or.inl ⟨rfl, rfl⟩) rfl rfl rfl rfl rfl ?_
            refine w_p h_m159 2 (pc' := 2) (L' := [(0, .int (xs 3)), (1, .int (0 : Int32)), (2, .int (5 : Int32))]) (st' := [.int (0 : Int32), .int (xs 3)]) rfl ?_
            refine w_f2 (pc' := 5) (L' := [(0, .int (xs 3)), (1, .int (0 : Int32)), (2, .int (5 : Int32))]) h_m159 (z_at.mk 3 rfl rfl) rfl (zc (a := (xs 3).toInt) (b := 0) rfl rfl (decide_eq_false (by omega))) rfl rfl ?_
            refine w_p h_m159 2 (pc' := 7) (L' := [(0, .int (xs 3)), (1, .int (0 : Int32)), (2, .int (5 : Int32))]) (st' := [.int (5 : Int32), .int (xs 3)]) rfl ?_
            refine w_f2 (pc' := 10) (L' := [(0, .int (xs 3)), (1, .int (0 : Int32)), (2, .int (5 : Int32))]) h_m159 (z_at.mk 3 rfl rfl) rfl (zc (a := (xs 3).toInt) (b := 5) rfl rfl (decide_eq_false (by omega))) rfl rfl ?_
            refine w_p h_m159 2 (pc' := 15) (L' := []) (st' := [.int (1 : Int32)]) rfl ?_
            refine w_ri h_m159 (z_at.mk 1 rfl rfl) rfl rfl ?_
            show z_W 998 262 6 [(0, .int (xs 3))] [.int (1 : Int32)] m _
            refine w_ri h_m262 (z_at.mk 1 rfl rfl) rfl rfl ?_
            show z_W 999 267 11 [(0, .ref 143), (1, .int (xs 1)), (2, .int (xs 2)), (3, .int (xs 3)), (4, .int (xs 4)), (5, .int (xs 5))] [.int (1 : Int32)] m _
            refine w_p h_m267 2 (pc' := 17) (L' := [(0, .ref 143), (1, .int (xs 1)), (2, .int (xs 2)), (3, .int (xs 3)), (4, .int (xs 4)), (5, .int (xs 5))]) (st' := [.ref 143]) rfl ?_
            refine w_gf H (pc' := 20) (L' := [(0, .ref 143), (1, .int (xs 1)), (2, .int (xs 2)), (3, .int (xs 3)), (4, .int (xs 4)), (5, .int (xs 5))]) h_m267 (z_at.mk 3 rfl rfl) rfl (u := .ref 166) rfl rfl rfl ?_
            refine w_p h_m267 1 (pc' := 21) (L' := [(0, .ref 143), (1, .int (xs 1)), (2, .int (xs 2)), (3, .int (xs 3)), (4, .int (xs 4)), (5, .int (xs 5))]) (st' := [.int (xs 1), .ref 166]) rfl ?_
            have c_8 : (xs 1).toInt = 3 := by omega
            refine w_top (v' := .int (3 : Int32)) (congrArg Value.int (zi_lit (c := (xs 1).toInt) rfl c_8)) ?_
            refine w_al H (t := 0) (j := 3) (pc' := 22) (L' := [(0, .ref 143), (1, .int (xs 1)), (2, .int (xs 2)), (3, .int (xs 3)), (4, .int (xs 4)), (5, .int (xs 5))]) h_m267 (z_at.mk 1 rfl rfl) rfl rfl rfl (u := .int (-1 : Int32)) rfl rfl rfl ?_
            refine w_p h_m267 2 (pc' := 36) (L' := []) (st' := [.int (-11 : Int32)]) rfl ?_
            refine w_ri h_m267 (z_at.mk 1 rfl rfl) rfl rfl ?_
            show z_W 1000 1000 1277 [(0, .ref 0), (1, .ref 39), (2, .ref 143), (3, .int (0 : Int32))] [.int (-11 : Int32), .int (-11 : Int32)] m _
            refine w_p h_m1000 5 (pc' := 20) (L' := [(0, .ref 0), (1, .ref 39), (2, .ref 143), (3, .int (6 : Int32))]) (st' := [.ref 0, .int (6 : Int32)]) rfl ?_
            refine w_lene H (x := (6 : Int32)) (pc' := 21) (L' := [(0, .ref 0), (1, .ref 39), (2, .ref 143), (3, .int (6 : Int32))]) h_m1000 (z_at.mk 1 rfl rfl) (by decide) rfl (by decide) rfl rfl rfl ?_
            refine w_p h_m1000 4 (pc' := 1381) (L' := [(0, .ref 0), (1, .ref 39), (2, .ref 143), (3, .int (6 : Int32))]) (st' := [.int (1 : Int32)]) rfl ?_
            refine w_ri h_m1000 (z_at.mk 1 rfl rfl) rfl rfl ?_
            exact hQ _ _ _ _ H (by decide) (by decide)
          by_cases c_8 : (xs 1).toInt = 2
          · refine w_top (v' := .int (2 : Int32)) (congrArg Value.int (zi_lit (c := (xs 1).toInt) rfl c_8)) ?_
            refine w_al H (t := 0) (j := 2) (pc' := 15) (L' := [(0, .ref 134), (1, .int (xs 1))]) h_m59 (z_at.mk 1 rfl rfl) rfl rfl rfl (u := .int (-1 : Int32)) rfl rfl rfl ?_
            refine w_p h_m59 3 (pc' := 24) (L' := []) (st' := [.int (-11 : Int32)]) rfl ?_
            refine w_ri h_m59 (z_at.mk 1 rfl rfl) rfl rfl ?_
            show z_W 999 153 24 [(0, .ref 39), (1, .int (xs 1)), (2, .int (xs 2)), (3, .int (xs 3)), (4, .int (xs 4)), (5, .int (xs 5))] [.int (-11 : Int32)] m _
            refine w_p h_m153 2 (pc' := 40) (L' := []) (st' := [.int (-11 : Int32)]) rfl ?_
            refine w_ri h_m153 (z_at.mk 1 rfl rfl) rfl rfl ?_
            show z_W 1000 1000 1248 [(0, .ref 0), (1, .ref 39), (2, .ref 143), (3, .int (0 : Int32))] [.int (-11 : Int32)] m _
            refine w_p h_m1000 5 (pc' := 1253) (L' := [(0, .ref 0), (1, .ref 39), (2, .ref 143), (3, .int (0 : Int32))]) (st' := [.int (1 : Int32), .ref 0, .ref 143, .int (-11 : Int32)]) rfl ?_
            refine w_ae H (j := 1) (pc' := 1254) (L' := [(0, .ref 0), (1, .ref 39), (2, .ref 143), (3, .int (0 : Int32))]) h_m1000 (z_at.mk 1 rfl rfl) rfl rfl rfl (by decide) rfl (by decide) rfl rfl rfl ?_
            refine w_p h_m1000 4 (pc' := 1258) (L' := [(0, .ref 0), (1, .ref 39), (2, .ref 143), (3, .int (0 : Int32))]) (st' := [.int (2 : Int32), .ref 0, .int (xs 1), .ref 143, .int (-11 : Int32)]) rfl ?_
            refine w_ae H (j := 2) (pc' := 1259) (L' := [(0, .ref 0), (1, .ref 39), (2, .ref 143), (3, .int (0 : Int32))]) h_m1000 (z_at.mk 1 rfl rfl) rfl rfl rfl (by decide) rfl (by decide) rfl rfl rfl ?_
            refine w_p h_m1000 4 (pc' := 1263) (L' := [(0, .ref 0), (1, .ref 39), (2, .ref 143), (3, .int (0 : Int32))]) (st' := [.int (3 : Int32), .ref 0, .int (xs 2), .int (xs 1), .ref 143, .int (-11 : Int32)]) rfl ?_
            refine w_ae H (j := 3) (pc' := 1264) (L' := [(0, .ref 0), (1, .ref 39), (2, .ref 143), (3, .int (0 : Int32))]) h_m1000 (z_at.mk 1 rfl rfl) rfl rfl rfl (by decide) rfl (by decide) rfl rfl rfl ?_
            refine w_p h_m1000 4 (pc' := 1268) (L' := [(0, .ref 0), (1, .ref 39), (2, .ref 143), (3, .int (0 : Int32))]) (st' := [.int (4 : Int32), .ref 0, .int (xs 3), .int (xs 2), .int (xs 1), .ref 143, .int (-11 : Int32)]) rfl ?_
            refine w_ae H (j := 4) (pc' := 1269) (L' := [(0, .ref 0), (1, .ref 39), (2, .ref 143), (3, .int (0 : Int32))]) h_m1000 (z_at.mk 1 rfl rfl) rfl rfl rfl (by decide) rfl (by decide) rfl rfl rfl ?_
            refine w_p h_m1000 4 (pc' := 1273) (L' := [(0, .ref 0), (1, .ref 39), (2, .ref 143), (3, .int (0 : Int32))]) (st' := [.int (5 : Int32), .ref 0, .int (xs 4), .int (xs 3), .int (xs 2), .int (xs 1), .ref 143, .int (-11 : Int32)]) rfl ?_
            refine w_ae H (j := 5) (pc' := 1274) (L' := [(0, .ref 0), (1, .ref 39), (2, .ref 143), (3, .int (0 : Int32))]) h_m1000 (z_at.mk 1 rfl rfl) rfl rfl rfl (by decide) rfl (by decide) rfl rfl rfl ?_
            refine w_cv (H.t rfl) (pc' := 1277) (L' := [(0, .ref 0), (1, .ref 39), (2, .ref 143), (3, .int (0 : Int32))]) (rest := [.int (-11 : Int32)]) (Ps := [.int (xs 1), .int (xs 2), .int (xs 3), .int (xs 4), .int (xs 5)]) (L0 := [(0, .ref 143), (1, .int (xs 1)), (2, .int (xs 2)), (3, .int (xs 3)), (4, .int (xs 4)), (5, .int (xs 5))]) h_m1000 (z_at.mk 3 rfl rfl) (Or.inl ⟨rfl, rfl⟩) rfl rfl (by decide) (by decide) rfl rfl rfl rfl rfl rfl (by decide) rfl rfl rfl ?_
            refine w_p h_m267 1 (pc' := 1) (L' := [(0, .ref 143), (1, .int (xs 1)), (2, .int (xs 2)), (3, .int (xs 3)), (4, .int (xs 4)), (5, .int (xs 5))]) (st' := [.int (xs 1)]) rfl ?_
            refine w_cs (As := [.int (xs 1)]) (rest := []) (j := 262) (L0 := [(0, .int (xs 1))]) (pc' := 4) (L' := [(0, .ref 143), (1, .int (xs 1)), (2, .int (xs 2)), (3, .int (xs 3)), (4, .int (xs 4)), (5, .int (xs 5))]) h_m267 (z_at.mk 3 rfl rfl) (Or.inl ⟨rfl, rfl⟩) rfl rfl rfl rfl rfl ?_
            refine w_p h_m262 3 (pc' := 3) (L' := [(0, .int (xs 1))]) (st' := [.int (5 : Int32), .int (0 : Int32), .int (xs 1)]) rfl ?_
            refine w_cs (As := [.int (xs 1), .int (0 : Int32), .int (5 : Int32)]) (rest := []) (j := 159) (L0 := [(0, .int (xs 1)), (1, .int (0 : Int32)), (2, .int (5 : Int32))]) (pc' := 6) (L' := [(0, .int (xs 1))]) h_m262 (z_at.mk 3 rfl rfl) (Or.inl ⟨rfl, rfl⟩) rfl rfl rfl rfl rfl ?_
            refine w_p h_m159 2 (pc' := 2) (L' := [(0, .int (xs 1)), (1, .int (0 : Int32)), (2, .int (5 : Int32))]) (st' := [.int (0 : Int32), .int (xs 1)]) rfl ?_
            refine w_f2 (pc' := 5) (L' := [(0, .int (xs 1)), (1, .int (0 : Int32)), (2, .int (5 : Int32))]) h_m159 (z_at.mk 3 rfl rfl) rfl (zc (a := (xs 1).toInt) (b := 0) rfl rfl (decide_eq_false (by omega))) rfl rfl ?_
            refine w_p h_m159 2 (pc' := 7) (L' := [(0, .int (xs 1)), (1, .int (0 : Int32)), (2, .int (5 : Int32))]) (st' := [.int (5 : Int32), .int (xs 1)]) rfl ?_
            refine w_f2 (pc' := 10) (L' := [(0, .int (xs 1)), (1, .int (0 : Int32)), (2, .int (5 : Int32))]) h_m159 (z_at.mk 3 rfl rfl) rfl (zc (a := (xs 1).toInt) (b := 5) rfl rfl (decide_eq_false (by omega))) rfl rfl ?_
            refine w_p h_m159 2 (pc' := 15) (L' := []) (st' := [.int (1 : Int32)]) rfl ?_
            refine w_ri h_m159 (z_at.mk 1 rfl rfl) rfl rfl ?_
            show z_W 998 262 6 [(0, .int (xs 1))] [.int (1 : Int32)] m _
            refine w_ri h_m262 (z_at.mk 1 rfl rfl) rfl rfl ?_
            show z_W 999 267 4 [(0, .ref 143), (1, .int (xs 1)), (2, .int (xs 2)), (3, .int (xs 3)), (4, .int (xs 4)), (5, .int (xs 5))] [.int (1 : Int32)] m _
            refine w_p h_m267 2 (pc' := 8) (L' := [(0, .ref 143), (1, .int (xs 1)), (2, .int (xs 2)), (3, .int (xs 3)), (4, .int (xs 4)), (5, .int (xs 5))]) (st' := [.int (xs 3)]) rfl ?_
            refine w_cs (As := [.int (xs 3)]) (rest := []) (j := 262) (L0 := [(0, .int (xs 3))]) (pc' := 11) (L' := [(0, .ref 143), (1, .int (xs 1)), (2, .int (xs 2)), (3, .int (xs 3)), (4, .int (xs 4)), (5, .int (xs 5))]) h_m267 (z_at.mk 3 rfl rfl) (Or.inl ⟨rfl, rfl⟩) rfl rfl rfl rfl rfl ?_
            refine w_p h_m262 3 (pc' := 3) (L' := [(0, .int (xs 3))]) (st' := [.int (5 : Int32), .int (0 : Int32), .int (xs 3)]) rfl ?_
            refine w_cs (As := [.int (xs 3), .int (0 : Int32), .int (5 : Int32)]) (rest := []) (j := 159) (L0 := [(0, .int (xs 3)), (1, .int (0 : Int32)), (2, .int (5 : Int32))]) (pc' := 6) (L' := [(0, .int (xs 3))]) h_m262 (z_at.mk 3 rfl rfl) (Or.inl ⟨rfl, rfl⟩) rfl rfl rfl rfl rfl ?_
            refine w_p h_m159 2 (pc' := 2) (L' := [(0, .int (xs 3)), (1, .int (0 : Int32)), (2, .int (5 : Int32))]) (st' := [.int (0 : Int32), .int (xs 3)]) rfl ?_
            refine w_f2 (pc' := 5) (L' := [(0, .int (xs 3)), (1, .int (0 : Int32)), (2, .int (5 : Int32))]) h_m159 (z_at.mk 3 rfl rfl) rfl (zc (a := (xs 3).toInt) (b := 0) rfl rfl (decide_eq_false (by omega))) rfl rfl ?_
            refine w_p h_m159 2 (pc' := 7) (L' := [(0, .int (xs 3)), (1, .int (0 : Int32)), (2, .int (5 : Int32))]) (st' := [.int (5 : Int32), .int (xs 3)]) rfl ?_
            refine w_f2 (pc' := 10) (L' := [(0, .int (xs 3)), (1, .int (0 : Int32)), (2, .int (5 : Int32))]) h_m159 (z_at.mk 3 rfl rfl) rfl (zc (a := (xs 3).toInt) (b := 5) rfl rfl (decide_eq_false (by omega))) rfl rfl ?_
            refine w_p h_m159 2 (pc' := 15) (L' := []) (st' := [.int (1 : Int32)]) rfl ?_
            refine w_ri h_m159 (z_at.mk 1 rfl rfl) rfl rfl ?_
            show z_W 998 262 6 [(0, .int (xs 3))] [.int (1 : Int32)] m _
            refine w_ri h_m262 (z_at.mk 1 rfl rfl) rfl rfl ?_
            show z_W 999 267 11 [(0, .ref 143), (1, .int (xs 1)), (2, .int (xs 2)), (3, .int (xs 3)), (4, .int (xs 4)), (5, .int (xs 5))] [.int (1 : Int32)] m _
            refine w_p h_m267 2 (pc' := 17) (L' := [(0, .ref 143), (1, .int (xs 1)), (2, .int (xs 2)), (3, .int (xs 3)), (4, .int (xs 4)), (5, .int (xs 5))]) (st' := [.ref 143]) rfl ?_
            refine w_gf H (pc' := 20) (L' := [(0, .ref 143), (1, .int (xs 1)), (2, .int (xs 2)), (3, .int (xs 3)), (4, .int (xs 4)), (5, .int (xs 5))]) h_m267 (z_at.mk 3 rfl rfl) rfl (u := .ref 166) rfl rfl rfl ?_
            refine w_p h_m267 1 (pc' := 21) (L' := [(0, .ref 143), (1, .int (xs 1)), (2, .int (xs 2)), (3, .int (xs 3)), (4, .int (xs 4)), (5, .int (xs 5))]) (st' := [.int (xs 1), .ref 166]) rfl ?_
            have c_9 : (xs 1).toInt = 2 := by omega
            refine w_top (v' := .int (2 : Int32)) (congrArg Value.int (zi_lit (c := (xs 1).toInt) rfl c_9)) ?_
            refine w_al H (t := 0) (j := 2) (pc' := 22) (L' := [(0, .ref 143), (1, .int (xs 1)), (2, .int (xs 2)), (3, .int (xs 3)), (4, .int (xs 4)), (5, .int (xs 5))]) h_m267 (z_at.mk 1 rfl rfl) rfl rfl rfl (u := .int (-1 : Int32)) rfl rfl rfl ?_
            refine w_p h_m267 2 (pc' := 36) (L' := []) (st' := [.int (-11 : Int32)]) rfl ?_
            refine w_ri h_m267 (z_at.mk 1 rfl rfl) rfl rfl ?_
            show z_W 1000 1000 1277 [(0, .ref 0), (1, .ref 39), (2, .ref 143), (3, .int (0 : Int32))] [.int (-11 : Int32), .int (-11 : Int32)] m _
            refine w_p h_m1000 5 (pc' := 20) (L' := [(0, .ref 0), (1, .ref 39), (2, .ref 143), (3, .int (6 : Int32))]) (st' := [.ref 0, .int (6 : Int32)]) rfl ?_
            refine w_lene H (x := (6 : Int32)) (pc' := 21) (L' := [(0, .ref 0), (1, .ref 39), (2, .ref 143), (3, .int (6 : Int32))]) h_m1000 (z_at.mk 1 rfl rfl) (by decide) rfl (by decide) rfl rfl rfl ?_
            refine w_p h_m1000 4 (pc' := 1381) (L' := [(0, .ref 0), (1, .ref 39), (2, .ref 143), (3, .int (6 : Int32))]) (st' := [.int (1 : Int32)]) rfl ?_
            refine w_ri h_m1000 (z_at.mk 1 rfl rfl) rfl rfl ?_
            exact hQ _ _ _ _ H (by decide) (by decide)
          by_cases c_9 : (xs 1).toInt = 1
          · refine w_top (v' := .int (1 : Int32)) (congrArg Value.int (zi_lit (c := (xs 1).toInt) rfl c_9)) ?_
            refine w_al H (t := 0) (j := 1) (pc' := 15) (L' := [(0, .ref 134), (1, .int (xs 1))]) h_m59 (z_at.mk 1 rfl rfl) rfl rfl rfl (u := .int (-1 : Int32)) rfl rfl rfl ?_
            refine w_p h_m59 3 (pc' := 24) (L' := []) (st' := [.int (-11 : Int32)]) rfl ?_
            refine w_ri h_m59 (z_at.mk 1 rfl rfl) rfl rfl ?_
            show z_W 999 153 24 [(0, .ref 39), (1, .int (xs 1)), (2, .int (xs 2)), (3, .int (xs 3)), (4, .int (xs 4)), (5, .int (xs 5))] [.int (-11 : Int32)] m _
            refine w_p h_m153 2 (pc' := 40) (L' := []) (st' := [.int (-11 : Int32)]) rfl ?_
            refine w_ri h_m153 (z_at.mk 1 rfl rfl) rfl rfl ?_
            show z_W 1000 1000 1248 [(0, .ref 0), (1, .ref 39), (2, .ref 143), (3, .int (0 : Int32))] [.int (-11 : Int32)] m _
            refine w_p h_m1000 5 (pc' := 1253) (L' := [(0, .ref 0), (1, .ref 39), (2, .ref 143), (3, .int (0 : Int32))]) (st' := [.int (1 : Int32), .ref 0, .ref 143, .int (-11 : Int32)]) rfl ?_
            refine w_ae H (j := 1) (pc' := 1254) (L' := [(0, .ref 0), (1, .ref 39), (2, .ref 143), (3, .int (0 : Int32))]) h_m1000 (z_at.mk 1 rfl rfl) rfl rfl rfl (by decide) rfl (by decide) rfl rfl rfl ?_
            refine w_p h_m1000 4 (pc' := 1258) (L' := [(0, .ref 0), (1, .ref 39), (2, .ref 143), (3, .int (0 : Int32))]) (st' := [.int (2 : Int32), .ref 0, .int (xs 1), .ref 143, .int (-11 : Int32)]) rfl ?_
            refine w_ae H (j := 2) (pc' := 1259) (L' := [(0, .ref 0), (1, .ref 39), (2, .ref 143), (3, .int (0 : Int32))]) h_m1000 (z_at.mk 1 rfl rfl) rfl rfl rfl (by decide) rfl (by decide) rfl rfl rfl ?_
            refine w_p h_m1000 4 (pc' := 1263) (L' := [(0, .ref 0), (1, .ref 39), (2, .ref 143), (3, .int (0 : Int32))]) (st' := [.int (3 : Int32), .ref 0, .int (xs 2), .int (xs 1), .ref 143, .int (-11 : Int32)]) rfl ?_
            refine w_ae H (j := 3) (pc' := 1264) (L' := [(0, .ref 0), (1, .ref 39), (2, .ref 143), (3, .int (0 : Int32))]) h_m1000 (z_at.mk 1 rfl rfl) rfl rfl rfl (by decide) rfl (by decide) rfl rfl rfl ?_
            refine w_p h_m1000 4 (pc' := 1268) (L' := [(0, .ref 0), (1, .ref 39), (2, .ref 143), (3, .int (0 : Int32))]) (st' := [.int (4 : Int32), .ref 0, .int (xs 3), .int (xs 2), .int (xs 1), .ref 143, .int (-11 : Int32)]) rfl ?_
            refine w_ae H (j := 4) (pc' := 1269) (L' := [(0, .ref 0), (1, .ref 39), (2, .ref 143), (3, .int (0 : Int32))]) h_m1000 (z_at.mk 1 rfl rfl) rfl rfl rfl (by decide) rfl (by decide) rfl rfl rfl ?_
            refine w_p h_m1000 4 (pc' := 1273) (L' := [(0, .ref 0), (1, .ref 39), (2, .ref 143), (3, .int (0 : Int32))]) (st' := [.int (5 : Int32), .ref 0, .int (xs 4), .int (xs 3), .int (xs 2), .int (xs 1), .ref 143, .int (-11 : Int32)]) rfl ?_
            refine w_ae H (j := 5) (pc' := 1274) (L' := [(0, .ref 0), (1, .ref 39), (2, .ref 143), (3, .int (0 : Int32))]) h_m1000 (z_at.mk 1 rfl rfl) rfl rfl rfl (by decide) rfl (by decide) rfl rfl rfl ?_
            refine w_cv (H.t rfl) (pc' := 1277) (L' := [(0, .ref 0), (1, .ref 39), (2, .ref 143), (3, .int (0 : Int32))]) (rest := [.int (-11 : Int32)]) (Ps := [.int (xs 1), .int (xs 2), .int (xs 3), .int (xs 4), .int (xs 5)]) (L0 := [(0, .ref 143), (1, .int (xs 1)), (2, .int (xs 2)), (3, .int (xs 3)), (4, .int (xs 4)), (5, .int (xs 5))]) h_m1000 (z_at.mk 3 rfl rfl) (Or.inl ⟨rfl, rfl⟩) rfl rfl (by decide) (by decide) rfl rfl rfl rfl rfl rfl (by decide) rfl rfl rfl ?_
            refine w_p h_m267 1 (pc' := 1) (L' := [(0, .ref 143), (1, .int (xs 1)), (2, .int (xs 2)), (3, .int (xs 3)), (4, .int (xs 4)), (5, .int (xs 5))]) (st' := [.int (xs 1)]) rfl ?_
            refine w_cs (As := [.int (xs 1)]) (rest := []) (j := 262) (L0 := [(0, .int (xs 1))]) (pc' := 4) (L' := [(0, .ref 143), (1, .int (xs 1)), (2, .int (xs 2)), (3, .int (xs 3)), (4, .int (xs 4)), (5, .int (xs 5))]) h_m267 (z_at.mk 3 rfl rfl) (Or.inl ⟨rfl, rfl⟩) rfl rfl rfl rfl rfl ?_
            refine w_p h_m262 3 (pc' := 3) (L' := [(0, .int (xs 1))]) (st' := [.int (5 : Int32), .int (0 : Int32), .int (xs 1)]) rfl ?_
            refine w_cs (As := [.int (xs 1), .int (0 : Int32), .int (5 : Int32)]) (rest := []) (j := 159) (L0 := [(0, .int (xs 1)), (1, .int (0 : Int32)), (2, .int (5 : Int32))]) (pc' := 6) (L' := [(0, .int (xs 1))]) h_m262 (z_at.mk 3 rfl rfl) (Or.inl ⟨rfl, rfl⟩) rfl rfl rfl rfl rfl ?_
            refine w_p h_m159 2 (pc' := 2) (L' := [(0, .int (xs 1)), (1, .int (0 : Int32)), (2, .int (5 : Int32))]) (st' := [.int (0 : Int32), .int (xs 1)]) rfl ?_
            refine w_f2 (pc' := 5) (L' := [(0, .int (xs 1)), (1, .int (0 : Int32)), (2, .int (5 : Int32))]) h_m159 (z_at.mk 3 rfl rfl) rfl (zc (a := (xs 1).toInt) (b := 0) rfl rfl (decide_eq_false (by omega))) rfl rfl ?_
            refine w_p h_m159 2 (pc' := 7) (L' := [(0, .int (xs 1)), (1, .int (0 : Int32)), (2, .int (5 : Int32))]) (st' := [.int (5 : Int32), .int (xs 1)]) rfl ?_
            refine w_f2 (pc' := 10) (L' := [(0, .int (xs 1)), (1, .int (0 : Int32)), (2, .int (5 : Int32))]) h_m159 (z_at.mk 3 rfl rfl) rfl (zc (a := (xs 1).toInt) (b := 5) rfl rfl (decide_eq_false (by omega))) rfl rfl ?_
            refine w_p h_m159 2 (pc' := 15) (L' := []) (st' := [.int (1 : Int32)]) rfl ?_
            refine w_ri h_m159 (z_at.mk 1 rfl rfl) rfl rfl ?_
            show z_W 998 262 6 [(0, .int (xs 1))] [.int (1 : Int32)] m _
            refine w_ri h_m262 (z_at.mk 1 rfl rfl) rfl rfl ?_
            show z_W 999 267 4 [(0, .ref 143), (1, .int (xs 1)), (2, .int (xs 2)), (3, .int (xs 3)), (4, .int (xs 4)), (5, .int (xs 5))] [.int (1 : Int32)] m _
            refine w_p h_m267 2 (pc' := 8) (L' := [(0, .ref 143), (1, .int (xs 1)), (2, .int (xs 2)), (3, .int (xs 3)), (4, .int (xs 4)), (5, .int (xs 5))]) (st' := [.int (xs 3)]) rfl ?_
            refine w_cs (As := [.int (xs 3)]) (rest := []) (j := 262) (L0 := [(0, .int (xs 3))]) (pc' := 11) (L' := [(0, .ref 143), (1, .int (xs 1)), (2, .int (xs 2)), (3, .int (xs 3)), (4, .int (xs 4)), (5, .int (xs 5))]) h_m267 (z_at.mk 3 rfl rfl) (Or.inl ⟨rfl, rfl⟩) rfl rfl rfl rfl rfl ?_
            refine w_p h_m262 3 (pc' := 3) (L' := [(0, .int (xs 3))]) (st' := [.int (5 : Int32), .int (0 : Int32), .int (xs 3)]) rfl ?_
            refine w_cs (As := [.int (xs 3), .int (0 : Int32), .int (5 : Int32)]) (rest := []) (j := 159) (L0 := [(0, .int (xs 3)), (1, .int (0 : Int32)), (2, .int (5 : Int32))]) (pc' := 6) (L' := [(0, .int (xs 3))]) h_m262 (z_at.mk 3 rfl rfl) (Or.inl ⟨rfl, rfl⟩) rfl rfl rfl rfl rfl ?_
            refine w_p h_m159 2 (pc' := 2) (L' := [(0, .int (xs 3)), (1, .int (0 : Int32)), (2, .int (5 : Int32))]) (st' := [.int (0 : Int32), .int (xs 3)]) rfl ?_
            refine w_f2 (pc' := 5) (L' := [(0, .int (xs 3)), (1, .int (0 : Int32)), (2, .int (5 : Int32))]) h_m159 (z_at.mk 3 rfl rfl) rfl (zc (a := (xs 3).toInt) (b := 0) rfl rfl (decide_eq_false (by omega))) rfl rfl ?_
            refine w_p h_m159 2 (pc' := 7) (L' := [(0, .int (xs 3)), (1, .int (0 : Int32)), (2, .int (5 : Int32))]) (st' := [.int (5 : Int32), .int (xs 3)]) rfl ?_
            refine w_f2 (pc' := 10) (L' := [(0, .int (xs 3)), (1, .int (0 : Int32)), (2, .int (5 : Int32))]) h_m159 (z_at.mk 3 rfl rfl) rfl (zc (a := (xs 3).toInt) (b := 5) rfl rfl (decide_eq_false (by omega))) rfl rfl ?_
            refine w_p h_m159 2 (pc' := 15) (L' := []) (st' := [.int (1 : Int32)]) rfl ?_
            refine w_ri h_m159 (z_at.mk 1 rfl rfl) rfl rfl ?_
            show z_W 998 262 6 [(0, .int (xs 3))] [.int (1 : Int32)] m _
            refine w_ri h_m262 (z_at.mk 1 rfl rfl) rfl rfl ?_
            show z_W 999 267 11 [(0, .ref 143), (1, .int (xs 1)), (2, .int (xs 2)), (3, .int (xs 3)), (4, .int (xs 4)), (5, .int (xs 5))] [.int (1 : Int32)] m _
            refine w_p h_m267 2 (pc' := 17) (L' := [(0, .ref 143), (1, .int (xs 1)), (2, .int (xs 2)), (3, .int (xs 3)), (4, .int (xs 4)), (5, .int (xs 5))]) (st' := [.ref 143]) rfl ?_
            refine w_gf H (pc' := 20) (L' := [(0, .ref 143), (1, .int (xs 1)), (2, .int (xs 2)), (3, .int (xs 3)), (4, .int (xs 4)), (5, .int (xs 5))]) h_m267 (z_at.mk 3 rfl rfl) rfl (u := .ref 166) rfl rfl rfl ?_
            refine w_p h_m267 1 (pc' := 21) (L' := [(0, .ref 143), (1, .int (xs 1)), (2, .int (xs 2)), (3, .int (xs 3)), (4, .int (xs 4)), (5, .int (xs 5))]) (st' := [.int (xs 1), .ref 166]) rfl ?_
            have c_10 : (xs 1).toInt = 1 := by omega
            refine w_top (v' := .int (1 : Int32)) (congrArg Value.int (zi_lit (c := (xs 1).toInt) rfl c_10)) ?_
            refine w_al H (t := 0) (j := 1) (pc' := 22) (L' := [(0, .ref 143), (1, .int (xs 1)), (2, .int (xs 2)), (3, .int (xs 3)), (4, .int (xs 4)), (5, .int (xs 5))]) h_m267 (z_at.mk 1 rfl rfl) rfl rfl rfl (u := .int (-1 : Int32)) rfl rfl rfl ?_
            refine w_p h_m267 2 (pc' := 36) (L' := []) (st' := [.int (-11 : Int32)]) rfl ?_
            refine w_ri h_m267 (z_at.mk 1 rfl rfl) rfl rfl ?_
            show z_W 1000 1000 1277 [(0, .ref 0), (1, .ref 39), (2, .ref 143), (3, .int (0 : Int32))] [.int (-11 : Int32), .int (-11 : Int32)] m _
            refine w_p h_m1000 5 (pc' := 20) (L' := [(0, .ref 0), (1, .ref 39), (2, .ref 143), (3, .int (6 : Int32))]) (st' := [.ref 0, .int (6 : Int32)]) rfl ?_
            refine w_lene H (x := (6 : Int32)) (pc' := 21) (L' := [(0, .ref 0), (1, .ref 39), (2, .ref 143), (3, .int (6 : Int32))]) h_m1000 (z_at.mk 1 rfl rfl) (by decide) rfl (by decide) rfl rfl rfl ?_
            refine w_p h_m1000 4 (pc' := 1381) (L' := [(0, .ref 0), (1, .ref 39), (2, .ref 143), (3, .int (6 : Int32))]) (st' := [.int (1 : Int32)]) rfl ?_
            refine w_ri h_m1000 (z_at.mk 1 rfl rfl) rfl rfl ?_
            exact hQ _ _ _ _ H (by decide) (by decide)
          have c_10 : (xs 1).toInt = 0 := by omega
          refine w_top (v' := .int (0 : Int32)) (congrArg Value.int (zi_lit (c := (xs 1).toInt) rfl c_10)) ?_
          refine w_al H (t := 0) (j := 0) (pc' := 15) (L' := [(0, .ref 134), (1, .int (xs 1))]) h_m59 (z_at.mk 1 rfl rfl) rfl rfl rfl (u := .int (-1 : Int32)) rfl rfl rfl ?_
          refine w_p h_m59 3 (pc' := 24) (L' := []) (st' := [.int (-11 : Int32)]) rfl ?_
          refine w_ri h_m59 (z_at.mk 1 rfl rfl) rfl rfl ?_
          show z_W 999 153 24 [(0, .ref 39), (1, .int (xs 1)), (2, .int (xs 2)), (3, .int (xs 3)), (4, .int (xs 4)), (5, .int (xs 5))] [.int (-11 : Int32)] m _
          refine w_p h_m153 2 (pc' := 40) (L' := []) (st' := [.int (-11 : Int32)]) rfl ?_
          refine w_ri h_m153 (z_at.mk 1 rfl rfl) rfl rfl ?_
          show z_W 1000 1000 1248 [(0, .ref 0), (1, .ref 39), (2, .ref 143), (3, .int (0 : Int32))] [.int (-11 : Int32)] m _
          refine w_p h_m1000 5 (pc' := 1253) (L' := [(0, .ref 0), (1, .ref 39), (2, .ref 143), (3, .int (0 : Int32))]) (st' := [.int (1 : Int32), .ref 0, .ref 143, .int (-11 : Int32)]) rfl ?_
          refine w_ae H (j := 1) (pc' := 1254) (L' := [(0, .ref 0), (1, .ref 39), (2, .ref 143), (3, .int (0 : Int32))]) h_m1000 (z_at.mk 1 rfl rfl) rfl rfl rfl (by decide) rfl (by decide) rfl rfl rfl ?_
          refine w_p h_m1000 4 (pc' := 1258) (L' := [(0, .ref 0), (1, .ref 39), (2, .ref 143), (3, .int (0 : Int32))]) (st' := [.int (2 : Int32), .ref 0, .int (xs 1), .ref 143, .int (-11 : Int32)]) rfl ?_
          refine w_ae H (j := 2) (pc' := 1259) (L' := [(0, .ref 0), (1, .ref 39), (2, .ref 143), (3, .int (0 : Int32))]) h_m1000 (z_at.mk 1 rfl rfl) rfl rfl rfl (by decide) rfl (by decide) rfl rfl rfl ?_
          refine w_p h_m1000 4 (pc' := 1263) (L' := [(0, .ref 0), (1, .ref 39), (2, .ref 143), (3, .int (0 : Int32))]) (st' := [.int (3 : Int32), .ref 0, .int (xs 2), .int (xs 1), .ref 143, .int (-11 : Int32)]) rfl ?_
          refine w_ae H (j := 3) (pc' := 1264) (L' := [(0, .ref 0), (1, .ref 39), (2, .ref 143), (3, .int (0 : Int32))]) h_m1000 (z_at.mk 1 rfl rfl) rfl rfl rfl (by decide) rfl (by decide) rfl rfl rfl ?_
          refine w_p h_m1000 4 (pc' := 1268) (L' := [(0, .ref 0), (1, .ref 39), (2, .ref 143), (3, .int (0 : Int32))]) (st' := [.int (4 : Int32), .ref 0, .int (xs 3), .int (xs 2), .int (xs 1), .ref 143, .int (-11 : Int32)]) rfl ?_
          refine w_ae H (j := 4) (pc' := 1269) (L' := [(0, .ref 0), (1, .ref 39), (2, .ref 143), (3, .int (0 : Int32))]) h_m1000 (z_at.mk 1 rfl rfl) rfl rfl rfl (by decide) rfl (by decide) rfl rfl rfl ?_
          refine w_p h_m1000 4 (pc' := 1273) (L' := [(0, .ref 0), (1, .ref 39), (2, .ref 143), (3, .int (0 : Int32))]) (st' := [.int (5 : Int32), .ref 0, .int (xs 4), .int (xs 3), .int (xs 2), .int (xs 1), .ref 143, .int (-11 : Int32)]) rfl ?_
          refine w_ae H (j := 5) (pc' := 1274) (L' := [(0, .ref 0), (1, .ref 39), (2, .ref 143), (3, .int (0 : Int32))]) h_m1000 (z_at.mk 1 rfl rfl) rfl rfl rfl (by decide) rfl (by decide) rfl rfl rfl ?_
          refine w_cv (H.t rfl) (pc' := 1277) (L' := [(0, .ref 0), (1, .ref 39), (2, .ref 143), (3, .int (0 : Int32))]) (rest := [.int (-11 : Int32)]) (Ps := [.int (xs 1), .int (xs 2), .int (xs 3), .int (xs 4), .int (xs 5)]) (L0 := [(0, .ref 143), (1, .int (xs 1)), (2, .int (xs 2)), (3, .int (xs 3)), (4, .int (xs 4)), (5, .int (xs 5))]) h_m1000 (z_at.mk 3 rfl rfl) (Or.inl ⟨rfl, rfl⟩) rfl rfl (by decide) (by decide) rfl rfl rfl rfl rfl rfl (by decide) rfl rfl rfl ?_
          refine w_p h_m267 1 (pc' := 1) (L' := [(0, .ref 143), (1, .int (xs 1)), (2, .int (xs 2)), (3, .int (xs 3)), (4, .int (xs 4)), (5, .int (xs 5))]) (st' := [.int (xs 1)]) rfl ?_
          refine w_cs (As := [.int (xs 1)]) (rest := []) (j := 262) (L0 := [(0, .int (xs 1))]) (pc' := 4) (L' := [(0, .ref 143), (1, .int (xs 1)), (2, .int (xs 2)), (3, .int (xs 3)), (4, .int (xs 4)), (5, .int (xs 5))]) h_m267 (z_at.mk 3 rfl rfl) (Or.inl ⟨rfl, rfl⟩) rfl rfl rfl rfl rfl ?_
          refine w_p h_m262 3 (pc' := 3) (L' := [(0, .int (xs 1))]) (st' := [.int (5 : Int32), .int (0 : Int32), .int (xs 1)]) rfl ?_
          refine w_cs (As := [.int (xs 1), .int (0 : Int32), .int (5 : Int32)]) (rest := []) (j := 159) (L0 := [(0, .int (xs 1)), (1, .int (0 : Int32)), (2, .int (5 : Int32))]) (pc' := 6) (L' := [(0, .int (xs 1))]) h_m262 (z_at.mk 3 rfl rfl) (Or.inl ⟨rfl, rfl⟩) rfl rfl rfl rfl rfl ?_
          refine w_p h_m159 2 (pc' := 2) (L' := [(0, .int (xs 1)), (1, .int (0 : Int32)), (2, .int (5 : Int32))]) (st' := [.int (0 : Int32), .int (xs 1)]) rfl ?_
          refine w_f2 (pc' := 5) (L' := [(0, .int (xs 1)), (1, .int (0 : Int32)), (2, .int (5 : Int32))]) h_m159 (z_at.mk 3 rfl rfl) rfl (zc (a := (xs 1).toInt) (b := 0) rfl rfl (decide_eq_false (by omega))) rfl rfl ?_
          refine w_p h_m159 2 (pc' := 7) (L' := [(0, .int (xs 1)), (1, .int (0 : Int32)), (2, .int (5 : Int32))]) (st' := [.int (5 : Int32), .int (xs 1)]) rfl ?_
          refine w_f2 (pc' := 10) (L' := [(0, .int (xs 1)), (1, .int (0 : Int32)), (2, .int (5 : Int32))]) h_m159 (z_at.mk 3 rfl rfl) rfl (zc (a := (xs 1).toInt) (b := 5) rfl rfl (decide_eq_false (by omega))) rfl rfl ?_
          refine w_p h_m159 2 (pc' := 15) (L' := []) (st' := [.int (1 : Int32)]) rfl ?_
          refine w_ri h_m159 (z_at.mk 1 rfl rfl) rfl rfl ?_
          show z_W 998 262 6 [(0, .int (xs 1))] [.int (1 : Int32)] m _
          refine w_ri h_m262 (z_at.mk 1 rfl rfl) rfl rfl ?_
          show z_W 999 267 4 [(0, .ref 143), (1, .int (xs 1)), (2, .int (xs 2)), (3, .int (xs 3)), (4, .int (xs 4)), (5, .int (xs 5))] [.int (1 : Int32)] m _
          refine w_p h_m267 2 (pc' := 8) (L' := [(0, .ref 143), (1, .int (xs 1)), (2, .int (xs 2)), (3, .int (xs 3)), (4, .int (xs 4)), (5, .int (xs 5))]) (st' := [.int (xs 3)]) rfl ?_
          refine w_cs (As := [.int (xs 3)]) (rest := []) (j := 262) (L0 := [(0, .int (xs 3))]) (pc' := 11) (L' := [(0, .ref 143), (1, .int (xs 1)), (2, .int (xs 2)), (3, .int (xs 3)), (4, .int (xs 4)), (5, .int (xs 5))]) h_m267 (z_at.mk 3 rfl rfl) (Or.inl ⟨rfl, rfl⟩) rfl rfl rfl rfl rfl ?_
          refine w_p h_m262 3 (pc' := 3) (L' := [(0, .int (xs 3))]) (st' := [.int (5 : Int32), .int (0 : Int32), .int (xs 3)]) rfl ?_
          refine w_cs (As := [.int (xs 3), .int (0 : Int32), .int (5 : Int32)]) (rest := []) (j := 159) (L0 := [(0, .int (xs 3)), (1, .int (0 : Int32)), (2, .int (5 : Int32))]) (pc' := 6) (L' := [(0, .int (xs 3))]) h_m262 (z_at.mk 3 rfl rfl) (Or.inl ⟨rfl, rfl⟩) rfl rfl rfl rfl rfl ?_
          refine w_p h_m159 2 (pc' := 2) (L' := [(0, .int (xs 3)), (1, .int (0 : Int32)), (2, .int (5 : Int32))]) (st' := [.int (0 : Int32), .int (xs 3)]) rfl ?_
          refine w_f2 (pc' := 5) (L' := [(0, .int (xs 3)), (1, .int (0 : Int32)), (2, .int (5 : Int32))]) h_m159 (z_at.mk 3 rfl rfl) rfl (zc (a := (xs 3).toInt) (b := 0) rfl rfl (decide_eq_false (by omega))) rfl rfl ?_
          refine w_p h_m159 2 (pc' := 7) (L' := [(0, .int (xs 3)), (1, .int (0 : Int32)), (2, .int (5 : Int32))]) (st' := [.int (5 : Int32), .int (xs 3)]) rfl ?_
          refine w_f2 (pc' := 10) (L' := [(0, .int (xs 3)), (1, .int (0 : Int32)), (2, .int (5 : Int32))]) h_m159 (z_at.mk 3 rfl rfl) rfl (zc (a := (xs 3).toInt) (b := 5) rfl rfl (decide_eq_false (by omega))) rfl rfl ?_
          refine w_p h_m159 2 (pc' := 15) (L' := []) (st' := [.int (1 : Int32)]) rfl ?_
          refine w_ri h_m159 (z_at.mk 1 rfl rfl) rfl rfl ?_
          show z_W 998 262 6 [(0, .int (xs 3))] [.int (1 : Int32)] m _
          refine w_ri h_m262 (z_at.mk 1 rfl rfl) rfl rfl ?_
          show z_W 999 267 11 [(0, .ref 143), (1, .int (xs 1)), (2, .int (xs 2)), (3, .int (xs 3)), (4, .int (xs 4)), (5, .int (xs 5))] [.int (1 : Int32)] m _
          refine w_p h_m267 2 (pc' := 17) (L' := [(0, .ref 143), (1, .int (xs 1)), (2, .int (xs 2)), (3, .int (xs 3)), (4, .int (xs 4)), (5, .int (xs 5))]) (st' := [.ref 143]) rfl ?_
          refine w_gf H (pc' := 20) (L' := [(0, .ref 143), (1, .int (xs 1)), (2, .int (xs 2)), (3, .int (xs 3)), (4, .int (xs 4)), (5, .int (xs 5))]) h_m267 (z_at.mk 3 rfl rfl) rfl (u := .ref 166) rfl rfl rfl ?_
          refine w_p h_m267 1 (pc' := 21) (L' := [(0, .ref 143), (1, .int (xs 1)), (2, .int (xs 2)), (3, .int (xs 3)), (4, .int (xs 4)), (5, .int (xs 5))]) (st' := [.int (xs 1), .ref 166]) rfl ?_
          have c_11 : (xs 1).toInt = 0 := by omega
          refine w_top (v' := .int (0 : Int32)) (congrArg Value.int (zi_lit (c := (xs 1).toInt) rfl c_11)) ?_
          refine w_al H (t := 0) (j := 0) (pc' := 22) (L' := [(0, .ref 143), (1, .int (xs 1)), (2, .int (xs 2)), (3, .int (xs 3)), (4, .int (xs 4)), (5, .int (xs 5))]) h_m267 (z_at.mk 1 rfl rfl) rfl rfl rfl (u := .int (-1 : Int32)) rfl rfl rfl ?_
          refine w_p h_m267 2 (pc' := 36) (L' := []) (st' := [.int (-11 : Int32)]) rfl ?_
          refine w_ri h_m267 (z_at.mk 1 rfl rfl) rfl rfl ?_
          show z_W 1000 1000 1277 [(0, .ref 0), (1, .ref 39), (2, .ref 143), (3, .int (0 : Int32))] [.int (-11 : Int32), .int (-11 : Int32)] m _
          refine w_p h_m1000 5 (pc' := 20) (L' := [(0, .ref 0), (1, .ref 39), (2, .ref 143), (3, .int (6 : Int32))]) (st' := [.ref 0, .int (6 : Int32)]) rfl ?_
          refine w_lene H (x := (6 : Int32)) (pc' := 21) (L' := [(0, .ref 0), (1, .ref 39), (2, .ref 143), (3, .int (6 : Int32))]) h_m1000 (z_at.mk 1 rfl rfl) (by decide) rfl (by decide) rfl rfl rfl ?_
          refine w_p h_m1000 4 (pc' := 1381) (L' := [(0, .ref 0), (1, .ref 39), (2, .ref 143), (3, .int (6 : Int32))]) (st' := [.int (1 : Int32)]) rfl ?_
          refine w_ri h_m1000 (z_at.mk 1 rfl rfl) rfl rfl ?_
          exact hQ _ _ _ _ H (by decide) (by decide)
        · refine w_t2 (pc' := 14) (L' := []) h_m58 (z_at.mk 3 rfl rfl) rfl (zc (a := (xs 3).toInt) (b := 6) rfl rfl (decide_eq_true (by omega))) rfl rfl ?_
          refine w_p h_m58 1 (pc' := 15) (L' := []) (st' := [.int (0 : Int32)]) rfl ?_
          refine w_ri h_m58 (z_at.mk 1 rfl rfl) rfl rfl ?_
          show z_W 999 153 11 [(0, .ref 39), (1, .int (xs 1)), (2, .int (xs 2)), (3, .int (xs 3)), (4, .int (xs 4)), (5, .int (xs 5))] [.int (0 : Int32)] m _
          refine w_p h_m153 2 (pc' := 15) (L' := []) (st' := [.int (-1 : Int32)]) rfl ?_
          refine w_ri h_m153 (z_at.mk 1 rfl rfl) rfl rfl ?_
          show z_W 1000 1000 1248 [(0, .ref 0), (1, .ref 39), (2, .ref 143), (3, .int (0 : Int32))] [.int (-1 : Int32)] m _
          refine w_p h_m1000 5 (pc' := 1253) (L' := [(0, .ref 0), (1, .ref 39), (2, .ref 143), (3, .int (0 : Int32))]) (st' := [.int (1 : Int32), .ref 0, .ref 143, .int (-1 : Int32)]) rfl ?_
          refine w_ae H (j := 1) (pc' := 1254) (L' := [(0, .ref 0), (1, .ref 39), (2, .ref 143), (3, .int (0 : Int32))]) h_m1000 (z_at.mk 1 rfl rfl) rfl rfl rfl (by decide) rfl (by decide) rfl rfl rfl ?_
          refine w_p h_m1000 4 (pc' := 1258) (L' := [(0, .ref 0), (1, .ref 39), (2, .ref 143), (3, .int (0 : Int32))]) (st' := [.int (2 : Int32), .ref 0, .int (xs 1), .ref 143, .int (-1 : Int32)]) rfl ?_
          refine w_ae H (j := 2) (pc' := 1259) (L' := [(0, .ref 0), (1, .ref 39), (2, .ref 143), (3, .int (0 : Int32))]) h_m1000 (z_at.mk 1 rfl rfl) rfl rfl rfl (by decide) rfl (by decide) rfl rfl rfl ?_
          refine w_p h_m1000 4 (pc' := 1263) (L' := [(0, .ref 0), (1, .ref 39), (2, .ref 143), (3, .int (0 : Int32))]) (st' := [.int (3 : Int32), .ref 0, .int (xs 2), .int (xs 1), .ref 143, .int (-1 : Int32)]) rfl ?_
          refine w_ae H (j := 3) (pc' := 1264) (L' := [(0, .ref 0), (1, .ref 39), (2, .ref 143), (3, .int (0 : Int32))]) h_m1000 (z_at.mk 1 rfl rfl) rfl rfl rfl (by decide) rfl (by decide) rfl rfl rfl ?_
          refine w_p h_m1000 4 (pc' := 1268) (L' := [(0, .ref 0), (1, .ref 39), (2, .ref 143), (3, .int (0 : Int32))]) (st' := [.int (4 : Int32), .ref 0, .int (xs 3), .int (xs 2), .int (xs 1), .ref 143, .int (-1 : Int32)]) rfl ?_
          refine w_ae H (j := 4) (pc' := 1269) (L' := [(0, .ref 0), (1, .ref 39), (2, .ref 143), (3, .int (0 : Int32))]) h_m1000 (z_at.mk 1 rfl rfl) rfl rfl rfl (by decide) rfl (by decide) rfl rfl rfl ?_
          refine w_p h_m1000 4 (pc' := 1273) (L' := [(0, .ref 0), (1, .ref 39), (2, .ref 143), (3, .int (0 : Int32))]) (st' := [.int (5 : Int32), .ref 0, .int (xs 4), .int (xs 3), .int (xs 2), .int (xs 1), .ref 143, .int (-1 : Int32)]) rfl ?_
          refine w_ae H (j := 5) (pc' := 1274) (L' := [(0, .ref 0), (1, .ref 39), (2, .ref 143), (3, .int (0 : Int32))]) h_m1000 (z_at.mk 1 rfl rfl) rfl rfl rfl (by decide) rfl (by decide) rfl rfl rfl ?_
          refine w_cv (H.t rfl) (pc' := 1277) (L' := [(0, .ref 0), (1, .ref 39), (2, .ref 143), (3, .int (0 : Int32))]) (rest := [.int (-1 : Int32)]) (Ps := [.int (xs 1), .int (xs 2), .int (xs 3), .int (xs 4), .int (xs 5)]) (L0 := [(0, .ref 143), (1, .int (xs 1)), (2, .int (xs 2)), (3, .int (xs 3)), (4, .int (xs 4)), (5, .int (xs 5))]) h_m1000 (z_at.mk 3 rfl rfl) (Or.inl ⟨rfl, rfl⟩) rfl rfl (by decide) (by decide) rfl rfl rfl rfl rfl rfl (by decide) rfl rfl rfl ?_
          refine w_p h_m267 1 (pc' := 1) (L' := [(0, .ref 143), (1, .int (xs 1)), (2, .int (xs 2)), (3, .int (xs 3)), (4, .int (xs 4)), (5, .int (xs 5))]) (st' := [.int (xs 1)]) rfl ?_
          refine w_cs (As := [.int (xs 1)]) (rest := []) (j := 262) (L0 := [(0, .int (xs 1))]) (pc' := 4) (L' := [(0, .ref 143), (1, .int (xs 1)), (2, .int (xs 2)), (3, .int (xs 3)), (4, .int (xs 4)), (5, .int (xs 5))]) h_m267 (z_at.mk 3 rfl rfl) (Or.inl ⟨rfl, rfl⟩) rfl rfl rfl rfl rfl ?_
          refine w_p h_m262 3 (pc' := 3) (L' := [(0, .int (xs 1))]) (st' := [.int (5 : Int32), .int (0 : Int32), .int (xs 1)]) rfl ?_
          refine w_cs (As := [.int (xs 1), .int (0 : Int32), .int (5 : Int32)]) (rest := []) (j := 159) (L0 := [(0, .int (xs 1)), (1, .int (0 : Int32)), (2, .int (5 : Int32))]) (pc' := 6) (L' := [(0, .int (xs 1))]) h_m262 (z_at.mk 3 rfl rfl) (Or.inl ⟨rfl, rfl⟩) rfl rfl rfl rfl rfl ?_
          refine w_p h_m159 2 (pc' := 2) (L' := [(0, .int (xs 1)), (1, .int (0 : Int32)), (2, .int (5 : Int32))]) (st' := [.int (0 : Int32), .int (xs 1)]) rfl ?_
          refine w_f2 (pc' := 5) (L' := [(0, .int (xs 1)), (1, .int (0 : Int32)), (2, .int (5 : Int32))]) h_m159 (z_at.mk 3 rfl rfl) rfl (zc (a := (xs 1).toInt) (b := 0) rfl rfl (decide_eq_false (by omega))) rfl rfl ?_
          refine w_p h_m159 2 (pc' := 7) (L' := [(0, .int (xs 1)), (1, .int (0 : Int32)), (2, .int (5 : Int32))]) (st' := [.int (5 : Int32), .int (xs 1)]) rfl ?_
          refine w_f2 (pc' := 10) (L' := [(0, .int (xs 1)), (1, .int (0 : Int32)), (2, .int (5 : Int32))]) h_m159 (z_at.mk 3 rfl rfl) rfl (zc (a := (xs 1).toInt) (b := 5) rfl rfl (decide_eq_false (by omega))) rfl rfl ?_
          refine w_p h_m159 2 (pc' := 15) (L' := []) (st' := [.int (1 : Int32)]) rfl ?_
          refine w_ri h_m159 (z_at.mk 1 rfl rfl) rfl rfl ?_
          show z_W 998 262 6 [(0, .int (xs 1))] [.int (1 : Int32)] m _
          refine w_ri h_m262 (z_at.mk 1 rfl rfl) rfl rfl ?_
          show z_W 999 267 4 [(0, .ref 143), (1, .int (xs 1)), (2, .int (xs 2)), (3, .int (xs 3)), (4, .int (xs 4)), (5, .int (xs 5))] [.int (1 : Int32)] m _
          refine w_p h_m267 2 (pc' := 8) (L' := [(0, .ref 143), (1, .int (xs 1)), (2, .int (xs 2)), (3, .int (xs 3)), (4, .int (xs 4)), (5, .int (xs 5))]) (st' := [.int (xs 3)]) rfl ?_
          refine w_cs (As := [.int (xs 3)]) (rest := []) (j := 262) (L0 := [(0, .int (xs 3))]) (pc' := 11) (L' := [(0, .ref 143), (1, .int (xs 1)), (2, .int (xs 2)), (3, .int (xs 3)), (4, .int (xs 4)), (5, .int (xs 5))]) h_m267 (z_at.mk 3 rfl rfl) (Or.inl ⟨rfl, rfl⟩) rfl rfl rfl rfl rfl ?_
          refine w_p h_m262 3 (pc' := 3) (L' := [(0, .int (xs 3))]) (st' := [.int (5 : Int32), .int (0 : Int32), .int (xs 3)]) rfl ?_
          refine w_cs (As := [.int (xs 3), .int (0 : Int32), .int (5 : Int32)]) (rest := []) (j := 159) (L0 := [(0, .int (xs 3)), (1, .int (0 : Int32)), (2, .int (5 : Int32))]) (pc' := 6) (L' := [(0, .int (xs 3))]) h_m262 (z_at.mk 3 rfl rfl) (Or.inl ⟨rfl, rfl⟩) rfl rfl rfl rfl rfl ?_
          refine w_p h_m159 2 (pc' := 2) (L' := [(0, .int (xs 3)), (1, .int (0 : Int32)), (2, .int (5 : Int32))]) (st' := [.int (0 : Int32), .int (xs 3)]) rfl ?_
          refine w_f2 (pc' := 5) (L' := [(0, .int (xs 3)), (1, .int (0 : Int32)), (2, .int (5 : Int32))]) h_m159 (z_at.mk 3 rfl rfl) rfl (zc (a := (xs 3).toInt) (b := 0) rfl rfl (decide_eq_false (by omega))) rfl rfl ?_
          refine w_p h_m159 2 (pc' := 7) (L' := [(0, .int (xs 3)), (1, .int (0 : Int32)), (2, .int (5 : Int32))]) (st' := [.int (5 : Int32), .int (xs 3)]) rfl ?_
          refine w_t2 (pc' := 14) (L' := []) h_m159 (z_at.mk 3 rfl rfl) rfl (zc (a := (xs 3).toInt) (b := 5) rfl rfl (decide_eq_true (by omega))) rfl rfl ?_
          refine w_p h_m159 1 (pc' := 15) (L' := []) (st' := [.int (0 : Int32)]) rfl ?_
          refine w_ri h_m159 (z_at.mk 1 rfl rfl) rfl rfl ?_
          show z_W 998 262 6 [(0, .int (xs 3))] [.int (0 : Int32)] m _
          refine w_ri h_m262 (z_at.mk 1 rfl rfl) rfl rfl ?_
          show z_W 999 267 11 [(0, .ref 143), (1, .int (xs 1)), (2, .int (xs 2)), (3, .int (xs 3)), (4, .int (xs 4)), (5, .int (xs 5))] [.int (0 : Int32)] m _
          refine w_p h_m267 2 (pc' := 15) (L' := []) (st' := [.int (-1 : Int32)]) rfl ?_
          refine w_ri h_m267 (z_at.mk 1 rfl rfl) rfl rfl ?_
          show z_W 1000 1000 1277 [(0, .ref 0), (1, .ref 39), (2, .ref 143), (3, .int (0 : Int32))] [.int (-1 : Int32), .int (-1 : Int32)] m _
          refine w_p h_m1000 5 (pc' := 20) (L' := [(0, .ref 0), (1, .ref 39), (2, .ref 143), (3, .int (6 : Int32))]) (st' := [.ref 0, .int (6 : Int32)]) rfl ?_
          refine w_lene H (x := (6 : Int32)) (pc' := 21) (L' := [(0, .ref 0), (1, .ref 39), (2, .ref 143), (3, .int (6 : Int32))]) h_m1000 (z_at.mk 1 rfl rfl) (by decide) rfl (by decide) rfl rfl rfl ?_
          refine w_p h_m1000 4 (pc' := 1381) (L' := [(0, .ref 0), (1, .ref 39), (2, .ref 143), (3, .int (6 : Int32))]) (st' := [.int (1 : Int32)]) rfl ?_
          refine w_ri h_m1000 (z_at.mk 1 rfl rfl) rfl rfl ?_
          exact hQ _ _ _ _ H (by decide) (by decide)
    · refine w_t2 (pc' := 14) (L' := []) h_m58 (z_at.mk 3 rfl rfl) rfl (zc (a := (xs 1).toInt) (b := 6) rfl rfl (decide_eq_true (by omega))) rfl rfl ?_
      refine w_p h_m58 1 (pc' := 15) (L' := []) (st' := [.int (0 : Int32)]) rfl ?_
      refine w_ri h_m58 (z_at.mk 1 rfl rfl) rfl rfl ?_
      show z_W 999 153 4 [(0, .ref 39), (1, .int (xs 1)), (2, .int (xs 2)), (3, .int (xs 3)), (4, .int (xs 4)), (5, .int (xs 5))] [.int (0 : Int32)] m _
      refine w_p h_m153 2 (pc' := 15) (L' := []) (st' := [.int (-1 : Int32)]) rfl ?_
      refine w_ri h_m153 (z_at.mk 1 rfl rfl) rfl rfl ?_
      show z_W 1000 1000 1248 [(0, .ref 0), (1, .ref 39), (2, .ref 143), (3, .int (0 : Int32))] [.int (-1 : Int32)] m _
      refine w_p h_m1000 5 (pc' := 1253) (L' := [(0, .ref 0), (1, .ref 39), (2, .ref 143), (3, .int (0 : Int32))]) (st' := [.int (1 : Int32), .ref 0, .ref 143, .int (-1 : Int32)]) rfl ?_
      refine w_ae H (j := 1) (pc' := 1254) (L' := [(0, .ref 0), (1, .ref 39), (2, .ref 143), (3, .int (0 : Int32))]) h_m1000 (z_at.mk 1 rfl rfl) rfl rfl rfl (by decide) rfl (by decide) rfl rfl rfl ?_
      refine w_p h_m1000 4 (pc' := 1258) (L' := [(0, .ref 0), (1, .ref 39), (2, .ref 143), (3, .int (0 : Int32))]) (st' := [.int (2 : Int32), .ref 0, .int (xs 1), .ref 143, .int (-1 : Int32)]) rfl ?_
      refine w_ae H (j := 2) (pc' := 1259) (L' := [(0, .ref 0), (1, .ref 39), (2, .ref 143), (3, .int (0 : Int32))]) h_m1000 (z_at.mk 1 rfl rfl) rfl rfl rfl (by decide) rfl (by decide) rfl rfl rfl ?_
      refine w_p h_m1000 4 (pc' := 1263) (L' := [(0, .ref 0), (1, .ref 39), (2, .ref 143), (3, .int (0 : Int32))]) (st' := [.int (3 : Int32), .ref 0, .int (xs 2), .int (xs 1), .ref 143, .int (-1 : Int32)]) rfl ?_
      refine w_ae H (j := 3) (pc' := 1264) (L' := [(0, .ref 0), (1, .ref 39), (2, .ref 143), (3, .int (0 : Int32))]) h_m1000 (z_at.mk 1 rfl rfl) rfl rfl rfl (by decide) rfl (by decide) rfl rfl rfl ?_
      refine w_p h_m1000 4 (pc' := 1268) (L' := [(0, .ref 0), (1, .ref 39), (2, .ref 143), (3, .int (0 : Int32))]) (st' := [.int (4 : Int32), .ref 0, .int (xs 3), .int (xs 2), .int (xs 1), .ref 143, .int (-1 : Int32)]) rfl ?_
      refine w_ae H (j := 4) (pc' := 1269) (L' := [(0, .ref 0), (1, .ref 39), (2, .ref 143), (3, .int (0 : Int32))]) h_m1000 (z_at.mk 1 rfl rfl) rfl rfl rfl (by decide) rfl (by decide) rfl rfl rfl ?_
      refine w_p h_m1000 4 (pc' := 1273) (L' := [(0, .ref 0), (1, .ref 39), (2, .ref 143), (3, .int (0 : Int32))]) (st' := [.int (5 : Int32), .ref 0, .int (xs 4), .int (xs 3), .int (xs 2), .int (xs 1), .ref 143, .int (-1 : Int32)]) rfl ?_
      refine w_ae H (j := 5) (pc' := 1274) (L' := [(0, .ref 0), (1, .ref 39), (2, .ref 143), (3, .int (0 : Int32))]) h_m1000 (z_at.mk 1 rfl rfl) rfl rfl rfl (by decide) rfl (by decide) rfl rfl rfl ?_
      refine w_cv (H.t rfl) (pc' := 1277) (L' := [(0, .ref 0), (1, .ref 39), (2, .ref 143), (3, .int (0 : Int32))]) (rest := [.int (-1 : Int32)]) (Ps := [.int (xs 1), .int (xs 2), .int (xs 3), .int (xs 4), .int (xs 5)]) (L0 := [(0, .ref 143), (1, .int (xs 1)), (2, .int (xs 2)), (3, .int (xs 3)), (4, .int (xs 4)), (5, .int (xs 5))]) h_m1000 (z_at.mk 3 rfl rfl) (Or.inl ⟨rfl, rfl⟩) rfl rfl (by decide) (by decide) rfl rfl rfl rfl rfl rfl (by decide) rfl rfl rfl ?_
      refine w_p h_m267 1 (pc' := 1) (L' := [(0, .ref 143), (1, .int (xs 1)), (2, .int (xs 2)), (3, .int (xs 3)), (4, .int (xs 4)), (5, .int (xs 5))]) (st' := [.int (xs 1)]) rfl ?_
      refine w_cs (As := [.int (xs 1)]) (rest := []) (j := 262) (L0 := [(0, .int (xs 1))]) (pc' := 4) (L' := [(0, .ref 143), (1, .int (xs 1)), (2, .int (xs 2)), (3, .int (xs 3)), (4, .int (xs 4)), (5, .int (xs 5))]) h_m267 (z_at.mk 3 rfl rfl) (Or.inl ⟨rfl, rfl⟩) rfl rfl rfl rfl rfl ?_
      refine w_p h_m262 3 (pc' := 3) (L' := [(0, .int (xs 1))]) (st' := [.int (5 : Int32), .int (0 : Int32), .int (xs 1)]) rfl ?_
      refine w_cs (As := [.int (xs 1), .int (0 : Int32), .int (5 : Int32)]) (rest := []) (j := 159) (L0 := [(0, .int (xs 1)), (1, .int (0 : Int32)), (2, .int (5 : Int32))]) (pc' := 6) (L' := [(0, .int (xs 1))]) h_m262 (z_at.mk 3 rfl rfl) (Or.inl ⟨rfl, rfl⟩) rfl rfl rfl rfl rfl ?_
      refine w_p h_m159 2 (pc' := 2) (L' := [(0, .int (xs 1)), (1, .int (0 : Int32)), (2, .int (5 : Int32))]) (st' := [.int (0 : Int32), .int (xs 1)]) rfl ?_
      refine w_f2 (pc' := 5) (L' := [(0, .int (xs 1)), (1, .int (0 : Int32)), (2, .int (5 : Int32))]) h_m159 (z_at.mk 3 rfl rfl) rfl (zc (a := (xs 1).toInt) (b := 0) rfl rfl (decide_eq_false (by omega))) rfl rfl ?_
      refine w_p h_m159 2 (pc' := 7) (L' := [(0, .int (xs 1)), (1, .int (0 : Int32)), (2, .int (5 : Int32))]) (st' := [.int (5 : Int32), .int (xs 1)]) rfl ?_
      refine w_t2 (pc' := 14) (L' := []) h_m159 (z_at.mk 3 rfl rfl) rfl (zc (a := (xs 1).toInt) (b := 5) rfl rfl (decide_eq_true (by omega))) rfl rfl ?_
      refine w_p h_m159 1 (pc' := 15) (L' := []) (st' := [.int (0 : Int32)]) rfl ?_
      refine w_ri h_m159 (z_at.mk 1 rfl rfl) rfl rfl ?_
      show z_W 998 262 6 [(0, .int (xs 1))] [.int (0 : Int32)] m _
      refine w_ri h_m262 (z_at.mk 1 rfl rfl) rfl rfl ?_
      show z_W 999 267 4 [(0, .ref 143), (1, .int (xs 1)), (2, .int (xs 2)), (3, .int (xs 3)), (4, .int (xs 4)), (5, .int (xs 5))] [.int (0 : Int32)] m _
      refine w_p h_m267 2 (pc' := 15) (L' := []) (st' := [.int (-1 : Int32)]) rfl ?_
      refine w_ri h_m267 (z_at.mk 1 rfl rfl) rfl rfl ?_
      show z_W 1000 1000 1277 [(0, .ref 0), (1, .ref 39), (2, .ref 143), (3, .int (0 : Int32))] [.int (-1 : Int32), .int (-1 : Int32)] m _
      refine w_p h_m1000 5 (pc' := 20) (L' := [(0, .ref 0), (1, .ref 39), (2, .ref 143), (3, .int (6 : Int32))]) (st' := [.ref 0, .int (6 : Int32)]) rfl ?_
      refine w_lene H (x := (6 : Int32)) (pc' := 21) (L' := [(0, .ref 0), (1, .ref 39), (2, .ref 143), (3, .int (6 : Int32))]) h_m1000 (z_at.mk 1 rfl rfl) (by decide) rfl (by decide) rfl rfl rfl ?_
      refine w_p h_m1000 4 (pc' := 1381) (L' := [(0, .ref 0), (1, .ref 39), (2, .ref 143), (3, .int (6 : Int32))]) (st' := [.int (1 : Int32)]) rfl ?_
      refine w_ri h_m1000 (z_at.mk 1 rfl rfl) rfl rfl ?_
      exact hQ _ _ _ _ H (by decide) (by decide)
