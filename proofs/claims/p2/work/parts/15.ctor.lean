/-! THE ROAD OF THE CONSTRUCTORS (by wip/px_gen.py) -/
def w_T0 : wT := [(39, (21, 14, [(13, .ref 134), (12, .ref 133), (11, .ref 131), (10, .ref 129), (9, .int (0 : Int32)), (8, .ref 128), (7, .ref 126), (6, .ref 122), (5, .ref 120), (4, .ref 118), (3, .ref 106), (2, .int (0 : Int32)), (1, .ref 73), (0, .ref 40)], none)), (40, (17, 5, [(4, .ref 65), (3, .ref 63), (2, .ref 60), (1, .ref 48), (0, .ref 41)], none)), (41, (18, 7, [(6, .ref 47), (5, .ref 46), (4, .int (0 : Int32)), (3, .ref 45), (2, .ref 44), (1, .ref 43), (0, .ref 42)], none)), (42, (0, 60, [], some (.int (0 : Int32)))), (43, (0, 60, [], some (.int (0 : Int32)))), (44, (1, 60, [], some (.long (0 : Int64)))), (45, (0, 60, [], some (.int (0 : Int32)))), (46, (1, 33, [], some (.long (0 : Int64)))), (47, (1, 33, [], some (.long (0 : Int64)))), (48, (12, 18, [(0, .ref 41), (17, .ref 58), (16, .ref 56), (15, .int (0 : Int32)), (14, .int (0 : Int32)), (13, .int (0 : Int32)), (12, .int (0 : Int32)), (11, .int (0 : Int32)), (10, .int (0 : Int32)), (9, .long (0 : Int64)), (8, .int (0 : Int32)), (7, .ref 55), (6, .ref 54), (5, .ref 53), (4, .ref 52), (3, .ref 51), (2, .int (0 : Int32)), (1, .ref 49)], none)), (49, (16, 1, [(0, .ref 50)], none)), (50, (0, 7, [(6, .int (1024 : Int32)), (5, .int (1 : Int32)), (4, .int (1 : Int32)), (3, .int (0 : Int32)), (2, .int (12 : Int32)), (1, .int (40 : Int32)), (0, .int (10 : Int32))], some (.int (0 : Int32)))), (51, (0, 181, [], some (.int (0 : Int32)))), (52, (0, 181, [], some (.int (0 : Int32)))), (53, (0, 181, [], some (.int (0 : Int32)))), (54, (0, 181, [], some (.int (0 : Int32)))), (55, (1, 181, [], some (.long (0 : Int64)))), (56, (11, 2, [(0, .ref 57), (1, .int (0 : Int32))], none)), (57, (0, 169, [], some (.int (0 : Int32)))), (58, (11, 2, [(0, .ref 59), (1, .int (0 : Int32))], none)), (59, (0, 169, [], some (.int (0 : Int32)))), (60, (13, 3, [(2, .int (0 : Int32)), (1, .ref 62), (0, .ref 61)], none)), (61, (0, 60, [], some (.int (0 : Int32)))), (62, (1, 60, [], some (.long (0 : Int64)))), (63, (11, 2, [(0, .ref 64), (1, .int (0 : Int32))], none)), (64, (0, 10, [], some (.int (0 : Int32)))), (65, (20, 6, [(5, .int (0 : Int32)), (4, .ref 70), (3, .ref 69), (2, .ref 68), (1, .ref 67), (0, .ref 66)], none)), (66, (0, 6, [], some (.int (0 : Int32)))), (67, (0, 6, [], some (.int (0 : Int32)))), (68, (0, 6, [], some (.int (0 : Int32)))), (69, (1, 6, [], some (.long (0 : Int64)))), (70, (13, 3, [(2, .int (0 : Int32)), (1, .ref 72), (0, .ref 71)], none)), (71, (0, 60, [], some (.int (0 : Int32)))), (72, (1, 60, [], some (.long (0 : Int64)))), (73, (17, 5, [(4, .ref 98), (3, .ref 96), (2, .ref 93), (1, .ref 81), (0, .ref 74)], none)), (74, (18, 7, [(6, .ref 80), (5, .ref 79), (4, .int (0 : Int32)), (3, .ref 78), (2, .ref 77), (1, .ref 76), (0, .ref 75)], none)), (75, (0, 60, [], some (.int (0 : Int32)))), (76, (0, 60, [], some (.int (0 : Int32)))), (77, (1, 60, [], some (.long (0 : Int64)))), (78, (0, 60, [], some (.int (0 : Int32)))), (79, (1, 33, [], some (.long (0 : Int64)))), (80, (1, 33, [], some (.long (0 : Int64)))), (81, (12, 18, [(0, .ref 74), (17, .ref 91), (16, .ref 89), (15, .int (0 : Int32)), (14, .int (0 : Int32)), (13, .int (0 : Int32)), (12, .int (0 : Int32)), (11, .int (0 : Int32)), (10, .int (0 : Int32)), (9, .long (0 : Int64)), (8, .int (0 : Int32)), (7, .ref 88), (6, .ref 87), (5, .ref 86), (4, .ref 85), (3, .ref 84), (2, .int (0 : Int32)), (1, .ref 82)], none)), (82, (16, 1, [(0, .ref 83)], none)), (83, (0, 7, [(6, .int (1024 : Int32)), (5, .int (1 : Int32)), (4, .int (1 : Int32)), (3, .int (0 : Int32)), (2, .int (12 : Int32)), (1, .int (40 : Int32)), (0, .int (10 : Int32))], some (.int (0 : Int32)))), (84, (0, 181, [], some (.int (0 : Int32)))), (85, (0, 181, [], some (.int (0 : Int32)))), (86, (0, 181, [], some (.int (0 : Int32)))), (87, (0, 181, [], some (.int (0 : Int32)))), (88, (1, 181, [], some (.long (0 : Int64)))), (89, (11, 2, [(0, .ref 90), (1, .int (0 : Int32))], none)), (90, (0, 169, [], some (.int (0 : Int32)))), (91, (11, 2, [(0, .ref 92), (1, .int (0 : Int32))], none)), (92, (0, 169, [], some (.int (0 : Int32)))), (93, (13, 3, [(2, .int (0 : Int32)), (1, .ref 95), (0, .ref 94)], none)), (94, (0, 60, [], some (.int (0 : Int32)))), (95, (1, 60, [], some (.long (0 : Int64)))), (96, (11, 2, [(0, .ref 97), (1, .int (0 : Int32))], none)), (97, (0, 10, [], some (.int (0 : Int32)))), (98, (20, 6, [(5, .int (0 : Int32)), (4, .ref 103), (3, .ref 102), (2, .ref 101), (1, .ref 100), (0, .ref 99)], none)), (99, (0, 6, [], some (.int (0 : Int32)))), (100, (0, 6, [], some (.int (0 : Int32)))), (101, (0, 6, [], some (.int (0 : Int32)))), (102, (1, 6, [], some (.long (0 : Int64)))), (103, (13, 3, [(2, .int (0 : Int32)), (1, .ref 105), (0, .ref 104)], none)), (104, (0, 60, [], some (.int (0 : Int32)))), (105, (1, 60, [], some (.long (0 : Int64)))), (106, (12, 18, [(0, .ref 41), (17, .ref 116), (16, .ref 114), (15, .int (0 : Int32)), (14, .int (0 : Int32)), (13, .int (0 : Int32)), (12, .int (0 : Int32)), (11, .int (0 : Int32)), (10, .int (0 : Int32)), (9, .long (0 : Int64)), (8, .int (0 : Int32)), (7, .ref 113), (6, .ref 112), (5, .ref 111), (4, .ref 110), (3, .ref 109), (2, .int (0 : Int32)), (1, .ref 107)], none)), (107, (16, 1, [(0, .ref 108)], none)), (108, (0, 7, [(6, .int (1024 : Int32)), (5, .int (1 : Int32)), (4, .int (1 : Int32)), (3, .int (0 : Int32)), (2, .int (12 : Int32)), (1, .int (40 : Int32)), (0, .int (10 : Int32))], some (.int (0 : Int32)))), (109, (0, 181, [], some (.int (0 : Int32)))), (110, (0, 181, [], some (.int (0 : Int32)))), (111, (0, 181, [], some (.int (0 : Int32)))), (112, (0, 181, [], some (.int (0 : Int32)))), (113, (1, 181, [], some (.long (0 : Int64)))), (114, (11, 2, [(0, .ref 115), (1, .int (0 : Int32))], none)), (115, (0, 169, [], some (.int (0 : Int32)))), (116, (11, 2, [(0, .ref 117), (1, .int (0 : Int32))], none)), (117, (0, 169, [], some (.int (0 : Int32)))), (118, (16, 1, [(0, .ref 119)], none)), (119, (0, 7, [(6, .int (1024 : Int32)), (5, .int (1 : Int32)), (4, .int (1 : Int32)), (3, .int (0 : Int32)), (2, .int (12 : Int32)), (1, .int (40 : Int32)), (0, .int (10 : Int32))], some (.int (0 : Int32)))), (120, (19, 4, [(3, .int (-1 : Int32)), (2, .int (0 : Int32)), (1, .int (0 : Int32)), (0, .ref 121)], none)), (121, (2, 160, [], some (.int (0 : Int32)))), (122, (15, 6, [(1, .ref 41), (0, .ref 120), (5, .int (0 : Int32)), (4, .ref 125), (3, .ref 124), (2, .ref 123)], none)), (123, (0, 8, [], some (.int (0 : Int32)))), (124, (0, 8, [], some (.int (0 : Int32)))), (125, (1, 8, [], some (.long (0 : Int64)))), (126, (11, 2, [(0, .ref 127), (1, .int (0 : Int32))], none)), (127, (0, 12, [], some (.int (0 : Int32)))), (128, (1, 8, [], some (.long (0 : Int64)))), (129, (23, 4, [(1, .int (0 : Int32)), (0, .ref 130), (2, .int (0 : Int32)), (3, .int (0 : Int32))], none)), (130, (2, 16, [], some (.int (0 : Int32)))), (131, (11, 2, [(0, .ref 132), (1, .int (0 : Int32))], none)), (132, (0, 181, [], some (.int (0 : Int32)))), (133, (0, 181, [], some (.int (0 : Int32)))), (134, (14, 2, [(1, .ref 142), (0, .ref 135)], none)), (135, (3, 6, [(0, .ref 136), (1, .ref 137), (2, .ref 138), (3, .ref 139), (4, .ref 140), (5, .ref 141)], none)), (136, (1, 60, [], some (.long (0 : Int64)))), (137, (1, 60, [], some (.long (0 : Int64)))), (138, (1, 60, [], some (.long (0 : Int64)))), (139, (1, 60, [], some (.long (0 : Int64)))), (140, (1, 60, [], some (.long (0 : Int64)))), (141, (1, 60, [], some (.long (0 : Int64)))), (142, (0, 6, [], some (.int (-1 : Int32)))), (143, (22, 35, [(34, .ref 167), (33, .ref 166), (31, .ref 165), (30, .ref 164), (28, .ref 163), (26, .ref 162), (25, .ref 161), (24, .ref 160), (19, .ref 159), (18, .ref 158), (17, .ref 157), (16, .ref 156), (13, .ref 155), (12, .ref 154), (11, .ref 153), (9, .ref 152), (8, .ref 151), (7, .ref 150), (5, .ref 149), (4, .ref 148), (3, .ref 147), (2, .ref 146), (1, .ref 145), (0, .ref 144), (6, .int (0 : Int32)), (10, .int (0 : Int32)), (14, .int (0 : Int32)), (15, .int (0 : Int32)), (20, .int (0 : Int32)), (21, .int (0 : Int32)), (22, .int (0 : Int32)), (23, .int (0 : Int32)), (27, .int (0 : Int32)), (29, .int (0 : Int32)), (32, .int (0 : Int32))], none)), (144, (0, 2740, [(17, .int (1024 : Int32)), (16, .int (1 : Int32)), (15, .int (1 : Int32)), (13, .int (12 : Int32)), (12, .int (40 : Int32)), (11, .int (10 : Int32))], some (.int (0 : Int32)))), (145, (0, 2740, [], some (.int (0 : Int32)))), (146, (0, 2740, [], some (.int (0 : Int32)))), (147, (1, 361, [], some (.long (0 : Int64)))), (148, (1, 361, [], some (.long (0 : Int64)))), (149, (1, 361, [], some (.long (0 : Int64)))), (150, (0, 2400, [], some (.int (0 : Int32)))), (151, (0, 2400, [], some (.int (0 : Int32)))), (152, (0, 4, [], some (.int (0 : Int32)))), (153, (0, 4, [], some (.int (0 : Int32)))), (154, (0, 60, [], some (.int (0 : Int32)))), (155, (1, 60, [], some (.long (0 : Int64)))), (156, (0, 10, [], some (.int (0 : Int32)))), (157, (0, 4, [], some (.int (0 : Int32)))), (158, (1, 6, [], some (.long (0 : Int64)))), (159, (0, 160, [], some (.int (0 : Int32)))), (160, (0, 7, [], some (.int (0 : Int32)))), (161, (0, 48, [], some (.int (0 : Int32)))), (162, (1, 8, [], some (.long (0 : Int64)))), (163, (0, 40000, [], some (.int (0 : Int32)))), (164, (0, 48, [], some (.int (0 : Int32)))), (165, (0, 3000, [], some (.int (0 : Int32)))), (166, (0, 6, [], some (.int (-1 : Int32)))), (167, (1, 360, [], some (.long (0 : Int64))))]
set_option maxHeartbeats 40000000 in
set_option maxRecDepth 20000 in
theorem w_ctor {L : Nat} {xs : Nat → Int32} {Q : Option Value → zM → Prop} (hQ : ∀ m, w_ok L xs 168 63950 w_T0 m → z_W 1000 1000 18 [(0, .ref 0), (1, .ref 39), (2, .ref 143), (3, .int (0 : Int32))] [] m Q) : z_W 1000 1000 0 [(0, .ref 0)] [] (z_mu0 L xs) Q := by
  have H := w_start L xs
  generalize z_mu0 L xs = m at H ⊢
  refine w_nw H (21, 14, [(0, .null), (1, .null), (2, .int (0 : Int32)), (3, .null), (4, .null), (5, .null), (6, .null), (7, .null), (8, .null), (9, .int (0 : Int32)), (10, .null), (11, .null), (12, .null), (13, .null)], none) (N' := 40) (S' := 14) (pc' := 3) (L' := [(0, .ref 0)]) h_m1000 (z_at.mk 3 rfl rfl) rfl rfl rfl rfl rfl rfl ?_
  clear H m; intro m H
  refine w_p h_m1000 1 (pc' := 4) (L' := [(0, .ref 0)]) (st' := [.ref 39, .ref 39]) rfl ?_
  refine w_cs (As := [.ref 39]) (rest := [.ref 39]) (j := 114) (L0 := [(0, .ref 39)]) (pc' := 7) (L' := [(0, .ref 0)]) h_m1000 (z_at.mk 3 rfl rfl) (Or.inr ⟨rfl, rfl⟩) rfl rfl rfl rfl rfl ?_
  refine w_p h_m114 3 (pc' := 5) (L' := [(0, .ref 39)]) (st' := [.ref 39]) rfl ?_
  refine w_nw H (17, 5, [(0, .null), (1, .null), (2, .null), (3, .null), (4, .null)], none) (N' := 41) (S' := 19) (pc' := 8) (L' := [(0, .ref 39)]) h_m114 (z_at.mk 3 rfl rfl) rfl rfl rfl rfl rfl rfl ?_
  clear H m; intro m H
  refine w_p h_m114 1 (pc' := 9) (L' := [(0, .ref 39)]) (st' := [.ref 40, .ref 40, .ref 39]) rfl ?_
  refine w_cs (As := [.ref 40]) (rest := [.ref 40, .ref 39]) (j := 77) (L0 := [(0, .ref 40)]) (pc' := 12) (L' := [(0, .ref 39)]) h_m114 (z_at.mk 3 rfl rfl) (Or.inr ⟨rfl, rfl⟩) rfl rfl rfl rfl rfl ?_
  refine w_p h_m77 3 (pc' := 5) (L' := [(0, .ref 40)]) (st' := [.ref 40]) rfl ?_
  refine w_nw H (18, 7, [(0, .null), (1, .null), (2, .null), (3, .null), (4, .int (0 : Int32)), (5, .null), (6, .null)], none) (N' := 42) (S' := 26) (pc' := 8) (L' := [(0, .ref 40)]) h_m77 (z_at.mk 3 rfl rfl) rfl rfl rfl rfl rfl rfl ?_
  clear H m; intro m H
  refine w_p h_m77 1 (pc' := 9) (L' := [(0, .ref 40)]) (st' := [.ref 41, .ref 41, .ref 40]) rfl ?_
  refine w_cs (As := [.ref 41]) (rest := [.ref 41, .ref 40]) (j := 79) (L0 := [(0, .ref 41)]) (pc' := 12) (L' := [(0, .ref 40)]) h_m77 (z_at.mk 3 rfl rfl) (Or.inr ⟨rfl, rfl⟩) rfl rfl rfl rfl rfl ?_
  refine w_p h_m79 4 (pc' := 7) (L' := [(0, .ref 41)]) (st' := [.int (60 : Int32), .ref 41]) rfl ?_
  refine w_na H (ti := 0) (n := 60) (.int (0 : Int32)) (N' := 43) (S' := 86) (pc' := 9) (L' := [(0, .ref 41)]) h_m79 (z_at.mk 2 rfl rfl) rfl (by decide) rfl (by decide) rfl rfl rfl rfl rfl ?_
  clear H m; intro m H
  refine w_pf H (18, 7, [(0, .ref 42), (1, .null), (2, .null), (3, .null), (4, .int (0 : Int32)), (5, .null), (6, .null)], none) (pc' := 12) (L' := [(0, .ref 41)]) h_m79 (z_at.mk 3 rfl rfl) rfl (by decide) rfl (Or.inr ⟨rfl, rfl, by decide⟩) rfl rfl rfl ?_
  clear H m; intro m H
  refine w_p h_m79 2 (pc' := 15) (L' := [(0, .ref 41)]) (st' := [.int (60 : Int32), .ref 41]) rfl ?_
  refine w_na H (ti := 0) (n := 60) (.int (0 : Int32)) (N' := 44) (S' := 146) (pc' := 17) (L' := [(0, .ref 41)]) h_m79 (z_at.mk 2 rfl rfl) rfl (by decide) rfl (by decide) rfl rfl rfl rfl rfl ?_
  clear H m; intro m H
  refine w_pf H (18, 7, [(1, .ref 43), (0, .ref 42), (2, .null), (3, .null), (4, .int (0 : Int32)), (5, .null), (6, .null)], none) (pc' := 20) (L' := [(0, .ref 41)]) h_m79 (z_at.mk 3 rfl rfl) rfl (by decide) rfl (Or.inr ⟨rfl, rfl, by decide⟩) rfl rfl rfl ?_
  clear H m; intro m H
  refine w_p h_m79 2 (pc' := 23) (L' := [(0, .ref 41)]) (st' := [.int (60 : Int32), .ref 41]) rfl ?_
  refine w_na H (ti := 1) (n := 60) (.long (0 : Int64)) (N' := 45) (S' := 206) (pc' := 25) (L' := [(0, .ref 41)]) h_m79 (z_at.mk 2 rfl rfl) rfl (by decide) rfl (by decide) rfl rfl rfl rfl rfl ?_
  clear H m; intro m H
  refine w_pf H (18, 7, [(2, .ref 44), (1, .ref 43), (0, .ref 42), (3, .null), (4, .int (0 : Int32)), (5, .null), (6, .null)], none) (pc' := 28) (L' := [(0, .ref 41)]) h_m79 (z_at.mk 3 rfl rfl) rfl (by decide) rfl (Or.inr ⟨rfl, rfl, by decide⟩) rfl rfl rfl ?_
  clear H m; intro m H
  refine w_p h_m79 2 (pc' := 31) (L' := [(0, .ref 41)]) (st' := [.int (60 : Int32), .ref 41]) rfl ?_
  refine w_na H (ti := 0) (n := 60) (.int (0 : Int32)) (N' := 46) (S' := 266) (pc' := 33) (L' := [(0, .ref 41)]) h_m79 (z_at.mk 2 rfl rfl) rfl (by decide) rfl (by decide) rfl rfl rfl rfl rfl ?_
  clear H m; intro m H
  refine w_pf H (18, 7, [(3, .ref 45), (2, .ref 44), (1, .ref 43), (0, .ref 42), (4, .int (0 : Int32)), (5, .null), (6, .null)], none) (pc' := 36) (L' := [(0, .ref 41)]) h_m79 (z_at.mk 3 rfl rfl) rfl (by decide) rfl (Or.inr ⟨rfl, rfl, by decide⟩) rfl rfl rfl ?_
  clear H m; intro m H
  refine w_p h_m79 2 (pc' := 38) (L' := [(0, .ref 41)]) (st' := [.int (0 : Int32), .ref 41]) rfl ?_
  refine w_pf H (18, 7, [(4, .int (0 : Int32)), (3, .ref 45), (2, .ref 44), (1, .ref 43), (0, .ref 42), (5, .null), (6, .null)], none) (pc' := 41) (L' := [(0, .ref 41)]) h_m79 (z_at.mk 3 rfl rfl) rfl (by decide) rfl (Or.inl rfl) rfl rfl rfl ?_
  clear H m; intro m H
  refine w_p h_m79 2 (pc' := 44) (L' := [(0, .ref 41)]) (st' := [.int (33 : Int32), .ref 41]) rfl ?_
  refine w_na H (ti := 1) (n := 33) (.long (0 : Int64)) (N' := 47) (S' := 299) (pc' := 46) (L' := [(0, .ref 41)]) h_m79 (z_at.mk 2 rfl rfl) rfl (by decide) rfl (by decide) rfl rfl rfl rfl rfl ?_
  clear H m; intro m H
  refine w_pf H (18, 7, [(5, .ref 46), (4, .int (0 : Int32)), (3, .ref 45), (2, .ref 44), (1, .ref 43), (0, .ref 42), (6, .null)], none) (pc' := 49) (L' := [(0, .ref 41)]) h_m79 (z_at.mk 3 rfl rfl) rfl (by decide) rfl (Or.inr ⟨rfl, rfl, by decide⟩) rfl rfl rfl ?_
  clear H m; intro m H
  refine w_p h_m79 2 (pc' := 52) (L' := [(0, .ref 41)]) (st' := [.int (33 : Int32), .ref 41]) rfl ?_
  refine w_na H (ti := 1) (n := 33) (.long (0 : Int64)) (N' := 48) (S' := 332) (pc' := 54) (L' := [(0, .ref 41)]) h_m79 (z_at.mk 2 rfl rfl) rfl (by decide) rfl (by decide) rfl rfl rfl rfl rfl ?_
  clear H m; intro m H
  refine w_pf H (18, 7, [(6, .ref 47), (5, .ref 46), (4, .int (0 : Int32)), (3, .ref 45), (2, .ref 44), (1, .ref 43), (0, .ref 42)], none) (pc' := 57) (L' := [(0, .ref 41)]) h_m79 (z_at.mk 3 rfl rfl) rfl (by decide) rfl (Or.inr ⟨rfl, rfl, by decide⟩) rfl rfl rfl ?_
  clear H m; intro m H
  refine w_rv h_m79 (z_at.mk 1 rfl rfl) rfl ?_
  show z_W 998 77 12 [(0, .ref 40)] [.ref 41, .ref 40] m _
  refine w_pf H (17, 5, [(0, .ref 41), (1, .null), (2, .null), (3, .null), (4, .null)], none) (pc' := 15) (L' := [(0, .ref 40)]) h_m77 (z_at.mk 3 rfl rfl) rfl (by decide) rfl (Or.inr ⟨rfl, rfl, by decide⟩) rfl rfl rfl ?_
  clear H m; intro m H
  refine w_p h_m77 1 (pc' := 16) (L' := [(0, .ref 40)]) (st' := [.ref 40]) rfl ?_
  refine w_nw H (12, 18, [(0, .null), (1, .null), (2, .int (0 : Int32)), (3, .null), (4, .null), (5, .null), (6, .null), (7, .null), (8, .int (0 : Int32)), (9, .long (0 : Int64)), (10, .int (0 : Int32)), (11, .int (0 : Int32)), (12, .int (0 : Int32)), (13, .int (0 : Int32)), (14, .int (0 : Int32)), (15, .int (0 : Int32)), (16, .null), (17, .null)], none) (N' := 49) (S' := 350) (pc' := 19) (L' := [(0, .ref 40)]) h_m77 (z_at.mk 3 rfl rfl) rfl rfl rfl rfl rfl rfl ?_
  clear H m; intro m H
  refine w_p h_m77 2 (pc' := 21) (L' := [(0, .ref 40)]) (st' := [.ref 40, .ref 48, .ref 48, .ref 40]) rfl ?_
  refine w_gf H (pc' := 24) (L' := [(0, .ref 40)]) h_m77 (z_at.mk 3 rfl rfl) rfl (u := .ref 41) rfl rfl rfl ?_
  refine w_cs (As := [.ref 48, .ref 41]) (rest := [.ref 48, .ref 40]) (j := 19) (L0 := [(0, .ref 48), (1, .ref 41)]) (pc' := 27) (L' := [(0, .ref 40)]) h_m77 (z_at.mk 3 rfl rfl) (Or.inr ⟨rfl, rfl⟩) rfl rfl rfl rfl rfl ?_
  refine w_p h_m19 3 (pc' := 5) (L' := [(0, .ref 48), (1, .ref 41)]) (st' := [.ref 48]) rfl ?_
  refine w_nw H (16, 1, [(0, .null)], none) (N' := 50) (S' := 351) (pc' := 8) (L' := [(0, .ref 48), (1, .ref 41)]) h_m19 (z_at.mk 3 rfl rfl) rfl rfl rfl rfl rfl rfl ?_
  clear H m; intro m H
  refine w_p h_m19 1 (pc' := 9) (L' := [(0, .ref 48), (1, .ref 41)]) (st' := [.ref 49, .ref 49, .ref 48]) rfl ?_
  refine w_cs (As := [.ref 49]) (rest := [.ref 49, .ref 48]) (j := 71) (L0 := [(0, .ref 49)]) (pc' := 12) (L' := [(0, .ref 48), (1, .ref 41)]) h_m19 (z_at.mk 3 rfl rfl) (Or.inr ⟨rfl, rfl⟩) rfl rfl rfl rfl rfl ?_
  refine w_p h_m71 4 (pc' := 7) (L' := [(0, .ref 49)]) (st' := [.int (7 : Int32), .ref 49]) rfl ?_
  refine w_na H (ti := 0) (n := 7) (.int (0 : Int32)) (N' := 51) (S' := 358) (pc' := 9) (L' := [(0, .ref 49)]) h_m71 (z_at.mk 2 rfl rfl) rfl (by decide) rfl (by decide) rfl rfl rfl rfl rfl ?_
  clear H m; intro m H
  refine w_pf H (16, 1, [(0, .ref 50)], none) (pc' := 12) (L' := [(0, .ref 49)]) h_m71 (z_at.mk 3 rfl rfl) rfl (by decide) rfl (Or.inr ⟨rfl, rfl, by decide⟩) rfl rfl rfl ?_
  clear H m; intro m H
  refine w_p h_m71 1 (pc' := 13) (L' := [(0, .ref 49)]) (st' := [.ref 49]) rfl ?_
  refine w_gf H (pc' := 16) (L' := [(0, .ref 49)]) h_m71 (z_at.mk 3 rfl rfl) rfl (u := .ref 50) rfl rfl rfl ?_
  refine w_p h_m71 2 (pc' := 19) (L' := [(0, .ref 49)]) (st' := [.int (10 : Int32), .int (0 : Int32), .ref 50]) rfl ?_
  refine w_as H (t := 0) (j := 0) (u := .int (10 : Int32)) (0, 7, [(0, .int (10 : Int32))], some (.int (0 : Int32))) (pc' := 20) (L' := [(0, .ref 49)]) h_m71 (z_at.mk 1 rfl rfl) rfl rfl (w_ui _ _ (by decide)) rfl rfl rfl rfl ?_
  clear H m; intro m H
  refine w_p h_m71 1 (pc' := 21) (L' := [(0, .ref 49)]) (st' := [.ref 49]) rfl ?_
  refine w_gf H (pc' := 24) (L' := [(0, .ref 49)]) h_m71 (z_at.mk 3 rfl rfl) rfl (u := .ref 50) rfl rfl rfl ?_
  refine w_p h_m71 2 (pc' := 27) (L' := [(0, .ref 49)]) (st' := [.int (40 : Int32), .int (1 : Int32), .ref 50]) rfl ?_
  refine w_as H (t := 0) (j := 1) (u := .int (40 : Int32)) (0, 7, [(1, .int (40 : Int32)), (0, .int (10 : Int32))], some (.int (0 : Int32))) (pc' := 28) (L' := [(0, .ref 49)]) h_m71 (z_at.mk 1 rfl rfl) rfl rfl (w_ui _ _ (by decide)) rfl rfl rfl rfl ?_
  clear H m; intro m H
  refine w_p h_m71 1 (pc' := 29) (L' := [(0, .ref 49)]) (st' := [.ref 49]) rfl ?_
  refine w_gf H (pc' := 32) (L' := [(0, .ref 49)]) h_m71 (z_at.mk 3 rfl rfl) rfl (u := .ref 50) rfl rfl rfl ?_
  refine w_p h_m71 2 (pc' := 35) (L' := [(0, .ref 49)]) (st' := [.int (12 : Int32), .int (2 : Int32), .ref 50]) rfl ?_
  refine w_as H (t := 0) (j := 2) (u := .int (12 : Int32)) (0, 7, [(2, .int (12 : Int32)), (1, .int (40 : Int32)), (0, .int (10 : Int32))], some (.int (0 : Int32))) (pc' := 36) (L' := [(0, .ref 49)]) h_m71 (z_at.mk 1 rfl rfl) rfl rfl (w_ui _ _ (by decide)) rfl rfl rfl rfl ?_
  clear H m; intro m H
  refine w_p h_m71 1 (pc' := 37) (L' := [(0, .ref 49)]) (st' := [.ref 49]) rfl ?_
  refine w_gf H (pc' := 40) (L' := [(0, .ref 49)]) h_m71 (z_at.mk 3 rfl rfl) rfl (u := .ref 50) rfl rfl rfl ?_
  refine w_p h_m71 2 (pc' := 42) (L' := [(0, .ref 49)]) (st' := [.int (0 : Int32), .int (3 : Int32), .ref 50]) rfl ?_
  refine w_as H (t := 0) (j := 3) (u := .int (0 : Int32)) (0, 7, [(3, .int (0 : Int32)), (2, .int (12 : Int32)), (1, .int (40 : Int32)), (0, .int (10 : Int32))], some (.int (0 : Int32))) (pc' := 43) (L' := [(0, .ref 49)]) h_m71 (z_at.mk 1 rfl rfl) rfl rfl (w_ui _ _ (by decide)) rfl rfl rfl rfl ?_
  clear H m; intro m H
  refine w_p h_m71 1 (pc' := 44) (L' := [(0, .ref 49)]) (st' := [.ref 49]) rfl ?_
  refine w_gf H (pc' := 47) (L' := [(0, .ref 49)]) h_m71 (z_at.mk 3 rfl rfl) rfl (u := .ref 50) rfl rfl rfl ?_
  refine w_p h_m71 2 (pc' := 49) (L' := [(0, .ref 49)]) (st' := [.int (1 : Int32), .int (4 : Int32), .ref 50]) rfl ?_
  refine w_as H (t := 0) (j := 4) (u := .int (1 : Int32)) (0, 7, [(4, .int (1 : Int32)), (3, .int (0 : Int32)), (2, .int (12 : Int32)), (1, .int (40 : Int32)), (0, .int (10 : Int32))], some (.int (0 : Int32))) (pc' := 50) (L' := [(0, .ref 49)]) h_m71 (z_at.mk 1 rfl rfl) rfl rfl (w_ui _ _ (by decide)) rfl rfl rfl rfl ?_
  clear H m; intro m H
  refine w_p h_m71 1 (pc' := 51) (L' := [(0, .ref 49)]) (st' := [.ref 49]) rfl ?_
  refine w_gf H (pc' := 54) (L' := [(0, .ref 49)]) h_m71 (z_at.mk 3 rfl rfl) rfl (u := .ref 50) rfl rfl rfl ?_
  refine w_p h_m71 2 (pc' := 56) (L' := [(0, .ref 49)]) (st' := [.int (1 : Int32), .int (5 : Int32), .ref 50]) rfl ?_
  refine w_as H (t := 0) (j := 5) (u := .int (1 : Int32)) (0, 7, [(5, .int (1 : Int32)), (4, .int (1 : Int32)), (3, .int (0 : Int32)), (2, .int (12 : Int32)), (1, .int (40 : Int32)), (0, .int (10 : Int32))], some (.int (0 : Int32))) (pc' := 57) (L' := [(0, .ref 49)]) h_m71 (z_at.mk 1 rfl rfl) rfl rfl (w_ui _ _ (by decide)) rfl rfl rfl rfl ?_
  clear H m; intro m H
  refine w_p h_m71 1 (pc' := 58) (L' := [(0, .ref 49)]) (st' := [.ref 49]) rfl ?_
  refine w_gf H (pc' := 61) (L' := [(0, .ref 49)]) h_m71 (z_at.mk 3 rfl rfl) rfl (u := .ref 50) rfl rfl rfl ?_
  refine w_p h_m71 2 (pc' := 66) (L' := [(0, .ref 49)]) (st' := [.int (1024 : Int32), .int (6 : Int32), .ref 50]) rfl ?_
  refine w_as H (t := 0) (j := 6) (u := .int (1024 : Int32)) (0, 7, [(6, .int (1024 : Int32)), (5, .int (1 : Int32)), (4, .int (1 : Int32)), (3, .int (0 : Int32)), (2, .int (12 : Int32)), (1, .int (40 : Int32)), (0, .int (10 : Int32))], some (.int (0 : Int32))) (pc' := 67) (L' := [(0, .ref 49)]) h_m71 (z_at.mk 1 rfl rfl) rfl rfl (w_ui _ _ (by decide)) rfl rfl rfl rfl ?_
  clear H m; intro m H
  refine w_rv h_m71 (z_at.mk 1 rfl rfl) rfl ?_
  show z_W 997 19 12 [(0, .ref 48), (1, .ref 41)] [.ref 49, .ref 48] m _
  refine w_pf H (12, 18, [(1, .ref 49), (0, .null), (2, .int (0 : Int32)), (3, .null), (4, .null), (5, .null), (6, .null), (7, .null), (8, .int (0 : Int32)), (9, .long (0 : Int64)), (10, .int (0 : Int32)), (11, .int (0 : Int32)), (12, .int (0 : Int32)), (13, .int (0 : Int32)), (14, .int (0 : Int32)), (15, .int (0 : Int32)), (16, .null), (17, .null)], none) (pc' := 15) (L' := [(0, .ref 48), (1, .ref 41)]) h_m19 (z_at.mk 3 rfl rfl) rfl (by decide) rfl (Or.inr ⟨rfl, rfl, by decide⟩) rfl rfl rfl ?_
  clear H m; intro m H
  refine w_p h_m19 2 (pc' := 17) (L' := [(0, .ref 48), (1, .ref 41)]) (st' := [.int (0 : Int32), .ref 48]) rfl ?_
  refine w_pf H (12, 18, [(2, .int (0 : Int32)), (1, .ref 49), (0, .null), (3, .null), (4, .null), (5, .null), (6, .null), (7, .null), (8, .int (0 : Int32)), (9, .long (0 : Int64)), (10, .int (0 : Int32)), (11, .int (0 : Int32)), (12, .int (0 : Int32)), (13, .int (0 : Int32)), (14, .int (0 : Int32)), (15, .int (0 : Int32)), (16, .null), (17, .null)], none) (pc' := 20) (L' := [(0, .ref 48), (1, .ref 41)]) h_m19 (z_at.mk 3 rfl rfl) rfl (by decide) rfl (Or.inl rfl) rfl rfl rfl ?_
  clear H m; intro m H
  refine w_p h_m19 2 (pc' := 24) (L' := [(0, .ref 48), (1, .ref 41)]) (st' := [.int (181 : Int32), .ref 48]) rfl ?_
  refine w_na H (ti := 0) (n := 181) (.int (0 : Int32)) (N' := 52) (S' := 539) (pc' := 26) (L' := [(0, .ref 48), (1, .ref 41)]) h_m19 (z_at.mk 2 rfl rfl) rfl (by decide) rfl (by decide) rfl rfl rfl rfl rfl ?_
  clear H m; intro m H
  refine w_pf H (12, 18, [(3, .ref 51), (2, .int (0 : Int32)), (1, .ref 49), (0, .null), (4, .null), (5, .null), (6, .null), (7, .null), (8, .int (0 : Int32)), (9, .long (0 : Int64)), (10, .int (0 : Int32)), (11, .int (0 : Int32)), (12, .int (0 : Int32)), (13, .int (0 : Int32)), (14, .int (0 : Int32)), (15, .int (0 : Int32)), (16, .null), (17, .null)], none) (pc' := 29) (L' := [(0, .ref 48), (1, .ref 41)]) h_m19 (z_at.mk 3 rfl rfl) rfl (by decide) rfl (Or.inr ⟨rfl, rfl, by decide⟩) rfl rfl rfl ?_
  clear H m; intro m H
  refine w_p h_m19 2 (pc' := 33) (L' := [(0, .ref 48), (1, .ref 41)]) (st' := [.int (181 : Int32), .ref 48]) rfl ?_
  refine w_na H (ti := 0) (n := 181) (.int (0 : Int32)) (N' := 53) (S' := 720) (pc' := 35) (L' := [(0, .ref 48), (1, .ref 41)]) h_m19 (z_at.mk 2 rfl rfl) rfl (by decide) rfl (by decide) rfl rfl rfl rfl rfl ?_
  clear H m; intro m H
  refine w_pf H (12, 18, [(4, .ref 52), (3, .ref 51), (2, .int (0 : Int32)), (1, .ref 49), (0, .null), (5, .null), (6, .null), (7, .null), (8, .int (0 : Int32)), (9, .long (0 : Int64)), (10, .int (0 : Int32)), (11, .int (0 : Int32)), (12, .int (0 : Int32)), (13, .int (0 : Int32)), (14, .int (0 : Int32)), (15, .int (0 : Int32)), (16, .null), (17, .null)], none) (pc' := 38) (L' := [(0, .ref 48), (1, .ref 41)]) h_m19 (z_at.mk 3 rfl rfl) rfl (by decide) rfl (Or.inr ⟨rfl, rfl, by decide⟩) rfl rfl rfl ?_
  clear H m; intro m H
  refine w_p h_m19 2 (pc' := 42) (L' := [(0, .ref 48), (1, .ref 41)]) (st' := [.int (181 : Int32), .ref 48]) rfl ?_
  refine w_na H (ti := 0) (n := 181) (.int (0 : Int32)) (N' := 54) (S' := 901) (pc' := 44) (L' := [(0, .ref 48), (1, .ref 41)]) h_m19 (z_at.mk 2 rfl rfl) rfl (by decide) rfl (by decide) rfl rfl rfl rfl rfl ?_
  clear H m; intro m H
  refine w_pf H (12, 18, [(5, .ref 53), (4, .ref 52), (3, .ref 51), (2, .int (0 : Int32)), (1, .ref 49), (0, .null), (6, .null), (7, .null), (8, .int (0 : Int32)), (9, .long (0 : Int64)), (10, .int (0 : Int32)), (11, .int (0 : Int32)), (12, .int (0 : Int32)), (13, .int (0 : Int32)), (14, .int (0 : Int32)), (15, .int (0 : Int32)), (16, .null), (17, .null)], none) (pc' := 47) (L' := [(0, .ref 48), (1, .ref 41)]) h_m19 (z_at.mk 3 rfl rfl) rfl (by decide) rfl (Or.inr ⟨rfl, rfl, by decide⟩) rfl rfl rfl ?_
  clear H m; intro m H
  refine w_p h_m19 2 (pc' := 51) (L' := [(0, .ref 48), (1, .ref 41)]) (st' := [.int (181 : Int32), .ref 48]) rfl ?_
  refine w_na H (ti := 0) (n := 181) (.int (0 : Int32)) (N' := 55) (S' := 1082) (pc' := 53) (L' := [(0, .ref 48), (1, .ref 41)]) h_m19 (z_at.mk 2 rfl rfl) rfl (by decide) rfl (by decide) rfl rfl rfl rfl rfl ?_
  clear H m; intro m H
  refine w_pf H (12, 18, [(6, .ref 54), (5, .ref 53), (4, .ref 52), (3, .ref 51), (2, .int (0 : Int32)), (1, .ref 49), (0, .null), (7, .null), (8, .int (0 : Int32)), (9, .long (0 : Int64)), (10, .int (0 : Int32)), (11, .int (0 : Int32)), (12, .int (0 : Int32)), (13, .int (0 : Int32)), (14, .int (0 : Int32)), (15, .int (0 : Int32)), (16, .null), (17, .null)], none) (pc' := 56) (L' := [(0, .ref 48), (1, .ref 41)]) h_m19 (z_at.mk 3 rfl rfl) rfl (by decide) rfl (Or.inr ⟨rfl, rfl, by decide⟩) rfl rfl rfl ?_
  clear H m; intro m H
  refine w_p h_m19 2 (pc' := 60) (L' := [(0, .ref 48), (1, .ref 41)]) (st' := [.int (181 : Int32), .ref 48]) rfl ?_
  refine w_na H (ti := 1) (n := 181) (.long (0 : Int64)) (N' := 56) (S' := 1263) (pc' := 62) (L' := [(0, .ref 48), (1, .ref 41)]) h_m19 (z_at.mk 2 rfl rfl) rfl (by decide) rfl (by decide) rfl rfl rfl rfl rfl ?_
  clear H m; intro m H
  refine w_pf H (12, 18, [(7, .ref 55), (6, .ref 54), (5, .ref 53), (4, .ref 52), (3, .ref 51), (2, .int (0 : Int32)), (1, .ref 49), (0, .null), (8, .int (0 : Int32)), (9, .long (0 : Int64)), (10, .int (0 : Int32)), (11, .int (0 : Int32)), (12, .int (0 : Int32)), (13, .int (0 : Int32)), (14, .int (0 : Int32)), (15, .int (0 : Int32)), (16, .null), (17, .null)], none) (pc' := 65) (L' := [(0, .ref 48), (1, .ref 41)]) h_m19 (z_at.mk 3 rfl rfl) rfl (by decide) rfl (Or.inr ⟨rfl, rfl, by decide⟩) rfl rfl rfl ?_
  clear H m; intro m H
  refine w_p h_m19 2 (pc' := 67) (L' := [(0, .ref 48), (1, .ref 41)]) (st' := [.int (0 : Int32), .ref 48]) rfl ?_
  refine w_pf H (12, 18, [(8, .int (0 : Int32)), (7, .ref 55), (6, .ref 54), (5, .ref 53), (4, .ref 52), (3, .ref 51), (2, .int (0 : Int32)), (1, .ref 49), (0, .null), (9, .long (0 : Int64)), (10, .int (0 : Int32)), (11, .int (0 : Int32)), (12, .int (0 : Int32)), (13, .int (0 : Int32)), (14, .int (0 : Int32)), (15, .int (0 : Int32)), (16, .null), (17, .null)], none) (pc' := 70) (L' := [(0, .ref 48), (1, .ref 41)]) h_m19 (z_at.mk 3 rfl rfl) rfl (by decide) rfl (Or.inl rfl) rfl rfl rfl ?_
  clear H m; intro m H
  refine w_p h_m19 2 (pc' := 72) (L' := [(0, .ref 48), (1, .ref 41)]) (st' := [.long (0 : Int64), .ref 48]) rfl ?_
  refine w_pf H (12, 18, [(9, .long (0 : Int64)), (8, .int (0 : Int32)), (7, .ref 55), (6, .ref 54), (5, .ref 53), (4, .ref 52), (3, .ref 51), (2, .int (0 : Int32)), (1, .ref 49), (0, .null), (10, .int (0 : Int32)), (11, .int (0 : Int32)), (12, .int (0 : Int32)), (13, .int (0 : Int32)), (14, .int (0 : Int32)), (15, .int (0 : Int32)), (16, .null), (17, .null)], none) (pc' := 75) (L' := [(0, .ref 48), (1, .ref 41)]) h_m19 (z_at.mk 3 rfl rfl) rfl (by decide) rfl (Or.inl rfl) rfl rfl rfl ?_
  clear H m; intro m H
  refine w_p h_m19 2 (pc' := 77) (L' := [(0, .ref 48), (1, .ref 41)]) (st' := [.int (0 : Int32), .ref 48]) rfl ?_
  refine w_pf H (12, 18, [(10, .int (0 : Int32)), (9, .long (0 : Int64)), (8, .int (0 : Int32)), (7, .ref 55), (6, .ref 54), (5, .ref 53), (4, .ref 52), (3, .ref 51), (2, .int (0 : Int32)), (1, .ref 49), (0, .null), (11, .int (0 : Int32)), (12, .int (0 : Int32)), (13, .int (0 : Int32)), (14, .int (0 : Int32)), (15, .int (0 : Int32)), (16, .null), (17, .null)], none) (pc' := 80) (L' := [(0, .ref 48), (1, .ref 41)]) h_m19 (z_at.mk 3 rfl rfl) rfl (by decide) rfl (Or.inl rfl) rfl rfl rfl ?_
  clear H m; intro m H
  refine w_p h_m19 2 (pc' := 82) (L' := [(0, .ref 48), (1, .ref 41)]) (st' := [.int (0 : Int32), .ref 48]) rfl ?_
  refine w_pf H (12, 18, [(11, .int (0 : Int32)), (10, .int (0 : Int32)), (9, .long (0 : Int64)), (8, .int (0 : Int32)), (7, .ref 55), (6, .ref 54), (5, .ref 53), (4, .ref 52), (3, .ref 51), (2, .int (0 : Int32)), (1, .ref 49), (0, .null), (12, .int (0 : Int32)), (13, .int (0 : Int32)), (14, .int (0 : Int32)), (15, .int (0 : Int32)), (16, .null), (17, .null)], none) (pc' := 85) (L' := [(0, .ref 48), (1, .ref 41)]) h_m19 (z_at.mk 3 rfl rfl) rfl (by decide) rfl (Or.inl rfl) rfl rfl rfl ?_
  clear H m; intro m H
  refine w_p h_m19 2 (pc' := 87) (L' := [(0, .ref 48), (1, .ref 41)]) (st' := [.int (0 : Int32), .ref 48]) rfl ?_
  refine w_pf H (12, 18, [(12, .int (0 : Int32)), (11, .int (0 : Int32)), (10, .int (0 : Int32)), (9, .long (0 : Int64)), (8, .int (0 : Int32)), (7, .ref 55), (6, .ref 54), (5, .ref 53), (4, .ref 52), (3, .ref 51), (2, .int (0 : Int32)), (1, .ref 49), (0, .null), (13, .int (0 : Int32)), (14, .int (0 : Int32)), (15, .int (0 : Int32)), (16, .null), (17, .null)], none) (pc' := 90) (L' := [(0, .ref 48), (1, .ref 41)]) h_m19 (z_at.mk 3 rfl rfl) rfl (by decide) rfl (Or.inl rfl) rfl rfl rfl ?_
  clear H m; intro m H
  refine w_p h_m19 2 (pc' := 92) (L' := [(0, .ref 48), (1, .ref 41)]) (st' := [.int (0 : Int32), .ref 48]) rfl ?_
  refine w_pf H (12, 18, [(13, .int (0 : Int32)), (12, .int (0 : Int32)), (11, .int (0 : Int32)), (10, .int (0 : Int32)), (9, .long (0 : Int64)), (8, .int (0 : Int32)), (7, .ref 55), (6, .ref 54), (5, .ref 53), (4, .ref 52), (3, .ref 51), (2, .int (0 : Int32)), (1, .ref 49), (0, .null), (14, .int (0 : Int32)), (15, .int (0 : Int32)), (16, .null), (17, .null)], none) (pc' := 95) (L' := [(0, .ref 48), (1, .ref 41)]) h_m19 (z_at.mk 3 rfl rfl) rfl (by decide) rfl (Or.inl rfl) rfl rfl rfl ?_
  clear H m; intro m H
  refine w_p h_m19 2 (pc' := 97) (L' := [(0, .ref 48), (1, .ref 41)]) (st' := [.int (0 : Int32), .ref 48]) rfl ?_
  refine w_pf H (12, 18, [(14, .int (0 : Int32)), (13, .int (0 : Int32)), (12, .int (0 : Int32)), (11, .int (0 : Int32)), (10, .int (0 : Int32)), (9, .long (0 : Int64)), (8, .int (0 : Int32)), (7, .ref 55), (6, .ref 54), (5, .ref 53), (4, .ref 52), (3, .ref 51), (2, .int (0 : Int32)), (1, .ref 49), (0, .null), (15, .int (0 : Int32)), (16, .null), (17, .null)], none) (pc' := 100) (L' := [(0, .ref 48), (1, .ref 41)]) h_m19 (z_at.mk 3 rfl rfl) rfl (by decide) rfl (Or.inl rfl) rfl rfl rfl ?_
  clear H m; intro m H
  refine w_p h_m19 2 (pc' := 102) (L' := [(0, .ref 48), (1, .ref 41)]) (st' := [.int (0 : Int32), .ref 48]) rfl ?_
  refine w_pf H (12, 18, [(15, .int (0 : Int32)), (14, .int (0 : Int32)), (13, .int (0 : Int32)), (12, .int (0 : Int32)), (11, .int (0 : Int32)), (10, .int (0 : Int32)), (9, .long (0 : Int64)), (8, .int (0 : Int32)), (7, .ref 55), (6, .ref 54), (5, .ref 53), (4, .ref 52), (3, .ref 51), (2, .int (0 : Int32)), (1, .ref 49), (0, .null), (16, .null), (17, .null)], none) (pc' := 105) (L' := [(0, .ref 48), (1, .ref 41)]) h_m19 (z_at.mk 3 rfl rfl) rfl (by decide) rfl (Or.inl rfl) rfl rfl rfl ?_
  clear H m; intro m H
  refine w_p h_m19 1 (pc' := 106) (L' := [(0, .ref 48), (1, .ref 41)]) (st' := [.ref 48]) rfl ?_
  refine w_nw H (11, 2, [(0, .null), (1, .int (0 : Int32))], none) (N' := 57) (S' := 1265) (pc' := 109) (L' := [(0, .ref 48), (1, .ref 41)]) h_m19 (z_at.mk 3 rfl rfl) rfl rfl rfl rfl rfl rfl ?_
  clear H m; intro m H
  refine w_p h_m19 2 (pc' := 113) (L' := [(0, .ref 48), (1, .ref 41)]) (st' := [.int (169 : Int32), .ref 56, .ref 56, .ref 48]) rfl ?_
  refine w_cs (As := [.ref 56, .int (169 : Int32)]) (rest := [.ref 56, .ref 48]) (j := 13) (L0 := [(0, .ref 56), (1, .int (169 : Int32))]) (pc' := 116) (L' := [(0, .ref 48), (1, .ref 41)]) h_m19 (z_at.mk 3 rfl rfl) (Or.inr ⟨rfl, rfl⟩) rfl rfl rfl rfl rfl ?_
  refine w_p h_m13 4 (pc' := 6) (L' := [(0, .ref 56), (1, .int (169 : Int32))]) (st' := [.int (0 : Int32), .ref 56]) rfl ?_
  refine w_pf H (11, 2, [(1, .int (0 : Int32)), (0, .null)], none) (pc' := 9) (L' := [(0, .ref 56), (1, .int (169 : Int32))]) h_m13 (z_at.mk 3 rfl rfl) rfl (by decide) rfl (Or.inl rfl) rfl rfl rfl ?_
  clear H m; intro m H
  refine w_p h_m13 3 (pc' := 12) (L' := [(0, .ref 56), (1, .int (169 : Int32))]) (st' := [.int (169 : Int32), .int (0 : Int32), .ref 56]) rfl ?_
  refine w_cs (As := [.int (0 : Int32), .int (169 : Int32)]) (rest := [.ref 56]) (j := 289) (L0 := [(0, .int (0 : Int32)), (1, .int (169 : Int32))]) (pc' := 15) (L' := [(0, .ref 56), (1, .int (169 : Int32))]) h_m13 (z_at.mk 3 rfl rfl) (Or.inl ⟨rfl, rfl⟩) rfl rfl rfl rfl rfl ?_
  refine w_p h_m289 4 (pc' := 10) (L' := []) (st' := [.int (169 : Int32)]) rfl ?_
  refine w_ri h_m289 (z_at.mk 1 rfl rfl) rfl rfl ?_
  show z_W 996 13 15 [(0, .ref 56), (1, .int (169 : Int32))] [.int (169 : Int32), .ref 56] m _
  refine w_na H (ti := 0) (n := 169) (.int (0 : Int32)) (N' := 58) (S' := 1434) (pc' := 17) (L' := [(0, .ref 56), (1, .int (169 : Int32))]) h_m13 (z_at.mk 2 rfl rfl) rfl (by decide) rfl (by decide) rfl rfl rfl rfl rfl ?_
  clear H m; intro m H
  refine w_pf H (11, 2, [(0, .ref 57), (1, .int (0 : Int32))], none) (pc' := 20) (L' := [(0, .ref 56), (1, .int (169 : Int32))]) h_m13 (z_at.mk 3 rfl rfl) rfl (by decide) rfl (Or.inr ⟨rfl, rfl, by decide⟩) rfl rfl rfl ?_
  clear H m; intro m H
  refine w_rv h_m13 (z_at.mk 1 rfl rfl) rfl ?_
  show z_W 997 19 116 [(0, .ref 48), (1, .ref 41)] [.ref 56, .ref 48] m _
  refine w_pf H (12, 18, [(16, .ref 56), (15, .int (0 : Int32)), (14, .int (0 : Int32)), (13, .int (0 : Int32)), (12, .int (0 : Int32)), (11, .int (0 : Int32)), (10, .int (0 : Int32)), (9, .long (0 : Int64)), (8, .int (0 : Int32)), (7, .ref 55), (6, .ref 54), (5, .ref 53), (4, .ref 52), (3, .ref 51), (2, .int (0 : Int32)), (1, .ref 49), (0, .null), (17, .null)], none) (pc' := 119) (L' := [(0, .ref 48), (1, .ref 41)]) h_m19 (z_at.mk 3 rfl rfl) rfl (by decide) rfl (Or.inr ⟨rfl, rfl, by decide⟩) rfl rfl rfl ?_
  clear H m; intro m H
  refine w_p h_m19 1 (pc' := 120) (L' := [(0, .ref 48), (1, .ref 41)]) (st' := [.ref 48]) rfl ?_
  refine w_nw H (11, 2, [(0, .null), (1, .int (0 : Int32))], none) (N' := 59) (S' := 1436) (pc' := 123) (L' := [(0, .ref 48), (1, .ref 41)]) h_m19 (z_at.mk 3 rfl rfl) rfl rfl rfl rfl rfl rfl ?_
  clear H m; intro m H
  refine w_p h_m19 2 (pc' := 127) (L' := [(0, .ref 48), (1, .ref 41)]) (st' := [.int (169 : Int32), .ref 58, .ref 58, .ref 48]) rfl ?_
  refine w_cs (As := [.ref 58, .int (169 : Int32)]) (rest := [.ref 58, .ref 48]) (j := 13) (L0 := [(0, .ref 58), (1, .int (169 : Int32))]) (pc' := 130) (L' := [(0, .ref 48), (1, .ref 41)]) h_m19 (z_at.mk 3 rfl rfl) (Or.inr ⟨rfl, rfl⟩) rfl rfl rfl rfl rfl ?_
  refine w_p h_m13 4 (pc' := 6) (L' := [(0, .ref 58), (1, .int (169 : Int32))]) (st' := [.int (0 : Int32), .ref 58]) rfl ?_
  refine w_pf H (11, 2, [(1, .int (0 : Int32)), (0, .null)], none) (pc' := 9) (L' := [(0, .ref 58), (1, .int (169 : Int32))]) h_m13 (z_at.mk 3 rfl rfl) rfl (by decide) rfl (Or.inl rfl) rfl rfl rfl ?_
  clear H m; intro m H
  refine w_p h_m13 3 (pc' := 12) (L' := [(0, .ref 58), (1, .int (169 : Int32))]) (st' := [.int (169 : Int32), .int (0 : Int32), .ref 58]) rfl ?_
  refine w_cs (As := [.int (0 : Int32), .int (169 : Int32)]) (rest := [.ref 58]) (j := 289) (L0 := [(0, .int (0 : Int32)), (1, .int (169 : Int32))]) (pc' := 15) (L' := [(0, .ref 58), (1, .int (169 : Int32))]) h_m13 (z_at.mk 3 rfl rfl) (Or.inl ⟨rfl, rfl⟩) rfl rfl rfl rfl rfl ?_
  refine w_p h_m289 4 (pc' := 10) (L' := []) (st' := [.int (169 : Int32)]) rfl ?_
  refine w_ri h_m289 (z_at.mk 1 rfl rfl) rfl rfl ?_
  show z_W 996 13 15 [(0, .ref 58), (1, .int (169 : Int32))] [.int (169 : Int32), .ref 58] m _
  refine w_na H (ti := 0) (n := 169) (.int (0 : Int32)) (N' := 60) (S' := 1605) (pc' := 17) (L' := [(0, .ref 58), (1, .int (169 : Int32))]) h_m13 (z_at.mk 2 rfl rfl) rfl (by decide) rfl (by decide) rfl rfl rfl rfl rfl ?_
  clear H m; intro m H
  refine w_pf H (11, 2, [(0, .ref 59), (1, .int (0 : Int32))], none) (pc' := 20) (L' := [(0, .ref 58), (1, .int (169 : Int32))]) h_m13 (z_at.mk 3 rfl rfl) rfl (by decide) rfl (Or.inr ⟨rfl, rfl, by decide⟩) rfl rfl rfl ?_
  clear H m; intro m H
  refine w_rv h_m13 (z_at.mk 1 rfl rfl) rfl ?_
  show z_W 997 19 130 [(0, .ref 48), (1, .ref 41)] [.ref 58, .ref 48] m _
  refine w_pf H (12, 18, [(17, .ref 58), (16, .ref 56), (15, .int (0 : Int32)), (14, .int (0 : Int32)), (13, .int (0 : Int32)), (12, .int (0 : Int32)), (11, .int (0 : Int32)), (10, .int (0 : Int32)), (9, .long (0 : Int64)), (8, .int (0 : Int32)), (7, .ref 55), (6, .ref 54), (5, .ref 53), (4, .ref 52), (3, .ref 51), (2, .int (0 : Int32)), (1, .ref 49), (0, .null)], none) (pc' := 133) (L' := [(0, .ref 48), (1, .ref 41)]) h_m19 (z_at.mk 3 rfl rfl) rfl (by decide) rfl (Or.inr ⟨rfl, rfl, by decide⟩) rfl rfl rfl ?_
  clear H m; intro m H
  refine w_p h_m19 2 (pc' := 135) (L' := [(0, .ref 48), (1, .ref 41)]) (st' := [.ref 41, .ref 48]) rfl ?_
  refine w_pf H (12, 18, [(0, .ref 41), (17, .ref 58), (16, .ref 56), (15, .int (0 : Int32)), (14, .int (0 : Int32)), (13, .int (0 : Int32)), (12, .int (0 : Int32)), (11, .int (0 : Int32)), (10, .int (0 : Int32)), (9, .long (0 : Int64)), (8, .int (0 : Int32)), (7, .ref 55), (6, .ref 54), (5, .ref 53), (4, .ref 52), (3, .ref 51), (2, .int (0 : Int32)), (1, .ref 49)], none) (pc' := 138) (L' := [(0, .ref 48), (1, .ref 41)]) h_m19 (z_at.mk 3 rfl rfl) rfl (by decide) rfl (Or.inr ⟨rfl, rfl, by decide⟩) rfl rfl rfl ?_
  clear H m; intro m H
  refine w_rv h_m19 (z_at.mk 1 rfl rfl) rfl ?_
  show z_W 998 77 27 [(0, .ref 40)] [.ref 48, .ref 40] m _
  refine w_pf H (17, 5, [(1, .ref 48), (0, .ref 41), (2, .null), (3, .null), (4, .null)], none) (pc' := 30) (L' := [(0, .ref 40)]) h_m77 (z_at.mk 3 rfl rfl) rfl (by decide) rfl (Or.inr ⟨rfl, rfl, by decide⟩) rfl rfl rfl ?_
  clear H m; intro m H
  refine w_p h_m77 1 (pc' := 31) (L' := [(0, .ref 40)]) (st' := [.ref 40]) rfl ?_
  refine w_nw H (13, 3, [(0, .null), (1, .null), (2, .int (0 : Int32))], none) (N' := 61) (S' := 1608) (pc' := 34) (L' := [(0, .ref 40)]) h_m77 (z_at.mk 3 rfl rfl) rfl rfl rfl rfl rfl rfl ?_
  clear H m; intro m H
  refine w_p h_m77 1 (pc' := 35) (L' := [(0, .ref 40)]) (st' := [.ref 60, .ref 60, .ref 40]) rfl ?_
  refine w_cs (As := [.ref 60]) (rest := [.ref 60, .ref 40]) (j := 45) (L0 := [(0, .ref 60)]) (pc' := 38) (L' := [(0, .ref 40)]) h_m77 (z_at.mk 3 rfl rfl) (Or.inr ⟨rfl, rfl⟩) rfl rfl rfl rfl rfl ?_
  refine w_p h_m45 4 (pc' := 7) (L' := [(0, .ref 60)]) (st' := [.int (60 : Int32), .ref 60]) rfl ?_
  refine w_na H (ti := 0) (n := 60) (.int (0 : Int32)) (N' := 62) (S' := 1668) (pc' := 9) (L' := [(0, .ref 60)]) h_m45 (z_at.mk 2 rfl rfl) rfl (by decide) rfl (by decide) rfl rfl rfl rfl rfl ?_
  clear H m; intro m H
  refine w_pf H (13, 3, [(0, .ref 61), (1, .null), (2, .int (0 : Int32))], none) (pc' := 12) (L' := [(0, .ref 60)]) h_m45 (z_at.mk 3 rfl rfl) rfl (by decide) rfl (Or.inr ⟨rfl, rfl, by decide⟩) rfl rfl rfl ?_
  clear H m; intro m H
  refine w_p h_m45 2 (pc' := 15) (L' := [(0, .ref 60)]) (st' := [.int (60 : Int32), .ref 60]) rfl ?_
  refine w_na H (ti := 1) (n := 60) (.long (0 : Int64)) (N' := 63) (S' := 1728) (pc' := 17) (L' := [(0, .ref 60)]) h_m45 (z_at.mk 2 rfl rfl) rfl (by decide) rfl (by decide) rfl rfl rfl rfl rfl ?_
  clear H m; intro m H
  refine w_pf H (13, 3, [(1, .ref 62), (0, .ref 61), (2, .int (0 : Int32))], none) (pc' := 20) (L' := [(0, .ref 60)]) h_m45 (z_at.mk 3 rfl rfl) rfl (by decide) rfl (Or.inr ⟨rfl, rfl, by decide⟩) rfl rfl rfl ?_
  clear H m; intro m H
  refine w_p h_m45 2 (pc' := 22) (L' := [(0, .ref 60)]) (st' := [.int (0 : Int32), .ref 60]) rfl ?_
  refine w_pf H (13, 3, [(2, .int (0 : Int32)), (1, .ref 62), (0, .ref 61)], none) (pc' := 25) (L' := [(0, .ref 60)]) h_m45 (z_at.mk 3 rfl rfl) rfl (by decide) rfl (Or.inl rfl) rfl rfl rfl ?_
  clear H m; intro m H
  refine w_rv h_m45 (z_at.mk 1 rfl rfl) rfl ?_
  show z_W 998 77 38 [(0, .ref 40)] [.ref 60, .ref 40] m _
  refine w_pf H (17, 5, [(2, .ref 60), (1, .ref 48), (0, .ref 41), (3, .null), (4, .null)], none) (pc' := 41) (L' := [(0, .ref 40)]) h_m77 (z_at.mk 3 rfl rfl) rfl (by decide) rfl (Or.inr ⟨rfl, rfl, by decide⟩) rfl rfl rfl ?_
  clear H m; intro m H
  refine w_p h_m77 1 (pc' := 42) (L' := [(0, .ref 40)]) (st' := [.ref 40]) rfl ?_
  refine w_nw H (11, 2, [(0, .null), (1, .int (0 : Int32))], none) (N' := 64) (S' := 1730) (pc' := 45) (L' := [(0, .ref 40)]) h_m77 (z_at.mk 3 rfl rfl) rfl rfl rfl rfl rfl rfl ?_
  clear H m; intro m H
  refine w_p h_m77 2 (pc' := 48) (L' := [(0, .ref 40)]) (st' := [.int (10 : Int32), .ref 63, .ref 63, .ref 40]) rfl ?_
  refine w_cs (As := [.ref 63, .int (10 : Int32)]) (rest := [.ref 63, .ref 40]) (j := 13) (L0 := [(0, .ref 63), (1, .int (10 : Int32))]) (pc' := 51) (L' := [(0, .ref 40)]) h_m77 (z_at.mk 3 rfl rfl) (Or.inr ⟨rfl, rfl⟩) rfl rfl rfl rfl rfl ?_
  refine w_p h_m13 4 (pc' := 6) (L' := [(0, .ref 63), (1, .int (10 : Int32))]) (st' := [.int (0 : Int32), .ref 63]) rfl ?_
  refine w_pf H (11, 2, [(1, .int (0 : Int32)), (0, .null)], none) (pc' := 9) (L' := [(0, .ref 63), (1, .int (10 : Int32))]) h_m13 (z_at.mk 3 rfl rfl) rfl (by decide) rfl (Or.inl rfl) rfl rfl rfl ?_
  clear H m; intro m H
  refine w_p h_m13 3 (pc' := 12) (L' := [(0, .ref 63), (1, .int (10 : Int32))]) (st' := [.int (10 : Int32), .int (0 : Int32), .ref 63]) rfl ?_
  refine w_cs (As := [.int (0 : Int32), .int (10 : Int32)]) (rest := [.ref 63]) (j := 289) (L0 := [(0, .int (0 : Int32)), (1, .int (10 : Int32))]) (pc' := 15) (L' := [(0, .ref 63), (1, .int (10 : Int32))]) h_m13 (z_at.mk 3 rfl rfl) (Or.inl ⟨rfl, rfl⟩) rfl rfl rfl rfl rfl ?_
  refine w_p h_m289 4 (pc' := 10) (L' := []) (st' := [.int (10 : Int32)]) rfl ?_
  refine w_ri h_m289 (z_at.mk 1 rfl rfl) rfl rfl ?_
  show z_W 997 13 15 [(0, .ref 63), (1, .int (10 : Int32))] [.int (10 : Int32), .ref 63] m _
  refine w_na H (ti := 0) (n := 10) (.int (0 : Int32)) (N' := 65) (S' := 1740) (pc' := 17) (L' := [(0, .ref 63), (1, .int (10 : Int32))]) h_m13 (z_at.mk 2 rfl rfl) rfl (by decide) rfl (by decide) rfl rfl rfl rfl rfl ?_
  clear H m; intro m H
  refine w_pf H (11, 2, [(0, .ref 64), (1, .int (0 : Int32))], none) (pc' := 20) (L' := [(0, .ref 63), (1, .int (10 : Int32))]) h_m13 (z_at.mk 3 rfl rfl) rfl (by decide) rfl (Or.inr ⟨rfl, rfl, by decide⟩) rfl rfl rfl ?_
  clear H m; intro m H
  refine w_rv h_m13 (z_at.mk 1 rfl rfl) rfl ?_
  show z_W 998 77 51 [(0, .ref 40)] [.ref 63, .ref 40] m _
  refine w_pf H (17, 5, [(3, .ref 63), (2, .ref 60), (1, .ref 48), (0, .ref 41), (4, .null)], none) (pc' := 54) (L' := [(0, .ref 40)]) h_m77 (z_at.mk 3 rfl rfl) rfl (by decide) rfl (Or.inr ⟨rfl, rfl, by decide⟩) rfl rfl rfl ?_
  clear H m; intro m H
  refine w_p h_m77 1 (pc' := 55) (L' := [(0, .ref 40)]) (st' := [.ref 40]) rfl ?_
  refine w_nw H (20, 6, [(0, .null), (1, .null), (2, .null), (3, .null), (4, .null), (5, .int (0 : Int32))], none) (N' := 66) (S' := 1746) (pc' := 58) (L' := [(0, .ref 40)]) h_m77 (z_at.mk 3 rfl rfl) rfl rfl rfl rfl rfl rfl ?_
  clear H m; intro m H
  refine w_p h_m77 1 (pc' := 59) (L' := [(0, .ref 40)]) (st' := [.ref 65, .ref 65, .ref 40]) rfl ?_
  refine w_cs (As := [.ref 65]) (rest := [.ref 65, .ref 40]) (j := 107) (L0 := [(0, .ref 65)]) (pc' := 62) (L' := [(0, .ref 40)]) h_m77 (z_at.mk 3 rfl rfl) (Or.inr ⟨rfl, rfl⟩) rfl rfl rfl rfl rfl ?_
  refine w_p h_m107 4 (pc' := 7) (L' := [(0, .ref 65)]) (st' := [.int (6 : Int32), .ref 65]) rfl ?_
  refine w_na H (ti := 0) (n := 6) (.int (0 : Int32)) (N' := 67) (S' := 1752) (pc' := 9) (L' := [(0, .ref 65)]) h_m107 (z_at.mk 2 rfl rfl) rfl (by decide) rfl (by decide) rfl rfl rfl rfl rfl ?_
  clear H m; intro m H
  refine w_pf H (20, 6, [(0, .ref 66), (1, .null), (2, .null), (3, .null), (4, .null), (5, .int (0 : Int32))], none) (pc' := 12) (L' := [(0, .ref 65)]) h_m107 (z_at.mk 3 rfl rfl) rfl (by decide) rfl (Or.inr ⟨rfl, rfl, by decide⟩) rfl rfl rfl ?_
  clear H m; intro m H
  refine w_p h_m107 2 (pc' := 15) (L' := [(0, .ref 65)]) (st' := [.int (6 : Int32), .ref 65]) rfl ?_
  refine w_na H (ti := 0) (n := 6) (.int (0 : Int32)) (N' := 68) (S' := 1758) (pc' := 17) (L' := [(0, .ref 65)]) h_m107 (z_at.mk 2 rfl rfl) rfl (by decide) rfl (by decide) rfl rfl rfl rfl rfl ?_
  clear H m; intro m H
  refine w_pf H (20, 6, [(1, .ref 67), (0, .ref 66), (2, .null), (3, .null), (4, .null), (5, .int (0 : Int32))], none) (pc' := 20) (L' := [(0, .ref 65)]) h_m107 (z_at.mk 3 rfl rfl) rfl (by decide) rfl (Or.inr ⟨rfl, rfl, by decide⟩) rfl rfl rfl ?_
  clear H m; intro m H
  refine w_p h_m107 2 (pc' := 23) (L' := [(0, .ref 65)]) (st' := [.int (6 : Int32), .ref 65]) rfl ?_
  refine w_na H (ti := 0) (n := 6) (.int (0 : Int32)) (N' := 69) (S' := 1764) (pc' := 25) (L' := [(0, .ref 65)]) h_m107 (z_at.mk 2 rfl rfl) rfl (by decide) rfl (by decide) rfl rfl rfl rfl rfl ?_
  clear H m; intro m H
  refine w_pf H (20, 6, [(2, .ref 68), (1, .ref 67), (0, .ref 66), (3, .null), (4, .null), (5, .int (0 : Int32))], none) (pc' := 28) (L' := [(0, .ref 65)]) h_m107 (z_at.mk 3 rfl rfl) rfl (by decide) rfl (Or.inr ⟨rfl, rfl, by decide⟩) rfl rfl rfl ?_
  clear H m; intro m H
  refine w_p h_m107 2 (pc' := 31) (L' := [(0, .ref 65)]) (st' := [.int (6 : Int32), .ref 65]) rfl ?_
  refine w_na H (ti := 1) (n := 6) (.long (0 : Int64)) (N' := 70) (S' := 1770) (pc' := 33) (L' := [(0, .ref 65)]) h_m107 (z_at.mk 2 rfl rfl) rfl (by decide) rfl (by decide) rfl rfl rfl rfl rfl ?_
  clear H m; intro m H
  refine w_pf H (20, 6, [(3, .ref 69), (2, .ref 68), (1, .ref 67), (0, .ref 66), (4, .null), (5, .int (0 : Int32))], none) (pc' := 36) (L' := [(0, .ref 65)]) h_m107 (z_at.mk 3 rfl rfl) rfl (by decide) rfl (Or.inr ⟨rfl, rfl, by decide⟩) rfl rfl rfl ?_
  clear H m; intro m H
  refine w_p h_m107 1 (pc' := 37) (L' := [(0, .ref 65)]) (st' := [.ref 65]) rfl ?_
  refine w_nw H (13, 3, [(0, .null), (1, .null), (2, .int (0 : Int32))], none) (N' := 71) (S' := 1773) (pc' := 40) (L' := [(0, .ref 65)]) h_m107 (z_at.mk 3 rfl rfl) rfl rfl rfl rfl rfl rfl ?_
  clear H m; intro m H
  refine w_p h_m107 1 (pc' := 41) (L' := [(0, .ref 65)]) (st' := [.ref 70, .ref 70, .ref 65]) rfl ?_
  refine w_cs (As := [.ref 70]) (rest := [.ref 70, .ref 65]) (j := 45) (L0 := [(0, .ref 70)]) (pc' := 44) (L' := [(0, .ref 65)]) h_m107 (z_at.mk 3 rfl rfl) (Or.inr ⟨rfl, rfl⟩) rfl rfl rfl rfl rfl ?_
  refine w_p h_m45 4 (pc' := 7) (L' := [(0, .ref 70)]) (st' := [.int (60 : Int32), .ref 70]) rfl ?_
  refine w_na H (ti := 0) (n := 60) (.int (0 : Int32)) (N' := 72) (S' := 1833) (pc' := 9) (L' := [(0, .ref 70)]) h_m45 (z_at.mk 2 rfl rfl) rfl (by decide) rfl (by decide) rfl rfl rfl rfl rfl ?_
  clear H m; intro m H
  refine w_pf H (13, 3, [(0, .ref 71), (1, .null), (2, .int (0 : Int32))], none) (pc' := 12) (L' := [(0, .ref 70)]) h_m45 (z_at.mk 3 rfl rfl) rfl (by decide) rfl (Or.inr ⟨rfl, rfl, by decide⟩) rfl rfl rfl ?_
  clear H m; intro m H
  refine w_p h_m45 2 (pc' := 15) (L' := [(0, .ref 70)]) (st' := [.int (60 : Int32), .ref 70]) rfl ?_
  refine w_na H (ti := 1) (n := 60) (.long (0 : Int64)) (N' := 73) (S' := 1893) (pc' := 17) (L' := [(0, .ref 70)]) h_m45 (z_at.mk 2 rfl rfl) rfl (by decide) rfl (by decide) rfl rfl rfl rfl rfl ?_
  clear H m; intro m H
  refine w_pf H (13, 3, [(1, .ref 72), (0, .ref 71), (2, .int (0 : Int32))], none) (pc' := 20) (L' := [(0, .ref 70)]) h_m45 (z_at.mk 3 rfl rfl) rfl (by decide) rfl (Or.inr ⟨rfl, rfl, by decide⟩) rfl rfl rfl ?_
  clear H m; intro m H
  refine w_p h_m45 2 (pc' := 22) (L' := [(0, .ref 70)]) (st' := [.int (0 : Int32), .ref 70]) rfl ?_
  refine w_pf H (13, 3, [(2, .int (0 : Int32)), (1, .ref 72), (0, .ref 71)], none) (pc' := 25) (L' := [(0, .ref 70)]) h_m45 (z_at.mk 3 rfl rfl) rfl (by decide) rfl (Or.inl rfl) rfl rfl rfl ?_
  clear H m; intro m H
  refine w_rv h_m45 (z_at.mk 1 rfl rfl) rfl ?_
  show z_W 997 107 44 [(0, .ref 65)] [.ref 70, .ref 65] m _
  refine w_pf H (20, 6, [(4, .ref 70), (3, .ref 69), (2, .ref 68), (1, .ref 67), (0, .ref 66), (5, .int (0 : Int32))], none) (pc' := 47) (L' := [(0, .ref 65)]) h_m107 (z_at.mk 3 rfl rfl) rfl (by decide) rfl (Or.inr ⟨rfl, rfl, by decide⟩) rfl rfl rfl ?_
  clear H m; intro m H
  refine w_p h_m107 2 (pc' := 49) (L' := [(0, .ref 65)]) (st' := [.int (0 : Int32), .ref 65]) rfl ?_
  refine w_pf H (20, 6, [(5, .int (0 : Int32)), (4, .ref 70), (3, .ref 69), (2, .ref 68), (1, .ref 67), (0, .ref 66)], none) (pc' := 52) (L' := [(0, .ref 65)]) h_m107 (z_at.mk 3 rfl rfl) rfl (by decide) rfl (Or.inl rfl) rfl rfl rfl ?_
  clear H m; intro m H
  refine w_rv h_m107 (z_at.mk 1 rfl rfl) rfl ?_
  show z_W 998 77 62 [(0, .ref 40)] [.ref 65, .ref 40] m _
  refine w_pf H (17, 5, [(4, .ref 65), (3, .ref 63), (2, .ref 60), (1, .ref 48), (0, .ref 41)], none) (pc' := 65) (L' := [(0, .ref 40)]) h_m77 (z_at.mk 3 rfl rfl) rfl (by decide) rfl (Or.inr ⟨rfl, rfl, by decide⟩) rfl rfl rfl ?_
  clear H m; intro m H
  refine w_rv h_m77 (z_at.mk 1 rfl rfl) rfl ?_
  show z_W 999 114 12 [(0, .ref 39)] [.ref 40, .ref 39] m _
  refine w_pf H (21, 14, [(0, .ref 40), (1, .null), (2, .int (0 : Int32)), (3, .null), (4, .null), (5, .null), (6, .null), (7, .null), (8, .null), (9, .int (0 : Int32)), (10, .null), (11, .null), (12, .null), (13, .null)], none) (pc' := 15) (L' := [(0, .ref 39)]) h_m114 (z_at.mk 3 rfl rfl) rfl (by decide) rfl (Or.inr ⟨rfl, rfl, by decide⟩) rfl rfl rfl ?_
  clear H m; intro m H
  refine w_p h_m114 1 (pc' := 16) (L' := [(0, .ref 39)]) (st' := [.ref 39]) rfl ?_
  refine w_nw H (17, 5, [(0, .null), (1, .null), (2, .null), (3, .null), (4, .null)], none) (N' := 74) (S' := 1898) (pc' := 19) (L' := [(0, .ref 39)]) h_m114 (z_at.mk 3 rfl rfl) rfl rfl rfl rfl rfl rfl ?_
  clear H m; intro m H
  refine w_p h_m114 1 (pc' := 20) (L' := [(0, .ref 39)]) (st' := [.ref 73, .ref 73, .ref 39]) rfl ?_
  refine w_cs (As := [.ref 73]) (rest := [.ref 73, .ref 39]) (j := 77) (L0 := [(0, .ref 73)]) (pc' := 23) (L' := [(0, .ref 39)]) h_m114 (z_at.mk 3 rfl rfl) (Or.inr ⟨rfl, rfl⟩) rfl rfl rfl rfl rfl ?_
  refine w_p h_m77 3 (pc' := 5) (L' := [(0, .ref 73)]) (st' := [.ref 73]) rfl ?_
  refine w_nw H (18, 7, [(0, .null), (1, .null), (2, .null), (3, .null), (4, .int (0 : Int32)), (5, .null), (6, .null)], none) (N' := 75) (S' := 1905) (pc' := 8) (L' := [(0, .ref 73)]) h_m77 (z_at.mk 3 rfl rfl) rfl rfl rfl rfl rfl rfl ?_
  clear H m; intro m H
  refine w_p h_m77 1 (pc' := 9) (L' := [(0, .ref 73)]) (st' := [.ref 74, .ref 74, .ref 73]) rfl ?_
  refine w_cs (As := [.ref 74]) (rest := [.ref 74, .ref 73]) (j := 79) (L0 := [(0, .ref 74)]) (pc' := 12) (L' := [(0, .ref 73)]) h_m77 (z_at.mk 3 rfl rfl) (Or.inr ⟨rfl, rfl⟩) rfl rfl rfl rfl rfl ?_
  refine w_p h_m79 4 (pc' := 7) (L' := [(0, .ref 74)]) (st' := [.int (60 : Int32), .ref 74]) rfl ?_
  refine w_na H (ti := 0) (n := 60) (.int (0 : Int32)) (N' := 76) (S' := 1965) (pc' := 9) (L' := [(0, .ref 74)]) h_m79 (z_at.mk 2 rfl rfl) rfl (by decide) rfl (by decide) rfl rfl rfl rfl rfl ?_
  clear H m; intro m H
  refine w_pf H (18, 7, [(0, .ref 75), (1, .null), (2, .null), (3, .null), (4, .int (0 : Int32)), (5, .null), (6, .null)], none) (pc' := 12) (L' := [(0, .ref 74)]) h_m79 (z_at.mk 3 rfl rfl) rfl (by decide) rfl (Or.inr ⟨rfl, rfl, by decide⟩) rfl rfl rfl ?_
  clear H m; intro m H
  refine w_p h_m79 2 (pc' := 15) (L' := [(0, .ref 74)]) (st' := [.int (60 : Int32), .ref 74]) rfl ?_
  refine w_na H (ti := 0) (n := 60) (.int (0 : Int32)) (N' := 77) (S' := 2025) (pc' := 17) (L' := [(0, .ref 74)]) h_m79 (z_at.mk 2 rfl rfl) rfl (by decide) rfl (by decide) rfl rfl rfl rfl rfl ?_
  clear H m; intro m H
  refine w_pf H (18, 7, [(1, .ref 76), (0, .ref 75), (2, .null), (3, .null), (4, .int (0 : Int32)), (5, .null), (6, .null)], none) (pc' := 20) (L' := [(0, .ref 74)]) h_m79 (z_at.mk 3 rfl rfl) rfl (by decide) rfl (Or.inr ⟨rfl, rfl, by decide⟩) rfl rfl rfl ?_
  clear H m; intro m H
  refine w_p h_m79 2 (pc' := 23) (L' := [(0, .ref 74)]) (st' := [.int (60 : Int32), .ref 74]) rfl ?_
  refine w_na H (ti := 1) (n := 60) (.long (0 : Int64)) (N' := 78) (S' := 2085) (pc' := 25) (L' := [(0, .ref 74)]) h_m79 (z_at.mk 2 rfl rfl) rfl (by decide) rfl (by decide) rfl rfl rfl rfl rfl ?_
  clear H m; intro m H
  refine w_pf H (18, 7, [(2, .ref 77), (1, .ref 76), (0, .ref 75), (3, .null), (4, .int (0 : Int32)), (5, .null), (6, .null)], none) (pc' := 28) (L' := [(0, .ref 74)]) h_m79 (z_at.mk 3 rfl rfl) rfl (by decide) rfl (Or.inr ⟨rfl, rfl, by decide⟩) rfl rfl rfl ?_
  clear H m; intro m H
  refine w_p h_m79 2 (pc' := 31) (L' := [(0, .ref 74)]) (st' := [.int (60 : Int32), .ref 74]) rfl ?_
  refine w_na H (ti := 0) (n := 60) (.int (0 : Int32)) (N' := 79) (S' := 2145) (pc' := 33) (L' := [(0, .ref 74)]) h_m79 (z_at.mk 2 rfl rfl) rfl (by decide) rfl (by decide) rfl rfl rfl rfl rfl ?_
  clear H m; intro m H
  refine w_pf H (18, 7, [(3, .ref 78), (2, .ref 77), (1, .ref 76), (0, .ref 75), (4, .int (0 : Int32)), (5, .null), (6, .null)], none) (pc' := 36) (L' := [(0, .ref 74)]) h_m79 (z_at.mk 3 rfl rfl) rfl (by decide) rfl (Or.inr ⟨rfl, rfl, by decide⟩) rfl rfl rfl ?_
  clear H m; intro m H
  refine w_p h_m79 2 (pc' := 38) (L' := [(0, .ref 74)]) (st' := [.int (0 : Int32), .ref 74]) rfl ?_
  refine w_pf H (18, 7, [(4, .int (0 : Int32)), (3, .ref 78), (2, .ref 77), (1, .ref 76), (0, .ref 75), (5, .null), (6, .null)], none) (pc' := 41) (L' := [(0, .ref 74)]) h_m79 (z_at.mk 3 rfl rfl) rfl (by decide) rfl (Or.inl rfl) rfl rfl rfl ?_
  clear H m; intro m H
  refine w_p h_m79 2 (pc' := 44) (L' := [(0, .ref 74)]) (st' := [.int (33 : Int32), .ref 74]) rfl ?_
  refine w_na H (ti := 1) (n := 33) (.long (0 : Int64)) (N' := 80) (S' := 2178) (pc' := 46) (L' := [(0, .ref 74)]) h_m79 (z_at.mk 2 rfl rfl) rfl (by decide) rfl (by decide) rfl rfl rfl rfl rfl ?_
  clear H m; intro m H
  refine w_pf H (18, 7, [(5, .ref 79), (4, .int (0 : Int32)), (3, .ref 78), (2, .ref 77), (1, .ref 76), (0, .ref 75), (6, .null)], none) (pc' := 49) (L' := [(0, .ref 74)]) h_m79 (z_at.mk 3 rfl rfl) rfl (by decide) rfl (Or.inr ⟨rfl, rfl, by decide⟩) rfl rfl rfl ?_
  clear H m; intro m H
  refine w_p h_m79 2 (pc' := 52) (L' := [(0, .ref 74)]) (st' := [.int (33 : Int32), .ref 74]) rfl ?_
  refine w_na H (ti := 1) (n := 33) (.long (0 : Int64)) (N' := 81) (S' := 2211) (pc' := 54) (L' := [(0, .ref 74)]) h_m79 (z_at.mk 2 rfl rfl) rfl (by decide) rfl (by decide) rfl rfl rfl rfl rfl ?_
  clear H m; intro m H
  refine w_pf H (18, 7, [(6, .ref 80), (5, .ref 79), (4, .int (0 : Int32)), (3, .ref 78), (2, .ref 77), (1, .ref 76), (0, .ref 75)], none) (pc' := 57) (L' := [(0, .ref 74)]) h_m79 (z_at.mk 3 rfl rfl) rfl (by decide) rfl (Or.inr ⟨rfl, rfl, by decide⟩) rfl rfl rfl ?_
  clear H m; intro m H
  refine w_rv h_m79 (z_at.mk 1 rfl rfl) rfl ?_
  show z_W 998 77 12 [(0, .ref 73)] [.ref 74, .ref 73] m _
  refine w_pf H (17, 5, [(0, .ref 74), (1, .null), (2, .null), (3, .null), (4, .null)], none) (pc' := 15) (L' := [(0, .ref 73)]) h_m77 (z_at.mk 3 rfl rfl) rfl (by decide) rfl (Or.inr ⟨rfl, rfl, by decide⟩) rfl rfl rfl ?_
  clear H m; intro m H
  refine w_p h_m77 1 (pc' := 16) (L' := [(0, .ref 73)]) (st' := [.ref 73]) rfl ?_
  refine w_nw H (12, 18, [(0, .null), (1, .null), (2, .int (0 : Int32)), (3, .null), (4, .null), (5, .null), (6, .null), (7, .null), (8, .int (0 : Int32)), (9, .long (0 : Int64)), (10, .int (0 : Int32)), (11, .int (0 : Int32)), (12, .int (0 : Int32)), (13, .int (0 : Int32)), (14, .int (0 : Int32)), (15, .int (0 : Int32)), (16, .null), (17, .null)], none) (N' := 82) (S' := 2229) (pc' := 19) (L' := [(0, .ref 73)]) h_m77 (z_at.mk 3 rfl rfl) rfl rfl rfl rfl rfl rfl ?_
  clear H m; intro m H
  refine w_p h_m77 2 (pc' := 21) (L' := [(0, .ref 73)]) (st' := [.ref 73, .ref 81, .ref 81, .ref 73]) rfl ?_
  refine w_gf H (pc' := 24) (L' := [(0, .ref 73)]) h_m77 (z_at.mk 3 rfl rfl) rfl (u := .ref 74) rfl rfl rfl ?_
  refine w_cs (As := [.ref 81, .ref 74]) (rest := [.ref 81, .ref 73]) (j := 19) (L0 := [(0, .ref 81), (1, .ref 74)]) (pc' := 27) (L' := [(0, .ref 73)]) h_m77 (z_at.mk 3 rfl rfl) (Or.inr ⟨rfl, rfl⟩) rfl rfl rfl rfl rfl ?_
  refine w_p h_m19 3 (pc' := 5) (L' := [(0, .ref 81), (1, .ref 74)]) (st' := [.ref 81]) rfl ?_
  refine w_nw H (16, 1, [(0, .null)], none) (N' := 83) (S' := 2230) (pc' := 8) (L' := [(0, .ref 81), (1, .ref 74)]) h_m19 (z_at.mk 3 rfl rfl) rfl rfl rfl rfl rfl rfl ?_
  clear H m; intro m H
  refine w_p h_m19 1 (pc' := 9) (L' := [(0, .ref 81), (1, .ref 74)]) (st' := [.ref 82, .ref 82, .ref 81]) rfl ?_
  refine w_cs (As := [.ref 82]) (rest := [.ref 82, .ref 81]) (j := 71) (L0 := [(0, .ref 82)]) (pc' := 12) (L' := [(0, .ref 81), (1, .ref 74)]) h_m19 (z_at.mk 3 rfl rfl) (Or.inr ⟨rfl, rfl⟩) rfl rfl rfl rfl rfl ?_
  refine w_p h_m71 4 (pc' := 7) (L' := [(0, .ref 82)]) (st' := [.int (7 : Int32), .ref 82]) rfl ?_
  refine w_na H (ti := 0) (n := 7) (.int (0 : Int32)) (N' := 84) (S' := 2237) (pc' := 9) (L' := [(0, .ref 82)]) h_m71 (z_at.mk 2 rfl rfl) rfl (by decide) rfl (by decide) rfl rfl rfl rfl rfl ?_
  clear H m; intro m H
  refine w_pf H (16, 1, [(0, .ref 83)], none) (pc' := 12) (L' := [(0, .ref 82)]) h_m71 (z_at.mk 3 rfl rfl) rfl (by decide) rfl (Or.inr ⟨rfl, rfl, by decide⟩) rfl rfl rfl ?_
  clear H m; intro m H
  refine w_p h_m71 1 (pc' := 13) (L' := [(0, .ref 82)]) (st' := [.ref 82]) rfl ?_
  refine w_gf H (pc' := 16) (L' := [(0, .ref 82)]) h_m71 (z_at.mk 3 rfl rfl) rfl (u := .ref 83) rfl rfl rfl ?_
  refine w_p h_m71 2 (pc' := 19) (L' := [(0, .ref 82)]) (st' := [.int (10 : Int32), .int (0 : Int32), .ref 83]) rfl ?_
  refine w_as H (t := 0) (j := 0) (u := .int (10 : Int32)) (0, 7, [(0, .int (10 : Int32))], some (.int (0 : Int32))) (pc' := 20) (L' := [(0, .ref 82)]) h_m71 (z_at.mk 1 rfl rfl) rfl rfl (w_ui _ _ (by decide)) rfl rfl rfl rfl ?_
  clear H m; intro m H
  refine w_p h_m71 1 (pc' := 21) (L' := [(0, .ref 82)]) (st' := [.ref 82]) rfl ?_
  refine w_gf H (pc' := 24) (L' := [(0, .ref 82)]) h_m71 (z_at.mk 3 rfl rfl) rfl (u := .ref 83) rfl rfl rfl ?_
  refine w_p h_m71 2 (pc' := 27) (L' := [(0, .ref 82)]) (st' := [.int (40 : Int32), .int (1 : Int32), .ref 83]) rfl ?_
  refine w_as H (t := 0) (j := 1) (u := .int (40 : Int32)) (0, 7, [(1, .int (40 : Int32)), (0, .int (10 : Int32))], some (.int (0 : Int32))) (pc' := 28) (L' := [(0, .ref 82)]) h_m71 (z_at.mk 1 rfl rfl) rfl rfl (w_ui _ _ (by decide)) rfl rfl rfl rfl ?_
  clear H m; intro m H
  refine w_p h_m71 1 (pc' := 29) (L' := [(0, .ref 82)]) (st' := [.ref 82]) rfl ?_
  refine w_gf H (pc' := 32) (L' := [(0, .ref 82)]) h_m71 (z_at.mk 3 rfl rfl) rfl (u := .ref 83) rfl rfl rfl ?_
  refine w_p h_m71 2 (pc' := 35) (L' := [(0, .ref 82)]) (st' := [.int (12 : Int32), .int (2 : Int32), .ref 83]) rfl ?_
  refine w_as H (t := 0) (j := 2) (u := .int (12 : Int32)) (0, 7, [(2, .int (12 : Int32)), (1, .int (40 : Int32)), (0, .int (10 : Int32))], some (.int (0 : Int32))) (pc' := 36) (L' := [(0, .ref 82)]) h_m71 (z_at.mk 1 rfl rfl) rfl rfl (w_ui _ _ (by decide)) rfl rfl rfl rfl ?_
  clear H m; intro m H
  refine w_p h_m71 1 (pc' := 37) (L' := [(0, .ref 82)]) (st' := [.ref 82]) rfl ?_
  refine w_gf H (pc' := 40) (L' := [(0, .ref 82)]) h_m71 (z_at.mk 3 rfl rfl) rfl (u := .ref 83) rfl rfl rfl ?_
  refine w_p h_m71 2 (pc' := 42) (L' := [(0, .ref 82)]) (st' := [.int (0 : Int32), .int (3 : Int32), .ref 83]) rfl ?_
  refine w_as H (t := 0) (j := 3) (u := .int (0 : Int32)) (0, 7, [(3, .int (0 : Int32)), (2, .int (12 : Int32)), (1, .int (40 : Int32)), (0, .int (10 : Int32))], some (.int (0 : Int32))) (pc' := 43) (L' := [(0, .ref 82)]) h_m71 (z_at.mk 1 rfl rfl) rfl rfl (w_ui _ _ (by decide)) rfl rfl rfl rfl ?_
  clear H m; intro m H
  refine w_p h_m71 1 (pc' := 44) (L' := [(0, .ref 82)]) (st' := [.ref 82]) rfl ?_
  refine w_gf H (pc' := 47) (L' := [(0, .ref 82)]) h_m71 (z_at.mk 3 rfl rfl) rfl (u := .ref 83) rfl rfl rfl ?_
  refine w_p h_m71 2 (pc' := 49) (L' := [(0, .ref 82)]) (st' := [.int (1 : Int32), .int (4 : Int32), .ref 83]) rfl ?_
  refine w_as H (t := 0) (j := 4) (u := .int (1 : Int32)) (0, 7, [(4, .int (1 : Int32)), (3, .int (0 : Int32)), (2, .int (12 : Int32)), (1, .int (40 : Int32)), (0, .int (10 : Int32))], some (.int (0 : Int32))) (pc' := 50) (L' := [(0, .ref 82)]) h_m71 (z_at.mk 1 rfl rfl) rfl rfl (w_ui _ _ (by decide)) rfl rfl rfl rfl ?_
  clear H m; intro m H
  refine w_p h_m71 1 (pc' := 51) (L' := [(0, .ref 82)]) (st' := [.ref 82]) rfl ?_
  refine w_gf H (pc' := 54) (L' := [(0, .ref 82)]) h_m71 (z_at.mk 3 rfl rfl) rfl (u := .ref 83) rfl rfl rfl ?_
  refine w_p h_m71 2 (pc' := 56) (L' := [(0, .ref 82)]) (st' := [.int (1 : Int32), .int (5 : Int32), .ref 83]) rfl ?_
  refine w_as H (t := 0) (j := 5) (u := .int (1 : Int32)) (0, 7, [(5, .int (1 : Int32)), (4, .int (1 : Int32)), (3, .int (0 : Int32)), (2, .int (12 : Int32)), (1, .int (40 : Int32)), (0, .int (10 : Int32))], some (.int (0 : Int32))) (pc' := 57) (L' := [(0, .ref 82)]) h_m71 (z_at.mk 1 rfl rfl) rfl rfl (w_ui _ _ (by decide)) rfl rfl rfl rfl ?_
  clear H m; intro m H
  refine w_p h_m71 1 (pc' := 58) (L' := [(0, .ref 82)]) (st' := [.ref 82]) rfl ?_
  refine w_gf H (pc' := 61) (L' := [(0, .ref 82)]) h_m71 (z_at.mk 3 rfl rfl) rfl (u := .ref 83) rfl rfl rfl ?_
  refine w_p h_m71 2 (pc' := 66) (L' := [(0, .ref 82)]) (st' := [.int (1024 : Int32), .int (6 : Int32), .ref 83]) rfl ?_
  refine w_as H (t := 0) (j := 6) (u := .int (1024 : Int32)) (0, 7, [(6, .int (1024 : Int32)), (5, .int (1 : Int32)), (4, .int (1 : Int32)), (3, .int (0 : Int32)), (2, .int (12 : Int32)), (1, .int (40 : Int32)), (0, .int (10 : Int32))], some (.int (0 : Int32))) (pc' := 67) (L' := [(0, .ref 82)]) h_m71 (z_at.mk 1 rfl rfl) rfl rfl (w_ui _ _ (by decide)) rfl rfl rfl rfl ?_
  clear H m; intro m H
  refine w_rv h_m71 (z_at.mk 1 rfl rfl) rfl ?_
  show z_W 997 19 12 [(0, .ref 81), (1, .ref 74)] [.ref 82, .ref 81] m _
  refine w_pf H (12, 18, [(1, .ref 82), (0, .null), (2, .int (0 : Int32)), (3, .null), (4, .null), (5, .null), (6, .null), (7, .null), (8, .int (0 : Int32)), (9, .long (0 : Int64)), (10, .int (0 : Int32)), (11, .int (0 : Int32)), (12, .int (0 : Int32)), (13, .int (0 : Int32)), (14, .int (0 : Int32)), (15, .int (0 : Int32)), (16, .null), (17, .null)], none) (pc' := 15) (L' := [(0, .ref 81), (1, .ref 74)]) h_m19 (z_at.mk 3 rfl rfl) rfl (by decide) rfl (Or.inr ⟨rfl, rfl, by decide⟩) rfl rfl rfl ?_
  clear H m; intro m H
  refine w_p h_m19 2 (pc' := 17) (L' := [(0, .ref 81), (1, .ref 74)]) (st' := [.int (0 : Int32), .ref 81]) rfl ?_
  refine w_pf H (12, 18, [(2, .int (0 : Int32)), (1, .ref 82), (0, .null), (3, .null), (4, .null), (5, .null), (6, .null), (7, .null), (8, .int (0 : Int32)), (9, .long (0 : Int64)), (10, .int (0 : Int32)), (11, .int (0 : Int32)), (12, .int (0 : Int32)), (13, .int (0 : Int32)), (14, .int (0 : Int32)), (15, .int (0 : Int32)), (16, .null), (17, .null)], none) (pc' := 20) (L' := [(0, .ref 81), (1, .ref 74)]) h_m19 (z_at.mk 3 rfl rfl) rfl (by decide) rfl (Or.inl rfl) rfl rfl rfl ?_
  clear H m; intro m H
  refine w_p h_m19 2 (pc' := 24) (L' := [(0, .ref 81), (1, .ref 74)]) (st' := [.int (181 : Int32), .ref 81]) rfl ?_
  refine w_na H (ti := 0) (n := 181) (.int (0 : Int32)) (N' := 85) (S' := 2418) (pc' := 26) (L' := [(0, .ref 81), (1, .ref 74)]) h_m19 (z_at.mk 2 rfl rfl) rfl (by decide) rfl (by decide) rfl rfl rfl rfl rfl ?_
  clear H m; intro m H
  refine w_pf H (12, 18, [(3, .ref 84), (2, .int (0 : Int32)), (1, .ref 82), (0, .null), (4, .null), (5, .null), (6, .null), (7, .null), (8, .int (0 : Int32)), (9, .long (0 : Int64)), (10, .int (0 : Int32)), (11, .int (0 : Int32)), (12, .int (0 : Int32)), (13, .int (0 : Int32)), (14, .int (0 : Int32)), (15, .int (0 : Int32)), (16, .null), (17, .null)], none) (pc' := 29) (L' := [(0, .ref 81), (1, .ref 74)]) h_m19 (z_at.mk 3 rfl rfl) rfl (by decide) rfl (Or.inr ⟨rfl, rfl, by decide⟩) rfl rfl rfl ?_
  clear H m; intro m H
  refine w_p h_m19 2 (pc' := 33) (L' := [(0, .ref 81), (1, .ref 74)]) (st' := [.int (181 : Int32), .ref 81]) rfl ?_
  refine w_na H (ti := 0) (n := 181) (.int (0 : Int32)) (N' := 86) (S' := 2599) (pc' := 35) (L' := [(0, .ref 81), (1, .ref 74)]) h_m19 (z_at.mk 2 rfl rfl) rfl (by decide) rfl (by decide) rfl rfl rfl rfl rfl ?_
  clear H m; intro m H
  refine w_pf H (12, 18, [(4, .ref 85), (3, .ref 84), (2, .int (0 : Int32)), (1, .ref 82), (0, .null), (5, .null), (6, .null), (7, .null), (8, .int (0 : Int32)), (9, .long (0 : Int64)), (10, .int (0 : Int32)), (11, .int (0 : Int32)), (12, .int (0 : Int32)), (13, .int (0 : Int32)), (14, .int (0 : Int32)), (15, .int (0 : Int32)), (16, .null), (17, .null)], none) (pc' := 38) (L' := [(0, .ref 81), (1, .ref 74)]) h_m19 (z_at.mk 3 rfl rfl) rfl (by decide) rfl (Or.inr ⟨rfl, rfl, by decide⟩) rfl rfl rfl ?_
  clear H m; intro m H
  refine w_p h_m19 2 (pc' := 42) (L' := [(0, .ref 81), (1, .ref 74)]) (st' := [.int (181 : Int32), .ref 81]) rfl ?_
  refine w_na H (ti := 0) (n := 181) (.int (0 : Int32)) (N' := 87) (S' := 2780) (pc' := 44) (L' := [(0, .ref 81), (1, .ref 74)]) h_m19 (z_at.mk 2 rfl rfl) rfl (by decide) rfl (by decide) rfl rfl rfl rfl rfl ?_
  clear H m; intro m H
  refine w_pf H (12, 18, [(5, .ref 86), (4, .ref 85), (3, .ref 84), (2, .int (0 : Int32)), (1, .ref 82), (0, .null), (6, .null), (7, .null), (8, .int (0 : Int32)), (9, .long (0 : Int64)), (10, .int (0 : Int32)), (11, .int (0 : Int32)), (12, .int (0 : Int32)), (13, .int (0 : Int32)), (14, .int (0 : Int32)), (15, .int (0 : Int32)), (16, .null), (17, .null)], none) (pc' := 47) (L' := [(0, .ref 81), (1, .ref 74)]) h_m19 (z_at.mk 3 rfl rfl) rfl (by decide) rfl (Or.inr ⟨rfl, rfl, by decide⟩) rfl rfl rfl ?_
  clear H m; intro m H
  refine w_p h_m19 2 (pc' := 51) (L' := [(0, .ref 81), (1, .ref 74)]) (st' := [.int (181 : Int32), .ref 81]) rfl ?_
  refine w_na H (ti := 0) (n := 181) (.int (0 : Int32)) (N' := 88) (S' := 2961) (pc' := 53) (L' := [(0, .ref 81), (1, .ref 74)]) h_m19 (z_at.mk 2 rfl rfl) rfl (by decide) rfl (by decide) rfl rfl rfl rfl rfl ?_
  clear H m; intro m H
  refine w_pf H (12, 18, [(6, .ref 87), (5, .ref 86), (4, .ref 85), (3, .ref 84), (2, .int (0 : Int32)), (1, .ref 82), (0, .null), (7, .null), (8, .int (0 : Int32)), (9, .long (0 : Int64)), (10, .int (0 : Int32)), (11, .int (0 : Int32)), (12, .int (0 : Int32)), (13, .int (0 : Int32)), (14, .int (0 : Int32)), (15, .int (0 : Int32)), (16, .null), (17, .null)], none) (pc' := 56) (L' := [(0, .ref 81), (1, .ref 74)]) h_m19 (z_at.mk 3 rfl rfl) rfl (by decide) rfl (Or.inr ⟨rfl, rfl, by decide⟩) rfl rfl rfl ?_
  clear H m; intro m H
  refine w_p h_m19 2 (pc' := 60) (L' := [(0, .ref 81), (1, .ref 74)]) (st' := [.int (181 : Int32), .ref 81]) rfl ?_
  refine w_na H (ti := 1) (n := 181) (.long (0 : Int64)) (N' := 89) (S' := 3142) (pc' := 62) (L' := [(0, .ref 81), (1, .ref 74)]) h_m19 (z_at.mk 2 rfl rfl) rfl (by decide) rfl (by decide) rfl rfl rfl rfl rfl ?_
  clear H m; intro m H
  refine w_pf H (12, 18, [(7, .ref 88), (6, .ref 87), (5, .ref 86), (4, .ref 85), (3, .ref 84), (2, .int (0 : Int32)), (1, .ref 82), (0, .null), (8, .int (0 : Int32)), (9, .long (0 : Int64)), (10, .int (0 : Int32)), (11, .int (0 : Int32)), (12, .int (0 : Int32)), (13, .int (0 : Int32)), (14, .int (0 : Int32)), (15, .int (0 : Int32)), (16, .null), (17, .null)], none) (pc' := 65) (L' := [(0, .ref 81), (1, .ref 74)]) h_m19 (z_at.mk 3 rfl rfl) rfl (by decide) rfl (Or.inr ⟨rfl, rfl, by decide⟩) rfl rfl rfl ?_
  clear H m; intro m H
  refine w_p h_m19 2 (pc' := 67) (L' := [(0, .ref 81), (1, .ref 74)]) (st' := [.int (0 : Int32), .ref 81]) rfl ?_
  refine w_pf H (12, 18, [(8, .int (0 : Int32)), (7, .ref 88), (6, .ref 87), (5, .ref 86), (4, .ref 85), (3, .ref 84), (2, .int (0 : Int32)), (1, .ref 82), (0, .null), (9, .long (0 : Int64)), (10, .int (0 : Int32)), (11, .int (0 : Int32)), (12, .int (0 : Int32)), (13, .int (0 : Int32)), (14, .int (0 : Int32)), (15, .int (0 : Int32)), (16, .null), (17, .null)], none) (pc' := 70) (L' := [(0, .ref 81), (1, .ref 74)]) h_m19 (z_at.mk 3 rfl rfl) rfl (by decide) rfl (Or.inl rfl) rfl rfl rfl ?_
  clear H m; intro m H
  refine w_p h_m19 2 (pc' := 72) (L' := [(0, .ref 81), (1, .ref 74)]) (st' := [.long (0 : Int64), .ref 81]) rfl ?_
  refine w_pf H (12, 18, [(9, .long (0 : Int64)), (8, .int (0 : Int32)), (7, .ref 88), (6, .ref 87), (5, .ref 86), (4, .ref 85), (3, .ref 84), (2, .int (0 : Int32)), (1, .ref 82), (0, .null), (10, .int (0 : Int32)), (11, .int (0 : Int32)), (12, .int (0 : Int32)), (13, .int (0 : Int32)), (14, .int (0 : Int32)), (15, .int (0 : Int32)), (16, .null), (17, .null)], none) (pc' := 75) (L' := [(0, .ref 81), (1, .ref 74)]) h_m19 (z_at.mk 3 rfl rfl) rfl (by decide) rfl (Or.inl rfl) rfl rfl rfl ?_
  clear H m; intro m H
  refine w_p h_m19 2 (pc' := 77) (L' := [(0, .ref 81), (1, .ref 74)]) (st' := [.int (0 : Int32), .ref 81]) rfl ?_
  refine w_pf H (12, 18, [(10, .int (0 : Int32)), (9, .long (0 : Int64)), (8, .int (0 : Int32)), (7, .ref 88), (6, .ref 87), (5, .ref 86), (4, .ref 85), (3, .ref 84), (2, .int (0 : Int32)), (1, .ref 82), (0, .null), (11, .int (0 : Int32)), (12, .int (0 : Int32)), (13, .int (0 : Int32)), (14, .int (0 : Int32)), (15, .int (0 : Int32)), (16, .null), (17, .null)], none) (pc' := 80) (L' := [(0, .ref 81), (1, .ref 74)]) h_m19 (z_at.mk 3 rfl rfl) rfl (by decide) rfl (Or.inl rfl) rfl rfl rfl ?_
  clear H m; intro m H
  refine w_p h_m19 2 (pc' := 82) (L' := [(0, .ref 81), (1, .ref 74)]) (st' := [.int (0 : Int32), .ref 81]) rfl ?_
  refine w_pf H (12, 18, [(11, .int (0 : Int32)), (10, .int (0 : Int32)), (9, .long (0 : Int64)), (8, .int (0 : Int32)), (7, .ref 88), (6, .ref 87), (5, .ref 86), (4, .ref 85), (3, .ref 84), (2, .int (0 : Int32)), (1, .ref 82), (0, .null), (12, .int (0 : Int32)), (13, .int (0 : Int32)), (14, .int (0 : Int32)), (15, .int (0 : Int32)), (16, .null), (17, .null)], none) (pc' := 85) (L' := [(0, .ref 81), (1, .ref 74)]) h_m19 (z_at.mk 3 rfl rfl) rfl (by decide) rfl (Or.inl rfl) rfl rfl rfl ?_
  clear H m; intro m H
  refine w_p h_m19 2 (pc' := 87) (L' := [(0, .ref 81), (1, .ref 74)]) (st' := [.int (0 : Int32), .ref 81]) rfl ?_
  refine w_pf H (12, 18, [(12, .int (0 : Int32)), (11, .int (0 : Int32)), (10, .int (0 : Int32)), (9, .long (0 : Int64)), (8, .int (0 : Int32)), (7, .ref 88), (6, .ref 87), (5, .ref 86), (4, .ref 85), (3, .ref 84), (2, .int (0 : Int32)), (1, .ref 82), (0, .null), (13, .int (0 : Int32)), (14, .int (0 : Int32)), (15, .int (0 : Int32)), (16, .null), (17, .null)], none) (pc' := 90) (L' := [(0, .ref 81), (1, .ref 74)]) h_m19 (z_at.mk 3 rfl rfl) rfl (by decide) rfl (Or.inl rfl) rfl rfl rfl ?_
  clear H m; intro m H
  refine w_p h_m19 2 (pc' := 92) (L' := [(0, .ref 81), (1, .ref 74)]) (st' := [.int (0 : Int32), .ref 81]) rfl ?_
  refine w_pf H (12, 18, [(13, .int (0 : Int32)), (12, .int (0 : Int32)), (11, .int (0 : Int32)), (10, .int (0 : Int32)), (9, .long (0 : Int64)), (8, .int (0 : Int32)), (7, .ref 88), (6, .ref 87), (5, .ref 86), (4, .ref 85), (3, .ref 84), (2, .int (0 : Int32)), (1, .ref 82), (0, .null), (14, .int (0 : Int32)), (15, .int (0 : Int32)), (16, .null), (17, .null)], none) (pc' := 95) (L' := [(0, .ref 81), (1, .ref 74)]) h_m19 (z_at.mk 3 rfl rfl) rfl (by decide) rfl (Or.inl rfl) rfl rfl rfl ?_
  clear H m; intro m H
  refine w_p h_m19 2 (pc' := 97) (L' := [(0, .ref 81), (1, .ref 74)]) (st' := [.int (0 : Int32), .ref 81]) rfl ?_
  refine w_pf H (12, 18, [(14, .int (0 : Int32)), (13, .int (0 : Int32)), (12, .int (0 : Int32)), (11, .int (0 : Int32)), (10, .int (0 : Int32)), (9, .long (0 : Int64)), (8, .int (0 : Int32)), (7, .ref 88), (6, .ref 87), (5, .ref 86), (4, .ref 85), (3, .ref 84), (2, .int (0 : Int32)), (1, .ref 82), (0, .null), (15, .int (0 : Int32)), (16, .null), (17, .null)], none) (pc' := 100) (L' := [(0, .ref 81), (1, .ref 74)]) h_m19 (z_at.mk 3 rfl rfl) rfl (by decide) rfl (Or.inl rfl) rfl rfl rfl ?_
  clear H m; intro m H
  refine w_p h_m19 2 (pc' := 102) (L' := [(0, .ref 81), (1, .ref 74)]) (st' := [.int (0 : Int32), .ref 81]) rfl ?_
  refine w_pf H (12, 18, [(15, .int (0 : Int32)), (14, .int (0 : Int32)), (13, .int (0 : Int32)), (12, .int (0 : Int32)), (11, .int (0 : Int32)), (10, .int (0 : Int32)), (9, .long (0 : Int64)), (8, .int (0 : Int32)), (7, .ref 88), (6, .ref 87), (5, .ref 86), (4, .ref 85), (3, .ref 84), (2, .int (0 : Int32)), (1, .ref 82), (0, .null), (16, .null), (17, .null)], none) (pc' := 105) (L' := [(0, .ref 81), (1, .ref 74)]) h_m19 (z_at.mk 3 rfl rfl) rfl (by decide) rfl (Or.inl rfl) rfl rfl rfl ?_
  clear H m; intro m H
  refine w_p h_m19 1 (pc' := 106) (L' := [(0, .ref 81), (1, .ref 74)]) (st' := [.ref 81]) rfl ?_
  refine w_nw H (11, 2, [(0, .null), (1, .int (0 : Int32))], none) (N' := 90) (S' := 3144) (pc' := 109) (L' := [(0, .ref 81), (1, .ref 74)]) h_m19 (z_at.mk 3 rfl rfl) rfl rfl rfl rfl rfl rfl ?_
  clear H m; intro m H
  refine w_p h_m19 2 (pc' := 113) (L' := [(0, .ref 81), (1, .ref 74)]) (st' := [.int (169 : Int32), .ref 89, .ref 89, .ref 81]) rfl ?_
  refine w_cs (As := [.ref 89, .int (169 : Int32)]) (rest := [.ref 89, .ref 81]) (j := 13) (L0 := [(0, .ref 89), (1, .int (169 : Int32))]) (pc' := 116) (L' := [(0, .ref 81), (1, .ref 74)]) h_m19 (z_at.mk 3 rfl rfl) (Or.inr ⟨rfl, rfl⟩) rfl rfl rfl rfl rfl ?_
  refine w_p h_m13 4 (pc' := 6) (L' := [(0, .ref 89), (1, .int (169 : Int32))]) (st' := [.int (0 : Int32), .ref 89]) rfl ?_
  refine w_pf H (11, 2, [(1, .int (0 : Int32)), (0, .null)], none) (pc' := 9) (L' := [(0, .ref 89), (1, .int (169 : Int32))]) h_m13 (z_at.mk 3 rfl rfl) rfl (by decide) rfl (Or.inl rfl) rfl rfl rfl ?_
  clear H m; intro m H
  refine w_p h_m13 3 (pc' := 12) (L' := [(0, .ref 89), (1, .int (169 : Int32))]) (st' := [.int (169 : Int32), .int (0 : Int32), .ref 89]) rfl ?_
  refine w_cs (As := [.int (0 : Int32), .int (169 : Int32)]) (rest := [.ref 89]) (j := 289) (L0 := [(0, .int (0 : Int32)), (1, .int (169 : Int32))]) (pc' := 15) (L' := [(0, .ref 89), (1, .int (169 : Int32))]) h_m13 (z_at.mk 3 rfl rfl) (Or.inl ⟨rfl, rfl⟩) rfl rfl rfl rfl rfl ?_
  refine w_p h_m289 4 (pc' := 10) (L' := []) (st' := [.int (169 : Int32)]) rfl ?_
  refine w_ri h_m289 (z_at.mk 1 rfl rfl) rfl rfl ?_
  show z_W 996 13 15 [(0, .ref 89), (1, .int (169 : Int32))] [.int (169 : Int32), .ref 89] m _
  refine w_na H (ti := 0) (n := 169) (.int (0 : Int32)) (N' := 91) (S' := 3313) (pc' := 17) (L' := [(0, .ref 89), (1, .int (169 : Int32))]) h_m13 (z_at.mk 2 rfl rfl) rfl (by decide) rfl (by decide) rfl rfl rfl rfl rfl ?_
  clear H m; intro m H
  refine w_pf H (11, 2, [(0, .ref 90), (1, .int (0 : Int32))], none) (pc' := 20) (L' := [(0, .ref 89), (1, .int (169 : Int32))]) h_m13 (z_at.mk 3 rfl rfl) rfl (by decide) rfl (Or.inr ⟨rfl, rfl, by decide⟩) rfl rfl rfl ?_
  clear H m; intro m H
  refine w_rv h_m13 (z_at.mk 1 rfl rfl) rfl ?_
  show z_W 997 19 116 [(0, .ref 81), (1, .ref 74)] [.ref 89, .ref 81] m _
  refine w_pf H (12, 18, [(16, .ref 89), (15, .int (0 : Int32)), (14, .int (0 : Int32)), (13, .int (0 : Int32)), (12, .int (0 : Int32)), (11, .int (0 : Int32)), (10, .int (0 : Int32)), (9, .long (0 : Int64)), (8, .int (0 : Int32)), (7, .ref 88), (6, .ref 87), (5, .ref 86), (4, .ref 85), (3, .ref 84), (2, .int (0 : Int32)), (1, .ref 82), (0, .null), (17, .null)], none) (pc' := 119) (L' := [(0, .ref 81), (1, .ref 74)]) h_m19 (z_at.mk 3 rfl rfl) rfl (by decide) rfl (Or.inr ⟨rfl, rfl, by decide⟩) rfl rfl rfl ?_
  clear H m; intro m H
  refine w_p h_m19 1 (pc' := 120) (L' := [(0, .ref 81), (1, .ref 74)]) (st' := [.ref 81]) rfl ?_
  refine w_nw H (11, 2, [(0, .null), (1, .int (0 : Int32))], none) (N' := 92) (S' := 3315) (pc' := 123) (L' := [(0, .ref 81), (1, .ref 74)]) h_m19 (z_at.mk 3 rfl rfl) rfl rfl rfl rfl rfl rfl ?_
  clear H m; intro m H
  refine w_p h_m19 2 (pc' := 127) (L' := [(0, .ref 81), (1, .ref 74)]) (st' := [.int (169 : Int32), .ref 91, .ref 91, .ref 81]) rfl ?_
  refine w_cs (As := [.ref 91, .int (169 : Int32)]) (rest := [.ref 91, .ref 81]) (j := 13) (L0 := [(0, .ref 91), (1, .int (169 : Int32))]) (pc' := 130) (L' := [(0, .ref 81), (1, .ref 74)]) h_m19 (z_at.mk 3 rfl rfl) (Or.inr ⟨rfl, rfl⟩) rfl rfl rfl rfl rfl ?_
  refine w_p h_m13 4 (pc' := 6) (L' := [(0, .ref 91), (1, .int (169 : Int32))]) (st' := [.int (0 : Int32), .ref 91]) rfl ?_
  refine w_pf H (11, 2, [(1, .int (0 : Int32)), (0, .null)], none) (pc' := 9) (L' := [(0, .ref 91), (1, .int (169 : Int32))]) h_m13 (z_at.mk 3 rfl rfl) rfl (by decide) rfl (Or.inl rfl) rfl rfl rfl ?_
  clear H m; intro m H
  refine w_p h_m13 3 (pc' := 12) (L' := [(0, .ref 91), (1, .int (169 : Int32))]) (st' := [.int (169 : Int32), .int (0 : Int32), .ref 91]) rfl ?_
  refine w_cs (As := [.int (0 : Int32), .int (169 : Int32)]) (rest := [.ref 91]) (j := 289) (L0 := [(0, .int (0 : Int32)), (1, .int (169 : Int32))]) (pc' := 15) (L' := [(0, .ref 91), (1, .int (169 : Int32))]) h_m13 (z_at.mk 3 rfl rfl) (Or.inl ⟨rfl, rfl⟩) rfl rfl rfl rfl rfl ?_
  refine w_p h_m289 4 (pc' := 10) (L' := []) (st' := [.int (169 : Int32)]) rfl ?_
  refine w_ri h_m289 (z_at.mk 1 rfl rfl) rfl rfl ?_
  show z_W 996 13 15 [(0, .ref 91), (1, .int (169 : Int32))] [.int (169 : Int32), .ref 91] m _
  refine w_na H (ti := 0) (n := 169) (.int (0 : Int32)) (N' := 93) (S' := 3484) (pc' := 17) (L' := [(0, .ref 91), (1, .int (169 : Int32))]) h_m13 (z_at.mk 2 rfl rfl) rfl (by decide) rfl (by decide) rfl rfl rfl rfl rfl ?_
  clear H m; intro m H
  refine w_pf H (11, 2, [(0, .ref 92), (1, .int (0 : Int32))], none) (pc' := 20) (L' := [(0, .ref 91), (1, .int (169 : Int32))]) h_m13 (z_at.mk 3 rfl rfl) rfl (by decide) rfl (Or.inr ⟨rfl, rfl, by decide⟩) rfl rfl rfl ?_
  clear H m; intro m H
  refine w_rv h_m13 (z_at.mk 1 rfl rfl) rfl ?_
  show z_W 997 19 130 [(0, .ref 81), (1, .ref 74)] [.ref 91, .ref 81] m _
  refine w_pf H (12, 18, [(17, .ref 91), (16, .ref 89), (15, .int (0 : Int32)), (14, .int (0 : Int32)), (13, .int (0 : Int32)), (12, .int (0 : Int32)), (11, .int (0 : Int32)), (10, .int (0 : Int32)), (9, .long (0 : Int64)), (8, .int (0 : Int32)), (7, .ref 88), (6, .ref 87), (5, .ref 86), (4, .ref 85), (3, .ref 84), (2, .int (0 : Int32)), (1, .ref 82), (0, .null)], none) (pc' := 133) (L' := [(0, .ref 81), (1, .ref 74)]) h_m19 (z_at.mk 3 rfl rfl) rfl (by decide) rfl (Or.inr ⟨rfl, rfl, by decide⟩) rfl rfl rfl ?_
  clear H m; intro m H
  refine w_p h_m19 2 (pc' := 135) (L' := [(0, .ref 81), (1, .ref 74)]) (st' := [.ref 74, .ref 81]) rfl ?_
  refine w_pf H (12, 18, [(0, .ref 74), (17, .ref 91), (16, .ref 89), (15, .int (0 : Int32)), (14, .int (0 : Int32)), (13, .int (0 : Int32)), (12, .int (0 : Int32)), (11, .int (0 : Int32)), (10, .int (0 : Int32)), (9, .long (0 : Int64)), (8, .int (0 : Int32)), (7, .ref 88), (6, .ref 87), (5, .ref 86), (4, .ref 85), (3, .ref 84), (2, .int (0 : Int32)), (1, .ref 82)], none) (pc' := 138) (L' := [(0, .ref 81), (1, .ref 74)]) h_m19 (z_at.mk 3 rfl rfl) rfl (by decide) rfl (Or.inr ⟨rfl, rfl, by decide⟩) rfl rfl rfl ?_
  clear H m; intro m H
  refine w_rv h_m19 (z_at.mk 1 rfl rfl) rfl ?_
  show z_W 998 77 27 [(0, .ref 73)] [.ref 81, .ref 73] m _
  refine w_pf H (17, 5, [(1, .ref 81), (0, .ref 74), (2, .null), (3, .null), (4, .null)], none) (pc' := 30) (L' := [(0, .ref 73)]) h_m77 (z_at.mk 3 rfl rfl) rfl (by decide) rfl (Or.inr ⟨rfl, rfl, by decide⟩) rfl rfl rfl ?_
  clear H m; intro m H
  refine w_p h_m77 1 (pc' := 31) (L' := [(0, .ref 73)]) (st' := [.ref 73]) rfl ?_
  refine w_nw H (13, 3, [(0, .null), (1, .null), (2, .int (0 : Int32))], none) (N' := 94) (S' := 3487) (pc' := 34) (L' := [(0, .ref 73)]) h_m77 (z_at.mk 3 rfl rfl) rfl rfl rfl rfl rfl rfl ?_
  clear H m; intro m H
  refine w_p h_m77 1 (pc' := 35) (L' := [(0, .ref 73)]) (st' := [.ref 93, .ref 93, .ref 73]) rfl ?_
  refine w_cs (As := [.ref 93]) (rest := [.ref 93, .ref 73]) (j := 45) (L0 := [(0, .ref 93)]) (pc' := 38) (L' := [(0, .ref 73)]) h_m77 (z_at.mk 3 rfl rfl) (Or.inr ⟨rfl, rfl⟩) rfl rfl rfl rfl rfl ?_
  refine w_p h_m45 4 (pc' := 7) (L' := [(0, .ref 93)]) (st' := [.int (60 : Int32), .ref 93]) rfl ?_
  refine w_na H (ti := 0) (n := 60) (.int (0 : Int32)) (N' := 95) (S' := 3547) (pc' := 9) (L' := [(0, .ref 93)]) h_m45 (z_at.mk 2 rfl rfl) rfl (by decide) rfl (by decide) rfl rfl rfl rfl rfl ?_
  clear H m; intro m H
  refine w_pf H (13, 3, [(0, .ref 94), (1, .null), (2, .int (0 : Int32))], none) (pc' := 12) (L' := [(0, .ref 93)]) h_m45 (z_at.mk 3 rfl rfl) rfl (by decide) rfl (Or.inr ⟨rfl, rfl, by decide⟩) rfl rfl rfl ?_
  clear H m; intro m H
  refine w_p h_m45 2 (pc' := 15) (L' := [(0, .ref 93)]) (st' := [.int (60 : Int32), .ref 93]) rfl ?_
  refine w_na H (ti := 1) (n := 60) (.long (0 : Int64)) (N' := 96) (S' := 3607) (pc' := 17) (L' := [(0, .ref 93)]) h_m45 (z_at.mk 2 rfl rfl) rfl (by decide) rfl (by decide) rfl rfl rfl rfl rfl ?_
  clear H m; intro m H
  refine w_pf H (13, 3, [(1, .ref 95), (0, .ref 94), (2, .int (0 : Int32))], none) (pc' := 20) (L' := [(0, .ref 93)]) h_m45 (z_at.mk 3 rfl rfl) rfl (by decide) rfl (Or.inr ⟨rfl, rfl, by decide⟩) rfl rfl rfl ?_
  clear H m; intro m H
  refine w_p h_m45 2 (pc' := 22) (L' := [(0, .ref 93)]) (st' := [.int (0 : Int32), .ref 93]) rfl ?_
  refine w_pf H (13, 3, [(2, .int (0 : Int32)), (1, .ref 95), (0, .ref 94)], none) (pc' := 25) (L' := [(0, .ref 93)]) h_m45 (z_at.mk 3 rfl rfl) rfl (by decide) rfl (Or.inl rfl) rfl rfl rfl ?_
  clear H m; intro m H
  refine w_rv h_m45 (z_at.mk 1 rfl rfl) rfl ?_
  show z_W 998 77 38 [(0, .ref 73)] [.ref 93, .ref 73] m _
  refine w_pf H (17, 5, [(2, .ref 93), (1, .ref 81), (0, .ref 74), (3, .null), (4, .null)], none) (pc' := 41) (L' := [(0, .ref 73)]) h_m77 (z_at.mk 3 rfl rfl) rfl (by decide) rfl (Or.inr ⟨rfl, rfl, by decide⟩) rfl rfl rfl ?_
  clear H m; intro m H
  refine w_p h_m77 1 (pc' := 42) (L' := [(0, .ref 73)]) (st' := [.ref 73]) rfl ?_
  refine w_nw H (11, 2, [(0, .null), (1, .int (0 : Int32))], none) (N' := 97) (S' := 3609) (pc' := 45) (L' := [(0, .ref 73)]) h_m77 (z_at.mk 3 rfl rfl) rfl rfl rfl rfl rfl rfl ?_
  clear H m; intro m H
  refine w_p h_m77 2 (pc' := 48) (L' := [(0, .ref 73)]) (st' := [.int (10 : Int32), .ref 96, .ref 96, .ref 73]) rfl ?_
  refine w_cs (As := [.ref 96, .int (10 : Int32)]) (rest := [.ref 96, .ref 73]) (j := 13) (L0 := [(0, .ref 96), (1, .int (10 : Int32))]) (pc' := 51) (L' := [(0, .ref 73)]) h_m77 (z_at.mk 3 rfl rfl) (Or.inr ⟨rfl, rfl⟩) rfl rfl rfl rfl rfl ?_
  refine w_p h_m13 4 (pc' := 6) (L' := [(0, .ref 96), (1, .int (10 : Int32))]) (st' := [.int (0 : Int32), .ref 96]) rfl ?_
  refine w_pf H (11, 2, [(1, .int (0 : Int32)), (0, .null)], none) (pc' := 9) (L' := [(0, .ref 96), (1, .int (10 : Int32))]) h_m13 (z_at.mk 3 rfl rfl) rfl (by decide) rfl (Or.inl rfl) rfl rfl rfl ?_
  clear H m; intro m H
  refine w_p h_m13 3 (pc' := 12) (L' := [(0, .ref 96), (1, .int (10 : Int32))]) (st' := [.int (10 : Int32), .int (0 : Int32), .ref 96]) rfl ?_
  refine w_cs (As := [.int (0 : Int32), .int (10 : Int32)]) (rest := [.ref 96]) (j := 289) (L0 := [(0, .int (0 : Int32)), (1, .int (10 : Int32))]) (pc' := 15) (L' := [(0, .ref 96), (1, .int (10 : Int32))]) h_m13 (z_at.mk 3 rfl rfl) (Or.inl ⟨rfl, rfl⟩) rfl rfl rfl rfl rfl ?_
  refine w_p h_m289 4 (pc' := 10) (L' := []) (st' := [.int (10 : Int32)]) rfl ?_
  refine w_ri h_m289 (z_at.mk 1 rfl rfl) rfl rfl ?_
  show z_W 997 13 15 [(0, .ref 96), (1, .int (10 : Int32))] [.int (10 : Int32), .ref 96] m _
  refine w_na H (ti := 0) (n := 10) (.int (0 : Int32)) (N' := 98) (S' := 3619) (pc' := 17) (L' := [(0, .ref 96), (1, .int (10 : Int32))]) h_m13 (z_at.mk 2 rfl rfl) rfl (by decide) rfl (by decide) rfl rfl rfl rfl rfl ?_
  clear H m; intro m H
  refine w_pf H (11, 2, [(0, .ref 97), (1, .int (0 : Int32))], none) (pc' := 20) (L' := [(0, .ref 96), (1, .int (10 : Int32))]) h_m13 (z_at.mk 3 rfl rfl) rfl (by decide) rfl (Or.inr ⟨rfl, rfl, by decide⟩) rfl rfl rfl ?_
  clear H m; intro m H
  refine w_rv h_m13 (z_at.mk 1 rfl rfl) rfl ?_
  show z_W 998 77 51 [(0, .ref 73)] [.ref 96, .ref 73] m _
  refine w_pf H (17, 5, [(3, .ref 96), (2, .ref 93), (1, .ref 81), (0, .ref 74), (4, .null)], none) (pc' := 54) (L' := [(0, .ref 73)]) h_m77 (z_at.mk 3 rfl rfl) rfl (by decide) rfl (Or.inr ⟨rfl, rfl, by decide⟩) rfl rfl rfl ?_
  clear H m; intro m H
  refine w_p h_m77 1 (pc' := 55) (L' := [(0, .ref 73)]) (st' := [.ref 73]) rfl ?_
  refine w_nw H (20, 6, [(0, .null), (1, .null), (2, .null), (3, .null), (4, .null), (5, .int (0 : Int32))], none) (N' := 99) (S' := 3625) (pc' := 58) (L' := [(0, .ref 73)]) h_m77 (z_at.mk 3 rfl rfl) rfl rfl rfl rfl rfl rfl ?_
  clear H m; intro m H
  refine w_p h_m77 1 (pc' := 59) (L' := [(0, .ref 73)]) (st' := [.ref 98, .ref 98, .ref 73]) rfl ?_
  refine w_cs (As := [.ref 98]) (rest := [.ref 98, .ref 73]) (j := 107) (L0 := [(0, .ref 98)]) (pc' := 62) (L' := [(0, .ref 73)]) h_m77 (z_at.mk 3 rfl rfl) (Or.inr ⟨rfl, rfl⟩) rfl rfl rfl rfl rfl ?_
  refine w_p h_m107 4 (pc' := 7) (L' := [(0, .ref 98)]) (st' := [.int (6 : Int32), .ref 98]) rfl ?_
  refine w_na H (ti := 0) (n := 6) (.int (0 : Int32)) (N' := 100) (S' := 3631) (pc' := 9) (L' := [(0, .ref 98)]) h_m107 (z_at.mk 2 rfl rfl) rfl (by decide) rfl (by decide) rfl rfl rfl rfl rfl ?_
  clear H m; intro m H
  refine w_pf H (20, 6, [(0, .ref 99), (1, .null), (2, .null), (3, .null), (4, .null), (5, .int (0 : Int32))], none) (pc' := 12) (L' := [(0, .ref 98)]) h_m107 (z_at.mk 3 rfl rfl) rfl (by decide) rfl (Or.inr ⟨rfl, rfl, by decide⟩) rfl rfl rfl ?_
  clear H m; intro m H
  refine w_p h_m107 2 (pc' := 15) (L' := [(0, .ref 98)]) (st' := [.int (6 : Int32), .ref 98]) rfl ?_
  refine w_na H (ti := 0) (n := 6) (.int (0 : Int32)) (N' := 101) (S' := 3637) (pc' := 17) (L' := [(0, .ref 98)]) h_m107 (z_at.mk 2 rfl rfl) rfl (by decide) rfl (by decide) rfl rfl rfl rfl rfl ?_
  clear H m; intro m H
  refine w_pf H (20, 6, [(1, .ref 100), (0, .ref 99), (2, .null), (3, .null), (4, .null), (5, .int (0 : Int32))], none) (pc' := 20) (L' := [(0, .ref 98)]) h_m107 (z_at.mk 3 rfl rfl) rfl (by decide) rfl (Or.inr ⟨rfl, rfl, by decide⟩) rfl rfl rfl ?_
  clear H m; intro m H
  refine w_p h_m107 2 (pc' := 23) (L' := [(0, .ref 98)]) (st' := [.int (6 : Int32), .ref 98]) rfl ?_
  refine w_na H (ti := 0) (n := 6) (.int (0 : Int32)) (N' := 102) (S' := 3643) (pc' := 25) (L' := [(0, .ref 98)]) h_m107 (z_at.mk 2 rfl rfl) rfl (by decide) rfl (by decide) rfl rfl rfl rfl rfl ?_
  clear H m; intro m H
  refine w_pf H (20, 6, [(2, .ref 101), (1, .ref 100), (0, .ref 99), (3, .null), (4, .null), (5, .int (0 : Int32))], none) (pc' := 28) (L' := [(0, .ref 98)]) h_m107 (z_at.mk 3 rfl rfl) rfl (by decide) rfl (Or.inr ⟨rfl, rfl, by decide⟩) rfl rfl rfl ?_
  clear H m; intro m H
  refine w_p h_m107 2 (pc' := 31) (L' := [(0, .ref 98)]) (st' := [.int (6 : Int32), .ref 98]) rfl ?_
  refine w_na H (ti := 1) (n := 6) (.long (0 : Int64)) (N' := 103) (S' := 3649) (pc' := 33) (L' := [(0, .ref 98)]) h_m107 (z_at.mk 2 rfl rfl) rfl (by decide) rfl (by decide) rfl rfl rfl rfl rfl ?_
  clear H m; intro m H
  refine w_pf H (20, 6, [(3, .ref 102), (2, .ref 101), (1, .ref 100), (0, .ref 99), (4, .null), (5, .int (0 : Int32))], none) (pc' := 36) (L' := [(0, .ref 98)]) h_m107 (z_at.mk 3 rfl rfl) rfl (by decide) rfl (Or.inr ⟨rfl, rfl, by decide⟩) rfl rfl rfl ?_
  clear H m; intro m H
  refine w_p h_m107 1 (pc' := 37) (L' := [(0, .ref 98)]) (st' := [.ref 98]) rfl ?_
  refine w_nw H (13, 3, [(0, .null), (1, .null), (2, .int (0 : Int32))], none) (N' := 104) (S' := 3652) (pc' := 40) (L' := [(0, .ref 98)]) h_m107 (z_at.mk 3 rfl rfl) rfl rfl rfl rfl rfl rfl ?_
  clear H m; intro m H
  refine w_p h_m107 1 (pc' := 41) (L' := [(0, .ref 98)]) (st' := [.ref 103, .ref 103, .ref 98]) rfl ?_
  refine w_cs (As := [.ref 103]) (rest := [.ref 103, .ref 98]) (j := 45) (L0 := [(0, .ref 103)]) (pc' := 44) (L' := [(0, .ref 98)]) h_m107 (z_at.mk 3 rfl rfl) (Or.inr ⟨rfl, rfl⟩) rfl rfl rfl rfl rfl ?_
  refine w_p h_m45 4 (pc' := 7) (L' := [(0, .ref 103)]) (st' := [.int (60 : Int32), .ref 103]) rfl ?_
  refine w_na H (ti := 0) (n := 60) (.int (0 : Int32)) (N' := 105) (S' := 3712) (pc' := 9) (L' := [(0, .ref 103)]) h_m45 (z_at.mk 2 rfl rfl) rfl (by decide) rfl (by decide) rfl rfl rfl rfl rfl ?_
  clear H m; intro m H
  refine w_pf H (13, 3, [(0, .ref 104), (1, .null), (2, .int (0 : Int32))], none) (pc' := 12) (L' := [(0, .ref 103)]) h_m45 (z_at.mk 3 rfl rfl) rfl (by decide) rfl (Or.inr ⟨rfl, rfl, by decide⟩) rfl rfl rfl ?_
  clear H m; intro m H
  refine w_p h_m45 2 (pc' := 15) (L' := [(0, .ref 103)]) (st' := [.int (60 : Int32), .ref 103]) rfl ?_
  refine w_na H (ti := 1) (n := 60) (.long (0 : Int64)) (N' := 106) (S' := 3772) (pc' := 17) (L' := [(0, .ref 103)]) h_m45 (z_at.mk 2 rfl rfl) rfl (by decide) rfl (by decide) rfl rfl rfl rfl rfl ?_
  clear H m; intro m H
  refine w_pf H (13, 3, [(1, .ref 105), (0, .ref 104), (2, .int (0 : Int32))], none) (pc' := 20) (L' := [(0, .ref 103)]) h_m45 (z_at.mk 3 rfl rfl) rfl (by decide) rfl (Or.inr ⟨rfl, rfl, by decide⟩) rfl rfl rfl ?_
  clear H m; intro m H
  refine w_p h_m45 2 (pc' := 22) (L' := [(0, .ref 103)]) (st' := [.int (0 : Int32), .ref 103]) rfl ?_
  refine w_pf H (13, 3, [(2, .int (0 : Int32)), (1, .ref 105), (0, .ref 104)], none) (pc' := 25) (L' := [(0, .ref 103)]) h_m45 (z_at.mk 3 rfl rfl) rfl (by decide) rfl (Or.inl rfl) rfl rfl rfl ?_
  clear H m; intro m H
  refine w_rv h_m45 (z_at.mk 1 rfl rfl) rfl ?_
  show z_W 997 107 44 [(0, .ref 98)] [.ref 103, .ref 98] m _
  refine w_pf H (20, 6, [(4, .ref 103), (3, .ref 102), (2, .ref 101), (1, .ref 100), (0, .ref 99), (5, .int (0 : Int32))], none) (pc' := 47) (L' := [(0, .ref 98)]) h_m107 (z_at.mk 3 rfl rfl) rfl (by decide) rfl (Or.inr ⟨rfl, rfl, by decide⟩) rfl rfl rfl ?_
  clear H m; intro m H
  refine w_p h_m107 2 (pc' := 49) (L' := [(0, .ref 98)]) (st' := [.int (0 : Int32), .ref 98]) rfl ?_
  refine w_pf H (20, 6, [(5, .int (0 : Int32)), (4, .ref 103), (3, .ref 102), (2, .ref 101), (1, .ref 100), (0, .ref 99)], none) (pc' := 52) (L' := [(0, .ref 98)]) h_m107 (z_at.mk 3 rfl rfl) rfl (by decide) rfl (Or.inl rfl) rfl rfl rfl ?_
  clear H m; intro m H
  refine w_rv h_m107 (z_at.mk 1 rfl rfl) rfl ?_
  show z_W 998 77 62 [(0, .ref 73)] [.ref 98, .ref 73] m _
  refine w_pf H (17, 5, [(4, .ref 98), (3, .ref 96), (2, .ref 93), (1, .ref 81), (0, .ref 74)], none) (pc' := 65) (L' := [(0, .ref 73)]) h_m77 (z_at.mk 3 rfl rfl) rfl (by decide) rfl (Or.inr ⟨rfl, rfl, by decide⟩) rfl rfl rfl ?_
  clear H m; intro m H
  refine w_rv h_m77 (z_at.mk 1 rfl rfl) rfl ?_
  show z_W 999 114 23 [(0, .ref 39)] [.ref 73, .ref 39] m _
  refine w_pf H (21, 14, [(1, .ref 73), (0, .ref 40), (2, .int (0 : Int32)), (3, .null), (4, .null), (5, .null), (6, .null), (7, .null), (8, .null), (9, .int (0 : Int32)), (10, .null), (11, .null), (12, .null), (13, .null)], none) (pc' := 26) (L' := [(0, .ref 39)]) h_m114 (z_at.mk 3 rfl rfl) rfl (by decide) rfl (Or.inr ⟨rfl, rfl, by decide⟩) rfl rfl rfl ?_
  clear H m; intro m H
  refine w_p h_m114 2 (pc' := 28) (L' := [(0, .ref 39)]) (st' := [.int (0 : Int32), .ref 39]) rfl ?_
  refine w_pf H (21, 14, [(2, .int (0 : Int32)), (1, .ref 73), (0, .ref 40), (3, .null), (4, .null), (5, .null), (6, .null), (7, .null), (8, .null), (9, .int (0 : Int32)), (10, .null), (11, .null), (12, .null), (13, .null)], none) (pc' := 31) (L' := [(0, .ref 39)]) h_m114 (z_at.mk 3 rfl rfl) rfl (by decide) rfl (Or.inl rfl) rfl rfl rfl ?_
  clear H m; intro m H
  refine w_p h_m114 1 (pc' := 32) (L' := [(0, .ref 39)]) (st' := [.ref 39]) rfl ?_
  refine w_nw H (12, 18, [(0, .null), (1, .null), (2, .int (0 : Int32)), (3, .null), (4, .null), (5, .null), (6, .null), (7, .null), (8, .int (0 : Int32)), (9, .long (0 : Int64)), (10, .int (0 : Int32)), (11, .int (0 : Int32)), (12, .int (0 : Int32)), (13, .int (0 : Int32)), (14, .int (0 : Int32)), (15, .int (0 : Int32)), (16, .null), (17, .null)], none) (N' := 107) (S' := 3790) (pc' := 35) (L' := [(0, .ref 39)]) h_m114 (z_at.mk 3 rfl rfl) rfl rfl rfl rfl rfl rfl ?_
  clear H m; intro m H
  refine w_p h_m114 2 (pc' := 37) (L' := [(0, .ref 39)]) (st' := [.ref 39, .ref 106, .ref 106, .ref 39]) rfl ?_
  refine w_gf H (pc' := 40) (L' := [(0, .ref 39)]) h_m114 (z_at.mk 3 rfl rfl) rfl (u := .ref 40) rfl rfl rfl ?_
  refine w_gf H (pc' := 43) (L' := [(0, .ref 39)]) h_m114 (z_at.mk 3 rfl rfl) rfl (u := .ref 41) rfl rfl rfl ?_
  refine w_cs (As := [.ref 106, .ref 41]) (rest := [.ref 106, .ref 39]) (j := 19) (L0 := [(0, .ref 106), (1, .ref 41)]) (pc' := 46) (L' := [(0, .ref 39)]) h_m114 (z_at.mk 3 rfl rfl) (Or.inr ⟨rfl, rfl⟩) rfl rfl rfl rfl rfl ?_
  refine w_p h_m19 3 (pc' := 5) (L' := [(0, .ref 106), (1, .ref 41)]) (st' := [.ref 106]) rfl ?_
  refine w_nw H (16, 1, [(0, .null)], none) (N' := 108) (S' := 3791) (pc' := 8) (L' := [(0, .ref 106), (1, .ref 41)]) h_m19 (z_at.mk 3 rfl rfl) rfl rfl rfl rfl rfl rfl ?_
  clear H m; intro m H
  refine w_p h_m19 1 (pc' := 9) (L' := [(0, .ref 106), (1, .ref 41)]) (st' := [.ref 107, .ref 107, .ref 106]) rfl ?_
  refine w_cs (As := [.ref 107]) (rest := [.ref 107, .ref 106]) (j := 71) (L0 := [(0, .ref 107)]) (pc' := 12) (L' := [(0, .ref 106), (1, .ref 41)]) h_m19 (z_at.mk 3 rfl rfl) (Or.inr ⟨rfl, rfl⟩) rfl rfl rfl rfl rfl ?_
  refine w_p h_m71 4 (pc' := 7) (L' := [(0, .ref 107)]) (st' := [.int (7 : Int32), .ref 107]) rfl ?_
  refine w_na H (ti := 0) (n := 7) (.int (0 : Int32)) (N' := 109) (S' := 3798) (pc' := 9) (L' := [(0, .ref 107)]) h_m71 (z_at.mk 2 rfl rfl) rfl (by decide) rfl (by decide) rfl rfl rfl rfl rfl ?_
  clear H m; intro m H
  refine w_pf H (16, 1, [(0, .ref 108)], none) (pc' := 12) (L' := [(0, .ref 107)]) h_m71 (z_at.mk 3 rfl rfl) rfl (by decide) rfl (Or.inr ⟨rfl, rfl, by decide⟩) rfl rfl rfl ?_
  clear H m; intro m H
  refine w_p h_m71 1 (pc' := 13) (L' := [(0, .ref 107)]) (st' := [.ref 107]) rfl ?_
  refine w_gf H (pc' := 16) (L' := [(0, .ref 107)]) h_m71 (z_at.mk 3 rfl rfl) rfl (u := .ref 108) rfl rfl rfl ?_
  refine w_p h_m71 2 (pc' := 19) (L' := [(0, .ref 107)]) (st' := [.int (10 : Int32), .int (0 : Int32), .ref 108]) rfl ?_
  refine w_as H (t := 0) (j := 0) (u := .int (10 : Int32)) (0, 7, [(0, .int (10 : Int32))], some (.int (0 : Int32))) (pc' := 20) (L' := [(0, .ref 107)]) h_m71 (z_at.mk 1 rfl rfl) rfl rfl (w_ui _ _ (by decide)) rfl rfl rfl rfl ?_
  clear H m; intro m H
  refine w_p h_m71 1 (pc' := 21) (L' := [(0, .ref 107)]) (st' := [.ref 107]) rfl ?_
  refine w_gf H (pc' := 24) (L' := [(0, .ref 107)]) h_m71 (z_at.mk 3 rfl rfl) rfl (u := .ref 108) rfl rfl rfl ?_
  refine w_p h_m71 2 (pc' := 27) (L' := [(0, .ref 107)]) (st' := [.int (40 : Int32), .int (1 : Int32), .ref 108]) rfl ?_
  refine w_as H (t := 0) (j := 1) (u := .int (40 : Int32)) (0, 7, [(1, .int (40 : Int32)), (0, .int (10 : Int32))], some (.int (0 : Int32))) (pc' := 28) (L' := [(0, .ref 107)]) h_m71 (z_at.mk 1 rfl rfl) rfl rfl (w_ui _ _ (by decide)) rfl rfl rfl rfl ?_
  clear H m; intro m H
  refine w_p h_m71 1 (pc' := 29) (L' := [(0, .ref 107)]) (st' := [.ref 107]) rfl ?_
  refine w_gf H (pc' := 32) (L' := [(0, .ref 107)]) h_m71 (z_at.mk 3 rfl rfl) rfl (u := .ref 108) rfl rfl rfl ?_
  refine w_p h_m71 2 (pc' := 35) (L' := [(0, .ref 107)]) (st' := [.int (12 : Int32), .int (2 : Int32), .ref 108]) rfl ?_
  refine w_as H (t := 0) (j := 2) (u := .int (12 : Int32)) (0, 7, [(2, .int (12 : Int32)), (1, .int (40 : Int32)), (0, .int (10 : Int32))], some (.int (0 : Int32))) (pc' := 36) (L' := [(0, .ref 107)]) h_m71 (z_at.mk 1 rfl rfl) rfl rfl (w_ui _ _ (by decide)) rfl rfl rfl rfl ?_
  clear H m; intro m H
  refine w_p h_m71 1 (pc' := 37) (L' := [(0, .ref 107)]) (st' := [.ref 107]) rfl ?_
  refine w_gf H (pc' := 40) (L' := [(0, .ref 107)]) h_m71 (z_at.mk 3 rfl rfl) rfl (u := .ref 108) rfl rfl rfl ?_
  refine w_p h_m71 2 (pc' := 42) (L' := [(0, .ref 107)]) (st' := [.int (0 : Int32), .int (3 : Int32), .ref 108]) rfl ?_
  refine w_as H (t := 0) (j := 3) (u := .int (0 : Int32)) (0, 7, [(3, .int (0 : Int32)), (2, .int (12 : Int32)), (1, .int (40 : Int32)), (0, .int (10 : Int32))], some (.int (0 : Int32))) (pc' := 43) (L' := [(0, .ref 107)]) h_m71 (z_at.mk 1 rfl rfl) rfl rfl (w_ui _ _ (by decide)) rfl rfl rfl rfl ?_
  clear H m; intro m H
  refine w_p h_m71 1 (pc' := 44) (L' := [(0, .ref 107)]) (st' := [.ref 107]) rfl ?_
  refine w_gf H (pc' := 47) (L' := [(0, .ref 107)]) h_m71 (z_at.mk 3 rfl rfl) rfl (u := .ref 108) rfl rfl rfl ?_
  refine w_p h_m71 2 (pc' := 49) (L' := [(0, .ref 107)]) (st' := [.int (1 : Int32), .int (4 : Int32), .ref 108]) rfl ?_
  refine w_as H (t := 0) (j := 4) (u := .int (1 : Int32)) (0, 7, [(4, .int (1 : Int32)), (3, .int (0 : Int32)), (2, .int (12 : Int32)), (1, .int (40 : Int32)), (0, .int (10 : Int32))], some (.int (0 : Int32))) (pc' := 50) (L' := [(0, .ref 107)]) h_m71 (z_at.mk 1 rfl rfl) rfl rfl (w_ui _ _ (by decide)) rfl rfl rfl rfl ?_
  clear H m; intro m H
  refine w_p h_m71 1 (pc' := 51) (L' := [(0, .ref 107)]) (st' := [.ref 107]) rfl ?_
  refine w_gf H (pc' := 54) (L' := [(0, .ref 107)]) h_m71 (z_at.mk 3 rfl rfl) rfl (u := .ref 108) rfl rfl rfl ?_
  refine w_p h_m71 2 (pc' := 56) (L' := [(0, .ref 107)]) (st' := [.int (1 : Int32), .int (5 : Int32), .ref 108]) rfl ?_
  refine w_as H (t := 0) (j := 5) (u := .int (1 : Int32)) (0, 7, [(5, .int (1 : Int32)), (4, .int (1 : Int32)), (3, .int (0 : Int32)), (2, .int (12 : Int32)), (1, .int (40 : Int32)), (0, .int (10 : Int32))], some (.int (0 : Int32))) (pc' := 57) (L' := [(0, .ref 107)]) h_m71 (z_at.mk 1 rfl rfl) rfl rfl (w_ui _ _ (by decide)) rfl rfl rfl rfl ?_
  clear H m; intro m H
  refine w_p h_m71 1 (pc' := 58) (L' := [(0, .ref 107)]) (st' := [.ref 107]) rfl ?_
  refine w_gf H (pc' := 61) (L' := [(0, .ref 107)]) h_m71 (z_at.mk 3 rfl rfl) rfl (u := .ref 108) rfl rfl rfl ?_
  refine w_p h_m71 2 (pc' := 66) (L' := [(0, .ref 107)]) (st' := [.int (1024 : Int32), .int (6 : Int32), .ref 108]) rfl ?_
  refine w_as H (t := 0) (j := 6) (u := .int (1024 : Int32)) (0, 7, [(6, .int (1024 : Int32)), (5, .int (1 : Int32)), (4, .int (1 : Int32)), (3, .int (0 : Int32)), (2, .int (12 : Int32)), (1, .int (40 : Int32)), (0, .int (10 : Int32))], some (.int (0 : Int32))) (pc' := 67) (L' := [(0, .ref 107)]) h_m71 (z_at.mk 1 rfl rfl) rfl rfl (w_ui _ _ (by decide)) rfl rfl rfl rfl ?_
  clear H m; intro m H
  refine w_rv h_m71 (z_at.mk 1 rfl rfl) rfl ?_
  show z_W 998 19 12 [(0, .ref 106), (1, .ref 41)] [.ref 107, .ref 106] m _
  refine w_pf H (12, 18, [(1, .ref 107), (0, .null), (2, .int (0 : Int32)), (3, .null), (4, .null), (5, .null), (6, .null), (7, .null), (8, .int (0 : Int32)), (9, .long (0 : Int64)), (10, .int (0 : Int32)), (11, .int (0 : Int32)), (12, .int (0 : Int32)), (13, .int (0 : Int32)), (14, .int (0 : Int32)), (15, .int (0 : Int32)), (16, .null), (17, .null)], none) (pc' := 15) (L' := [(0, .ref 106), (1, .ref 41)]) h_m19 (z_at.mk 3 rfl rfl) rfl (by decide) rfl (Or.inr ⟨rfl, rfl, by decide⟩) rfl rfl rfl ?_
  clear H m; intro m H
  refine w_p h_m19 2 (pc' := 17) (L' := [(0, .ref 106), (1, .ref 41)]) (st' := [.int (0 : Int32), .ref 106]) rfl ?_
  refine w_pf H (12, 18, [(2, .int (0 : Int32)), (1, .ref 107), (0, .null), (3, .null), (4, .null), (5, .null), (6, .null), (7, .null), (8, .int (0 : Int32)), (9, .long (0 : Int64)), (10, .int (0 : Int32)), (11, .int (0 : Int32)), (12, .int (0 : Int32)), (13, .int (0 : Int32)), (14, .int (0 : Int32)), (15, .int (0 : Int32)), (16, .null), (17, .null)], none) (pc' := 20) (L' := [(0, .ref 106), (1, .ref 41)]) h_m19 (z_at.mk 3 rfl rfl) rfl (by decide) rfl (Or.inl rfl) rfl rfl rfl ?_
  clear H m; intro m H
  refine w_p h_m19 2 (pc' := 24) (L' := [(0, .ref 106), (1, .ref 41)]) (st' := [.int (181 : Int32), .ref 106]) rfl ?_
  refine w_na H (ti := 0) (n := 181) (.int (0 : Int32)) (N' := 110) (S' := 3979) (pc' := 26) (L' := [(0, .ref 106), (1, .ref 41)]) h_m19 (z_at.mk 2 rfl rfl) rfl (by decide) rfl (by decide) rfl rfl rfl rfl rfl ?_
  clear H m; intro m H
  refine w_pf H (12, 18, [(3, .ref 109), (2, .int (0 : Int32)), (1, .ref 107), (0, .null), (4, .null), (5, .null), (6, .null), (7, .null), (8, .int (0 : Int32)), (9, .long (0 : Int64)), (10, .int (0 : Int32)), (11, .int (0 : Int32)), (12, .int (0 : Int32)), (13, .int (0 : Int32)), (14, .int (0 : Int32)), (15, .int (0 : Int32)), (16, .null), (17, .null)], none) (pc' := 29) (L' := [(0, .ref 106), (1, .ref 41)]) h_m19 (z_at.mk 3 rfl rfl) rfl (by decide) rfl (Or.inr ⟨rfl, rfl, by decide⟩) rfl rfl rfl ?_
  clear H m; intro m H
  refine w_p h_m19 2 (pc' := 33) (L' := [(0, .ref 106), (1, .ref 41)]) (st' := [.int (181 : Int32), .ref 106]) rfl ?_
  refine w_na H (ti := 0) (n := 181) (.int (0 : Int32)) (N' := 111) (S' := 4160) (pc' := 35) (L' := [(0, .ref 106), (1, .ref 41)]) h_m19 (z_at.mk 2 rfl rfl) rfl (by decide) rfl (by decide) rfl rfl rfl rfl rfl ?_
  clear H m; intro m H
  refine w_pf H (12, 18, [(4, .ref 110), (3, .ref 109), (2, .int (0 : Int32)), (1, .ref 107), (0, .null), (5, .null), (6, .null), (7, .null), (8, .int (0 : Int32)), (9, .long (0 : Int64)), (10, .int (0 : Int32)), (11, .int (0 : Int32)), (12, .int (0 : Int32)), (13, .int (0 : Int32)), (14, .int (0 : Int32)), (15, .int (0 : Int32)), (16, .null), (17, .null)], none) (pc' := 38) (L' := [(0, .ref 106), (1, .ref 41)]) h_m19 (z_at.mk 3 rfl rfl) rfl (by decide) rfl (Or.inr ⟨rfl, rfl, by decide⟩) rfl rfl rfl ?_
  clear H m; intro m H
  refine w_p h_m19 2 (pc' := 42) (L' := [(0, .ref 106), (1, .ref 41)]) (st' := [.int (181 : Int32), .ref 106]) rfl ?_
  refine w_na H (ti := 0) (n := 181) (.int (0 : Int32)) (N' := 112) (S' := 4341) (pc' := 44) (L' := [(0, .ref 106), (1, .ref 41)]) h_m19 (z_at.mk 2 rfl rfl) rfl (by decide) rfl (by decide) rfl rfl rfl rfl rfl ?_
  clear H m; intro m H
  refine w_pf H (12, 18, [(5, .ref 111), (4, .ref 110), (3, .ref 109), (2, .int (0 : Int32)), (1, .ref 107), (0, .null), (6, .null), (7, .null), (8, .int (0 : Int32)), (9, .long (0 : Int64)), (10, .int (0 : Int32)), (11, .int (0 : Int32)), (12, .int (0 : Int32)), (13, .int (0 : Int32)), (14, .int (0 : Int32)), (15, .int (0 : Int32)), (16, .null), (17, .null)], none) (pc' := 47) (L' := [(0, .ref 106), (1, .ref 41)]) h_m19 (z_at.mk 3 rfl rfl) rfl (by decide) rfl (Or.inr ⟨rfl, rfl, by decide⟩) rfl rfl rfl ?_
  clear H m; intro m H
  refine w_p h_m19 2 (pc' := 51) (L' := [(0, .ref 106), (1, .ref 41)]) (st' := [.int (181 : Int32), .ref 106]) rfl ?_
  refine w_na H (ti := 0) (n := 181) (.int (0 : Int32)) (N' := 113) (S' := 4522) (pc' := 53) (L' := [(0, .ref 106), (1, .ref 41)]) h_m19 (z_at.mk 2 rfl rfl) rfl (by decide) rfl (by decide) rfl rfl rfl rfl rfl ?_
  clear H m; intro m H
  refine w_pf H (12, 18, [(6, .ref 112), (5, .ref 111), (4, .ref 110), (3, .ref 109), (2, .int (0 : Int32)), (1, .ref 107), (0, .null), (7, .null), (8, .int (0 : Int32)), (9, .long (0 : Int64)), (10, .int (0 : Int32)), (11, .int (0 : Int32)), (12, .int (0 : Int32)), (13, .int (0 : Int32)), (14, .int (0 : Int32)), (15, .int (0 : Int32)), (16, .null), (17, .null)], none) (pc' := 56) (L' := [(0, .ref 106), (1, .ref 41)]) h_m19 (z_at.mk 3 rfl rfl) rfl (by decide) rfl (Or.inr ⟨rfl, rfl, by decide⟩) rfl rfl rfl ?_
  clear H m; intro m H
  refine w_p h_m19 2 (pc' := 60) (L' := [(0, .ref 106), (1, .ref 41)]) (st' := [.int (181 : Int32), .ref 106]) rfl ?_
  refine w_na H (ti := 1) (n := 181) (.long (0 : Int64)) (N' := 114) (S' := 4703) (pc' := 62) (L' := [(0, .ref 106), (1, .ref 41)]) h_m19 (z_at.mk 2 rfl rfl) rfl (by decide) rfl (by decide) rfl rfl rfl rfl rfl ?_
  clear H m; intro m H
  refine w_pf H (12, 18, [(7, .ref 113), (6, .ref 112), (5, .ref 111), (4, .ref 110), (3, .ref 109), (2, .int (0 : Int32)), (1, .ref 107), (0, .null), (8, .int (0 : Int32)), (9, .long (0 : Int64)), (10, .int (0 : Int32)), (11, .int (0 : Int32)), (12, .int (0 : Int32)), (13, .int (0 : Int32)), (14, .int (0 : Int32)), (15, .int (0 : Int32)), (16, .null), (17, .null)], none) (pc' := 65) (L' := [(0, .ref 106), (1, .ref 41)]) h_m19 (z_at.mk 3 rfl rfl) rfl (by decide) rfl (Or.inr ⟨rfl, rfl, by decide⟩) rfl rfl rfl ?_
  clear H m; intro m H
  refine w_p h_m19 2 (pc' := 67) (L' := [(0, .ref 106), (1, .ref 41)]) (st' := [.int (0 : Int32), .ref 106]) rfl ?_
  refine w_pf H (12, 18, [(8, .int (0 : Int32)), (7, .ref 113), (6, .ref 112), (5, .ref 111), (4, .ref 110), (3, .ref 109), (2, .int (0 : Int32)), (1, .ref 107), (0, .null), (9, .long (0 : Int64)), (10, .int (0 : Int32)), (11, .int (0 : Int32)), (12, .int (0 : Int32)), (13, .int (0 : Int32)), (14, .int (0 : Int32)), (15, .int (0 : Int32)), (16, .null), (17, .null)], none) (pc' := 70) (L' := [(0, .ref 106), (1, .ref 41)]) h_m19 (z_at.mk 3 rfl rfl) rfl (by decide) rfl (Or.inl rfl) rfl rfl rfl ?_
  clear H m; intro m H
  refine w_p h_m19 2 (pc' := 72) (L' := [(0, .ref 106), (1, .ref 41)]) (st' := [.long (0 : Int64), .ref 106]) rfl ?_
  refine w_pf H (12, 18, [(9, .long (0 : Int64)), (8, .int (0 : Int32)), (7, .ref 113), (6, .ref 112), (5, .ref 111), (4, .ref 110), (3, .ref 109), (2, .int (0 : Int32)), (1, .ref 107), (0, .null), (10, .int (0 : Int32)), (11, .int (0 : Int32)), (12, .int (0 : Int32)), (13, .int (0 : Int32)), (14, .int (0 : Int32)), (15, .int (0 : Int32)), (16, .null), (17, .null)], none) (pc' := 75) (L' := [(0, .ref 106), (1, .ref 41)]) h_m19 (z_at.mk 3 rfl rfl) rfl (by decide) rfl (Or.inl rfl) rfl rfl rfl ?_
  clear H m; intro m H
  refine w_p h_m19 2 (pc' := 77) (L' := [(0, .ref 106), (1, .ref 41)]) (st' := [.int (0 : Int32), .ref 106]) rfl ?_
  refine w_pf H (12, 18, [(10, .int (0 : Int32)), (9, .long (0 : Int64)), (8, .int (0 : Int32)), (7, .ref 113), (6, .ref 112), (5, .ref 111), (4, .ref 110), (3, .ref 109), (2, .int (0 : Int32)), (1, .ref 107), (0, .null), (11, .int (0 : Int32)), (12, .int (0 : Int32)), (13, .int (0 : Int32)), (14, .int (0 : Int32)), (15, .int (0 : Int32)), (16, .null), (17, .null)], none) (pc' := 80) (L' := [(0, .ref 106), (1, .ref 41)]) h_m19 (z_at.mk 3 rfl rfl) rfl (by decide) rfl (Or.inl rfl) rfl rfl rfl ?_
  clear H m; intro m H
  refine w_p h_m19 2 (pc' := 82) (L' := [(0, .ref 106), (1, .ref 41)]) (st' := [.int (0 : Int32), .ref 106]) rfl ?_
  refine w_pf H (12, 18, [(11, .int (0 : Int32)), (10, .int (0 : Int32)), (9, .long (0 : Int64)), (8, .int (0 : Int32)), (7, .ref 113), (6, .ref 112), (5, .ref 111), (4, .ref 110), (3, .ref 109), (2, .int (0 : Int32)), (1, .ref 107), (0, .null), (12, .int (0 : Int32)), (13, .int (0 : Int32)), (14, .int (0 : Int32)), (15, .int (0 : Int32)), (16, .null), (17, .null)], none) (pc' := 85) (L' := [(0, .ref 106), (1, .ref 41)]) h_m19 (z_at.mk 3 rfl rfl) rfl (by decide) rfl (Or.inl rfl) rfl rfl rfl ?_
  clear H m; intro m H
  refine w_p h_m19 2 (pc' := 87) (L' := [(0, .ref 106), (1, .ref 41)]) (st' := [.int (0 : Int32), .ref 106]) rfl ?_
  refine w_pf H (12, 18, [(12, .int (0 : Int32)), (11, .int (0 : Int32)), (10, .int (0 : Int32)), (9, .long (0 : Int64)), (8, .int (0 : Int32)), (7, .ref 113), (6, .ref 112), (5, .ref 111), (4, .ref 110), (3, .ref 109), (2, .int (0 : Int32)), (1, .ref 107), (0, .null), (13, .int (0 : Int32)), (14, .int (0 : Int32)), (15, .int (0 : Int32)), (16, .null), (17, .null)], none) (pc' := 90) (L' := [(0, .ref 106), (1, .ref 41)]) h_m19 (z_at.mk 3 rfl rfl) rfl (by decide) rfl (Or.inl rfl) rfl rfl rfl ?_
  clear H m; intro m H
  refine w_p h_m19 2 (pc' := 92) (L' := [(0, .ref 106), (1, .ref 41)]) (st' := [.int (0 : Int32), .ref 106]) rfl ?_
  refine w_pf H (12, 18, [(13, .int (0 : Int32)), (12, .int (0 : Int32)), (11, .int (0 : Int32)), (10, .int (0 : Int32)), (9, .long (0 : Int64)), (8, .int (0 : Int32)), (7, .ref 113), (6, .ref 112), (5, .ref 111), (4, .ref 110), (3, .ref 109), (2, .int (0 : Int32)), (1, .ref 107), (0, .null), (14, .int (0 : Int32)), (15, .int (0 : Int32)), (16, .null), (17, .null)], none) (pc' := 95) (L' := [(0, .ref 106), (1, .ref 41)]) h_m19 (z_at.mk 3 rfl rfl) rfl (by decide) rfl (Or.inl rfl) rfl rfl rfl ?_
  clear H m; intro m H
  refine w_p h_m19 2 (pc' := 97) (L' := [(0, .ref 106), (1, .ref 41)]) (st' := [.int (0 : Int32), .ref 106]) rfl ?_
  refine w_pf H (12, 18, [(14, .int (0 : Int32)), (13, .int (0 : Int32)), (12, .int (0 : Int32)), (11, .int (0 : Int32)), (10, .int (0 : Int32)), (9, .long (0 : Int64)), (8, .int (0 : Int32)), (7, .ref 113), (6, .ref 112), (5, .ref 111), (4, .ref 110), (3, .ref 109), (2, .int (0 : Int32)), (1, .ref 107), (0, .null), (15, .int (0 : Int32)), (16, .null), (17, .null)], none) (pc' := 100) (L' := [(0, .ref 106), (1, .ref 41)]) h_m19 (z_at.mk 3 rfl rfl) rfl (by decide) rfl (Or.inl rfl) rfl rfl rfl ?_
  clear H m; intro m H
  refine w_p h_m19 2 (pc' := 102) (L' := [(0, .ref 106), (1, .ref 41)]) (st' := [.int (0 : Int32), .ref 106]) rfl ?_
  refine w_pf H (12, 18, [(15, .int (0 : Int32)), (14, .int (0 : Int32)), (13, .int (0 : Int32)), (12, .int (0 : Int32)), (11, .int (0 : Int32)), (10, .int (0 : Int32)), (9, .long (0 : Int64)), (8, .int (0 : Int32)), (7, .ref 113), (6, .ref 112), (5, .ref 111), (4, .ref 110), (3, .ref 109), (2, .int (0 : Int32)), (1, .ref 107), (0, .null), (16, .null), (17, .null)], none) (pc' := 105) (L' := [(0, .ref 106), (1, .ref 41)]) h_m19 (z_at.mk 3 rfl rfl) rfl (by decide) rfl (Or.inl rfl) rfl rfl rfl ?_
  clear H m; intro m H
  refine w_p h_m19 1 (pc' := 106) (L' := [(0, .ref 106), (1, .ref 41)]) (st' := [.ref 106]) rfl ?_
  refine w_nw H (11, 2, [(0, .null), (1, .int (0 : Int32))], none) (N' := 115) (S' := 4705) (pc' := 109) (L' := [(0, .ref 106), (1, .ref 41)]) h_m19 (z_at.mk 3 rfl rfl) rfl rfl rfl rfl rfl rfl ?_
  clear H m; intro m H
  refine w_p h_m19 2 (pc' := 113) (L' := [(0, .ref 106), (1, .ref 41)]) (st' := [.int (169 : Int32), .ref 114, .ref 114, .ref 106]) rfl ?_
  refine w_cs (As := [.ref 114, .int (169 : Int32)]) (rest := [.ref 114, .ref 106]) (j := 13) (L0 := [(0, .ref 114), (1, .int (169 : Int32))]) (pc' := 116) (L' := [(0, .ref 106), (1, .ref 41)]) h_m19 (z_at.mk 3 rfl rfl) (Or.inr ⟨rfl, rfl⟩) rfl rfl rfl rfl rfl ?_
  refine w_p h_m13 4 (pc' := 6) (L' := [(0, .ref 114), (1, .int (169 : Int32))]) (st' := [.int (0 : Int32), .ref 114]) rfl ?_
  refine w_pf H (11, 2, [(1, .int (0 : Int32)), (0, .null)], none) (pc' := 9) (L' := [(0, .ref 114), (1, .int (169 : Int32))]) h_m13 (z_at.mk 3 rfl rfl) rfl (by decide) rfl (Or.inl rfl) rfl rfl rfl ?_
  clear H m; intro m H
  refine w_p h_m13 3 (pc' := 12) (L' := [(0, .ref 114), (1, .int (169 : Int32))]) (st' := [.int (169 : Int32), .int (0 : Int32), .ref 114]) rfl ?_
  refine w_cs (As := [.int (0 : Int32), .int (169 : Int32)]) (rest := [.ref 114]) (j := 289) (L0 := [(0, .int (0 : Int32)), (1, .int (169 : Int32))]) (pc' := 15) (L' := [(0, .ref 114), (1, .int (169 : Int32))]) h_m13 (z_at.mk 3 rfl rfl) (Or.inl ⟨rfl, rfl⟩) rfl rfl rfl rfl rfl ?_
  refine w_p h_m289 4 (pc' := 10) (L' := []) (st' := [.int (169 : Int32)]) rfl ?_
  refine w_ri h_m289 (z_at.mk 1 rfl rfl) rfl rfl ?_
  show z_W 997 13 15 [(0, .ref 114), (1, .int (169 : Int32))] [.int (169 : Int32), .ref 114] m _
  refine w_na H (ti := 0) (n := 169) (.int (0 : Int32)) (N' := 116) (S' := 4874) (pc' := 17) (L' := [(0, .ref 114), (1, .int (169 : Int32))]) h_m13 (z_at.mk 2 rfl rfl) rfl (by decide) rfl (by decide) rfl rfl rfl rfl rfl ?_
  clear H m; intro m H
  refine w_pf H (11, 2, [(0, .ref 115), (1, .int (0 : Int32))], none) (pc' := 20) (L' := [(0, .ref 114), (1, .int (169 : Int32))]) h_m13 (z_at.mk 3 rfl rfl) rfl (by decide) rfl (Or.inr ⟨rfl, rfl, by decide⟩) rfl rfl rfl ?_
  clear H m; intro m H
  refine w_rv h_m13 (z_at.mk 1 rfl rfl) rfl ?_
  show z_W 998 19 116 [(0, .ref 106), (1, .ref 41)] [.ref 114, .ref 106] m _
  refine w_pf H (12, 18, [(16, .ref 114), (15, .int (0 : Int32)), (14, .int (0 : Int32)), (13, .int (0 : Int32)), (12, .int (0 : Int32)), (11, .int (0 : Int32)), (10, .int (0 : Int32)), (9, .long (0 : Int64)), (8, .int (0 : Int32)), (7, .ref 113), (6, .ref 112), (5, .ref 111), (4, .ref 110), (3, .ref 109), (2, .int (0 : Int32)), (1, .ref 107), (0, .null), (17, .null)], none) (pc' := 119) (L' := [(0, .ref 106), (1, .ref 41)]) h_m19 (z_at.mk 3 rfl rfl) rfl (by decide) rfl (Or.inr ⟨rfl, rfl, by decide⟩) rfl rfl rfl ?_
  clear H m; intro m H
  refine w_p h_m19 1 (pc' := 120) (L' := [(0, .ref 106), (1, .ref 41)]) (st' := [.ref 106]) rfl ?_
  refine w_nw H (11, 2, [(0, .null), (1, .int (0 : Int32))], none) (N' := 117) (S' := 4876) (pc' := 123) (L' := [(0, .ref 106), (1, .ref 41)]) h_m19 (z_at.mk 3 rfl rfl) rfl rfl rfl rfl rfl rfl ?_
  clear H m; intro m H
  refine w_p h_m19 2 (pc' := 127) (L' := [(0, .ref 106), (1, .ref 41)]) (st' := [.int (169 : Int32), .ref 116, .ref 116, .ref 106]) rfl ?_
  refine w_cs (As := [.ref 116, .int (169 : Int32)]) (rest := [.ref 116, .ref 106]) (j := 13) (L0 := [(0, .ref 116), (1, .int (169 : Int32))]) (pc' := 130) (L' := [(0, .ref 106), (1, .ref 41)]) h_m19 (z_at.mk 3 rfl rfl) (Or.inr ⟨rfl, rfl⟩) rfl rfl rfl rfl rfl ?_
  refine w_p h_m13 4 (pc' := 6) (L' := [(0, .ref 116), (1, .int (169 : Int32))]) (st' := [.int (0 : Int32), .ref 116]) rfl ?_
  refine w_pf H (11, 2, [(1, .int (0 : Int32)), (0, .null)], none) (pc' := 9) (L' := [(0, .ref 116), (1, .int (169 : Int32))]) h_m13 (z_at.mk 3 rfl rfl) rfl (by decide) rfl (Or.inl rfl) rfl rfl rfl ?_
  clear H m; intro m H
  refine w_p h_m13 3 (pc' := 12) (L' := [(0, .ref 116), (1, .int (169 : Int32))]) (st' := [.int (169 : Int32), .int (0 : Int32), .ref 116]) rfl ?_
  refine w_cs (As := [.int (0 : Int32), .int (169 : Int32)]) (rest := [.ref 116]) (j := 289) (L0 := [(0, .int (0 : Int32)), (1, .int (169 : Int32))]) (pc' := 15) (L' := [(0, .ref 116), (1, .int (169 : Int32))]) h_m13 (z_at.mk 3 rfl rfl) (Or.inl ⟨rfl, rfl⟩) rfl rfl rfl rfl rfl ?_
  refine w_p h_m289 4 (pc' := 10) (L' := []) (st' := [.int (169 : Int32)]) rfl ?_
  refine w_ri h_m289 (z_at.mk 1 rfl rfl) rfl rfl ?_
  show z_W 997 13 15 [(0, .ref 116), (1, .int (169 : Int32))] [.int (169 : Int32), .ref 116] m _
  refine w_na H (ti := 0) (n := 169) (.int (0 : Int32)) (N' := 118) (S' := 5045) (pc' := 17) (L' := [(0, .ref 116), (1, .int (169 : Int32))]) h_m13 (z_at.mk 2 rfl rfl) rfl (by decide) rfl (by decide) rfl rfl rfl rfl rfl ?_
  clear H m; intro m H
  refine w_pf H (11, 2, [(0, .ref 117), (1, .int (0 : Int32))], none) (pc' := 20) (L' := [(0, .ref 116), (1, .int (169 : Int32))]) h_m13 (z_at.mk 3 rfl rfl) rfl (by decide) rfl (Or.inr ⟨rfl, rfl, by decide⟩) rfl rfl rfl ?_
  clear H m; intro m H
  refine w_rv h_m13 (z_at.mk 1 rfl rfl) rfl ?_
  show z_W 998 19 130 [(0, .ref 106), (1, .ref 41)] [.ref 116, .ref 106] m _
  refine w_pf H (12, 18, [(17, .ref 116), (16, .ref 114), (15, .int (0 : Int32)), (14, .int (0 : Int32)), (13, .int (0 : Int32)), (12, .int (0 : Int32)), (11, .int (0 : Int32)), (10, .int (0 : Int32)), (9, .long (0 : Int64)), (8, .int (0 : Int32)), (7, .ref 113), (6, .ref 112), (5, .ref 111), (4, .ref 110), (3, .ref 109), (2, .int (0 : Int32)), (1, .ref 107), (0, .null)], none) (pc' := 133) (L' := [(0, .ref 106), (1, .ref 41)]) h_m19 (z_at.mk 3 rfl rfl) rfl (by decide) rfl (Or.inr ⟨rfl, rfl, by decide⟩) rfl rfl rfl ?_
  clear H m; intro m H
  refine w_p h_m19 2 (pc' := 135) (L' := [(0, .ref 106), (1, .ref 41)]) (st' := [.ref 41, .ref 106]) rfl ?_
  refine w_pf H (12, 18, [(0, .ref 41), (17, .ref 116), (16, .ref 114), (15, .int (0 : Int32)), (14, .int (0 : Int32)), (13, .int (0 : Int32)), (12, .int (0 : Int32)), (11, .int (0 : Int32)), (10, .int (0 : Int32)), (9, .long (0 : Int64)), (8, .int (0 : Int32)), (7, .ref 113), (6, .ref 112), (5, .ref 111), (4, .ref 110), (3, .ref 109), (2, .int (0 : Int32)), (1, .ref 107)], none) (pc' := 138) (L' := [(0, .ref 106), (1, .ref 41)]) h_m19 (z_at.mk 3 rfl rfl) rfl (by decide) rfl (Or.inr ⟨rfl, rfl, by decide⟩) rfl rfl rfl ?_
  clear H m; intro m H
  refine w_rv h_m19 (z_at.mk 1 rfl rfl) rfl ?_
  show z_W 999 114 46 [(0, .ref 39)] [.ref 106, .ref 39] m _
  refine w_pf H (21, 14, [(3, .ref 106), (2, .int (0 : Int32)), (1, .ref 73), (0, .ref 40), (4, .null), (5, .null), (6, .null), (7, .null), (8, .null), (9, .int (0 : Int32)), (10, .null), (11, .null), (12, .null), (13, .null)], none) (pc' := 49) (L' := [(0, .ref 39)]) h_m114 (z_at.mk 3 rfl rfl) rfl (by decide) rfl (Or.inr ⟨rfl, rfl, by decide⟩) rfl rfl rfl ?_
  clear H m; intro m H
  refine w_p h_m114 1 (pc' := 50) (L' := [(0, .ref 39)]) (st' := [.ref 39]) rfl ?_
  refine w_nw H (16, 1, [(0, .null)], none) (N' := 119) (S' := 5046) (pc' := 53) (L' := [(0, .ref 39)]) h_m114 (z_at.mk 3 rfl rfl) rfl rfl rfl rfl rfl rfl ?_
  clear H m; intro m H
  refine w_p h_m114 1 (pc' := 54) (L' := [(0, .ref 39)]) (st' := [.ref 118, .ref 118, .ref 39]) rfl ?_
  refine w_cs (As := [.ref 118]) (rest := [.ref 118, .ref 39]) (j := 71) (L0 := [(0, .ref 118)]) (pc' := 57) (L' := [(0, .ref 39)]) h_m114 (z_at.mk 3 rfl rfl) (Or.inr ⟨rfl, rfl⟩) rfl rfl rfl rfl rfl ?_
  refine w_p h_m71 4 (pc' := 7) (L' := [(0, .ref 118)]) (st' := [.int (7 : Int32), .ref 118]) rfl ?_
  refine w_na H (ti := 0) (n := 7) (.int (0 : Int32)) (N' := 120) (S' := 5053) (pc' := 9) (L' := [(0, .ref 118)]) h_m71 (z_at.mk 2 rfl rfl) rfl (by decide) rfl (by decide) rfl rfl rfl rfl rfl ?_
  clear H m; intro m H
  refine w_pf H (16, 1, [(0, .ref 119)], none) (pc' := 12) (L' := [(0, .ref 118)]) h_m71 (z_at.mk 3 rfl rfl) rfl (by decide) rfl (Or.inr ⟨rfl, rfl, by decide⟩) rfl rfl rfl ?_
  clear H m; intro m H
  refine w_p h_m71 1 (pc' := 13) (L' := [(0, .ref 118)]) (st' := [.ref 118]) rfl ?_
  refine w_gf H (pc' := 16) (L' := [(0, .ref 118)]) h_m71 (z_at.mk 3 rfl rfl) rfl (u := .ref 119) rfl rfl rfl ?_
  refine w_p h_m71 2 (pc' := 19) (L' := [(0, .ref 118)]) (st' := [.int (10 : Int32), .int (0 : Int32), .ref 119]) rfl ?_
  refine w_as H (t := 0) (j := 0) (u := .int (10 : Int32)) (0, 7, [(0, .int (10 : Int32))], some (.int (0 : Int32))) (pc' := 20) (L' := [(0, .ref 118)]) h_m71 (z_at.mk 1 rfl rfl) rfl rfl (w_ui _ _ (by decide)) rfl rfl rfl rfl ?_
  clear H m; intro m H
  refine w_p h_m71 1 (pc' := 21) (L' := [(0, .ref 118)]) (st' := [.ref 118]) rfl ?_
  refine w_gf H (pc' := 24) (L' := [(0, .ref 118)]) h_m71 (z_at.mk 3 rfl rfl) rfl (u := .ref 119) rfl rfl rfl ?_
  refine w_p h_m71 2 (pc' := 27) (L' := [(0, .ref 118)]) (st' := [.int (40 : Int32), .int (1 : Int32), .ref 119]) rfl ?_
  refine w_as H (t := 0) (j := 1) (u := .int (40 : Int32)) (0, 7, [(1, .int (40 : Int32)), (0, .int (10 : Int32))], some (.int (0 : Int32))) (pc' := 28) (L' := [(0, .ref 118)]) h_m71 (z_at.mk 1 rfl rfl) rfl rfl (w_ui _ _ (by decide)) rfl rfl rfl rfl ?_
  clear H m; intro m H
  refine w_p h_m71 1 (pc' := 29) (L' := [(0, .ref 118)]) (st' := [.ref 118]) rfl ?_
  refine w_gf H (pc' := 32) (L' := [(0, .ref 118)]) h_m71 (z_at.mk 3 rfl rfl) rfl (u := .ref 119) rfl rfl rfl ?_
  refine w_p h_m71 2 (pc' := 35) (L' := [(0, .ref 118)]) (st' := [.int (12 : Int32), .int (2 : Int32), .ref 119]) rfl ?_
  refine w_as H (t := 0) (j := 2) (u := .int (12 : Int32)) (0, 7, [(2, .int (12 : Int32)), (1, .int (40 : Int32)), (0, .int (10 : Int32))], some (.int (0 : Int32))) (pc' := 36) (L' := [(0, .ref 118)]) h_m71 (z_at.mk 1 rfl rfl) rfl rfl (w_ui _ _ (by decide)) rfl rfl rfl rfl ?_
  clear H m; intro m H
  refine w_p h_m71 1 (pc' := 37) (L' := [(0, .ref 118)]) (st' := [.ref 118]) rfl ?_
  refine w_gf H (pc' := 40) (L' := [(0, .ref 118)]) h_m71 (z_at.mk 3 rfl rfl) rfl (u := .ref 119) rfl rfl rfl ?_
  refine w_p h_m71 2 (pc' := 42) (L' := [(0, .ref 118)]) (st' := [.int (0 : Int32), .int (3 : Int32), .ref 119]) rfl ?_
  refine w_as H (t := 0) (j := 3) (u := .int (0 : Int32)) (0, 7, [(3, .int (0 : Int32)), (2, .int (12 : Int32)), (1, .int (40 : Int32)), (0, .int (10 : Int32))], some (.int (0 : Int32))) (pc' := 43) (L' := [(0, .ref 118)]) h_m71 (z_at.mk 1 rfl rfl) rfl rfl (w_ui _ _ (by decide)) rfl rfl rfl rfl ?_
  clear H m; intro m H
  refine w_p h_m71 1 (pc' := 44) (L' := [(0, .ref 118)]) (st' := [.ref 118]) rfl ?_
  refine w_gf H (pc' := 47) (L' := [(0, .ref 118)]) h_m71 (z_at.mk 3 rfl rfl) rfl (u := .ref 119) rfl rfl rfl ?_
  refine w_p h_m71 2 (pc' := 49) (L' := [(0, .ref 118)]) (st' := [.int (1 : Int32), .int (4 : Int32), .ref 119]) rfl ?_
  refine w_as H (t := 0) (j := 4) (u := .int (1 : Int32)) (0, 7, [(4, .int (1 : Int32)), (3, .int (0 : Int32)), (2, .int (12 : Int32)), (1, .int (40 : Int32)), (0, .int (10 : Int32))], some (.int (0 : Int32))) (pc' := 50) (L' := [(0, .ref 118)]) h_m71 (z_at.mk 1 rfl rfl) rfl rfl (w_ui _ _ (by decide)) rfl rfl rfl rfl ?_
  clear H m; intro m H
  refine w_p h_m71 1 (pc' := 51) (L' := [(0, .ref 118)]) (st' := [.ref 118]) rfl ?_
  refine w_gf H (pc' := 54) (L' := [(0, .ref 118)]) h_m71 (z_at.mk 3 rfl rfl) rfl (u := .ref 119) rfl rfl rfl ?_
  refine w_p h_m71 2 (pc' := 56) (L' := [(0, .ref 118)]) (st' := [.int (1 : Int32), .int (5 : Int32), .ref 119]) rfl ?_
  refine w_as H (t := 0) (j := 5) (u := .int (1 : Int32)) (0, 7, [(5, .int (1 : Int32)), (4, .int (1 : Int32)), (3, .int (0 : Int32)), (2, .int (12 : Int32)), (1, .int (40 : Int32)), (0, .int (10 : Int32))], some (.int (0 : Int32))) (pc' := 57) (L' := [(0, .ref 118)]) h_m71 (z_at.mk 1 rfl rfl) rfl rfl (w_ui _ _ (by decide)) rfl rfl rfl rfl ?_
  clear H m; intro m H
  refine w_p h_m71 1 (pc' := 58) (L' := [(0, .ref 118)]) (st' := [.ref 118]) rfl ?_
  refine w_gf H (pc' := 61) (L' := [(0, .ref 118)]) h_m71 (z_at.mk 3 rfl rfl) rfl (u := .ref 119) rfl rfl rfl ?_
  refine w_p h_m71 2 (pc' := 66) (L' := [(0, .ref 118)]) (st' := [.int (1024 : Int32), .int (6 : Int32), .ref 119]) rfl ?_
  refine w_as H (t := 0) (j := 6) (u := .int (1024 : Int32)) (0, 7, [(6, .int (1024 : Int32)), (5, .int (1 : Int32)), (4, .int (1 : Int32)), (3, .int (0 : Int32)), (2, .int (12 : Int32)), (1, .int (40 : Int32)), (0, .int (10 : Int32))], some (.int (0 : Int32))) (pc' := 67) (L' := [(0, .ref 118)]) h_m71 (z_at.mk 1 rfl rfl) rfl rfl (w_ui _ _ (by decide)) rfl rfl rfl rfl ?_
  clear H m; intro m H
  refine w_rv h_m71 (z_at.mk 1 rfl rfl) rfl ?_
  show z_W 999 114 57 [(0, .ref 39)] [.ref 118, .ref 39] m _
  refine w_pf H (21, 14, [(4, .ref 118), (3, .ref 106), (2, .int (0 : Int32)), (1, .ref 73), (0, .ref 40), (5, .null), (6, .null), (7, .null), (8, .null), (9, .int (0 : Int32)), (10, .null), (11, .null), (12, .null), (13, .null)], none) (pc' := 60) (L' := [(0, .ref 39)]) h_m114 (z_at.mk 3 rfl rfl) rfl (by decide) rfl (Or.inr ⟨rfl, rfl, by decide⟩) rfl rfl rfl ?_
  clear H m; intro m H
  refine w_p h_m114 1 (pc' := 61) (L' := [(0, .ref 39)]) (st' := [.ref 39]) rfl ?_
  refine w_nw H (19, 4, [(0, .null), (1, .int (0 : Int32)), (2, .int (0 : Int32)), (3, .int (0 : Int32))], none) (N' := 121) (S' := 5057) (pc' := 64) (L' := [(0, .ref 39)]) h_m114 (z_at.mk 3 rfl rfl) rfl rfl rfl rfl rfl rfl ?_
  clear H m; intro m H
  refine w_p h_m114 1 (pc' := 65) (L' := [(0, .ref 39)]) (st' := [.ref 120, .ref 120, .ref 39]) rfl ?_
  refine w_cs (As := [.ref 120]) (rest := [.ref 120, .ref 39]) (j := 90) (L0 := [(0, .ref 120)]) (pc' := 68) (L' := [(0, .ref 39)]) h_m114 (z_at.mk 3 rfl rfl) (Or.inr ⟨rfl, rfl⟩) rfl rfl rfl rfl rfl ?_
  refine w_p h_m90 4 (pc' := 8) (L' := [(0, .ref 120)]) (st' := [.int (160 : Int32), .ref 120]) rfl ?_
  refine w_na H (ti := 2) (n := 160) (.int (0 : Int32)) (N' := 122) (S' := 5217) (pc' := 10) (L' := [(0, .ref 120)]) h_m90 (z_at.mk 2 rfl rfl) rfl (by decide) rfl (by decide) rfl rfl rfl rfl rfl ?_
  clear H m; intro m H
  refine w_pf H (19, 4, [(0, .ref 121), (1, .int (0 : Int32)), (2, .int (0 : Int32)), (3, .int (0 : Int32))], none) (pc' := 13) (L' := [(0, .ref 120)]) h_m90 (z_at.mk 3 rfl rfl) rfl (by decide) rfl (Or.inr ⟨rfl, rfl, by decide⟩) rfl rfl rfl ?_
  clear H m; intro m H
  refine w_p h_m90 2 (pc' := 15) (L' := [(0, .ref 120)]) (st' := [.int (0 : Int32), .ref 120]) rfl ?_
  refine w_pf H (19, 4, [(1, .int (0 : Int32)), (0, .ref 121), (2, .int (0 : Int32)), (3, .int (0 : Int32))], none) (pc' := 18) (L' := [(0, .ref 120)]) h_m90 (z_at.mk 3 rfl rfl) rfl (by decide) rfl (Or.inl rfl) rfl rfl rfl ?_
  clear H m; intro m H
  refine w_p h_m90 2 (pc' := 20) (L' := [(0, .ref 120)]) (st' := [.int (0 : Int32), .ref 120]) rfl ?_
  refine w_pf H (19, 4, [(2, .int (0 : Int32)), (1, .int (0 : Int32)), (0, .ref 121), (3, .int (0 : Int32))], none) (pc' := 23) (L' := [(0, .ref 120)]) h_m90 (z_at.mk 3 rfl rfl) rfl (by decide) rfl (Or.inl rfl) rfl rfl rfl ?_
  clear H m; intro m H
  refine w_p h_m90 2 (pc' := 25) (L' := [(0, .ref 120)]) (st' := [.int (-1 : Int32), .ref 120]) rfl ?_
  refine w_pf H (19, 4, [(3, .int (-1 : Int32)), (2, .int (0 : Int32)), (1, .int (0 : Int32)), (0, .ref 121)], none) (pc' := 28) (L' := [(0, .ref 120)]) h_m90 (z_at.mk 3 rfl rfl) rfl (by decide) rfl (Or.inl rfl) rfl rfl rfl ?_
  clear H m; intro m H
  refine w_rv h_m90 (z_at.mk 1 rfl rfl) rfl ?_
  show z_W 999 114 68 [(0, .ref 39)] [.ref 120, .ref 39] m _
  refine w_pf H (21, 14, [(5, .ref 120), (4, .ref 118), (3, .ref 106), (2, .int (0 : Int32)), (1, .ref 73), (0, .ref 40), (6, .null), (7, .null), (8, .null), (9, .int (0 : Int32)), (10, .null), (11, .null), (12, .null), (13, .null)], none) (pc' := 71) (L' := [(0, .ref 39)]) h_m114 (z_at.mk 3 rfl rfl) rfl (by decide) rfl (Or.inr ⟨rfl, rfl, by decide⟩) rfl rfl rfl ?_
  clear H m; intro m H
  refine w_p h_m114 1 (pc' := 72) (L' := [(0, .ref 39)]) (st' := [.ref 39]) rfl ?_
  refine w_nw H (15, 6, [(0, .null), (1, .null), (2, .null), (3, .null), (4, .null), (5, .int (0 : Int32))], none) (N' := 123) (S' := 5223) (pc' := 75) (L' := [(0, .ref 39)]) h_m114 (z_at.mk 3 rfl rfl) rfl rfl rfl rfl rfl rfl ?_
  clear H m; intro m H
  refine w_p h_m114 2 (pc' := 77) (L' := [(0, .ref 39)]) (st' := [.ref 39, .ref 122, .ref 122, .ref 39]) rfl ?_
  refine w_gf H (pc' := 80) (L' := [(0, .ref 39)]) h_m114 (z_at.mk 3 rfl rfl) rfl (u := .ref 120) rfl rfl rfl ?_
  refine w_p h_m114 1 (pc' := 81) (L' := [(0, .ref 39)]) (st' := [.ref 39, .ref 120, .ref 122, .ref 122, .ref 39]) rfl ?_
  refine w_gf H (pc' := 84) (L' := [(0, .ref 39)]) h_m114 (z_at.mk 3 rfl rfl) rfl (u := .ref 40) rfl rfl rfl ?_
  refine w_gf H (pc' := 87) (L' := [(0, .ref 39)]) h_m114 (z_at.mk 3 rfl rfl) rfl (u := .ref 41) rfl rfl rfl ?_
  refine w_cs (As := [.ref 122, .ref 120, .ref 41]) (rest := [.ref 122, .ref 39]) (j := 65) (L0 := [(0, .ref 122), (1, .ref 120), (2, .ref 41)]) (pc' := 90) (L' := [(0, .ref 39)]) h_m114 (z_at.mk 3 rfl rfl) (Or.inr ⟨rfl, rfl⟩) rfl rfl rfl rfl rfl ?_
  refine w_p h_m65 4 (pc' := 7) (L' := [(0, .ref 122), (1, .ref 120), (2, .ref 41)]) (st' := [.int (8 : Int32), .ref 122]) rfl ?_
  refine w_na H (ti := 0) (n := 8) (.int (0 : Int32)) (N' := 124) (S' := 5231) (pc' := 9) (L' := [(0, .ref 122), (1, .ref 120), (2, .ref 41)]) h_m65 (z_at.mk 2 rfl rfl) rfl (by decide) rfl (by decide) rfl rfl rfl rfl rfl ?_
  clear H m; intro m H
  refine w_pf H (15, 6, [(2, .ref 123), (0, .null), (1, .null), (3, .null), (4, .null), (5, .int (0 : Int32))], none) (pc' := 12) (L' := [(0, .ref 122), (1, .ref 120), (2, .ref 41)]) h_m65 (z_at.mk 3 rfl rfl) rfl (by decide) rfl (Or.inr ⟨rfl, rfl, by decide⟩) rfl rfl rfl ?_
  clear H m; intro m H
  refine w_p h_m65 2 (pc' := 15) (L' := [(0, .ref 122), (1, .ref 120), (2, .ref 41)]) (st' := [.int (8 : Int32), .ref 122]) rfl ?_
  refine w_na H (ti := 0) (n := 8) (.int (0 : Int32)) (N' := 125) (S' := 5239) (pc' := 17) (L' := [(0, .ref 122), (1, .ref 120), (2, .ref 41)]) h_m65 (z_at.mk 2 rfl rfl) rfl (by decide) rfl (by decide) rfl rfl rfl rfl rfl ?_
  clear H m; intro m H
  refine w_pf H (15, 6, [(3, .ref 124), (2, .ref 123), (0, .null), (1, .null), (4, .null), (5, .int (0 : Int32))], none) (pc' := 20) (L' := [(0, .ref 122), (1, .ref 120), (2, .ref 41)]) h_m65 (z_at.mk 3 rfl rfl) rfl (by decide) rfl (Or.inr ⟨rfl, rfl, by decide⟩) rfl rfl rfl ?_
  clear H m; intro m H
  refine w_p h_m65 2 (pc' := 23) (L' := [(0, .ref 122), (1, .ref 120), (2, .ref 41)]) (st' := [.int (8 : Int32), .ref 122]) rfl ?_
  refine w_na H (ti := 1) (n := 8) (.long (0 : Int64)) (N' := 126) (S' := 5247) (pc' := 25) (L' := [(0, .ref 122), (1, .ref 120), (2, .ref 41)]) h_m65 (z_at.mk 2 rfl rfl) rfl (by decide) rfl (by decide) rfl rfl rfl rfl rfl ?_
  clear H m; intro m H
  refine w_pf H (15, 6, [(4, .ref 125), (3, .ref 124), (2, .ref 123), (0, .null), (1, .null), (5, .int (0 : Int32))], none) (pc' := 28) (L' := [(0, .ref 122), (1, .ref 120), (2, .ref 41)]) h_m65 (z_at.mk 3 rfl rfl) rfl (by decide) rfl (Or.inr ⟨rfl, rfl, by decide⟩) rfl rfl rfl ?_
  clear H m; intro m H
  refine w_p h_m65 2 (pc' := 30) (L' := [(0, .ref 122), (1, .ref 120), (2, .ref 41)]) (st' := [.int (0 : Int32), .ref 122]) rfl ?_
  refine w_pf H (15, 6, [(5, .int (0 : Int32)), (4, .ref 125), (3, .ref 124), (2, .ref 123), (0, .null), (1, .null)], none) (pc' := 33) (L' := [(0, .ref 122), (1, .ref 120), (2, .ref 41)]) h_m65 (z_at.mk 3 rfl rfl) rfl (by decide) rfl (Or.inl rfl) rfl rfl rfl ?_
  clear H m; intro m H
  refine w_p h_m65 2 (pc' := 35) (L' := [(0, .ref 122), (1, .ref 120), (2, .ref 41)]) (st' := [.ref 120, .ref 122]) rfl ?_
  refine w_pf H (15, 6, [(0, .ref 120), (5, .int (0 : Int32)), (4, .ref 125), (3, .ref 124), (2, .ref 123), (1, .null)], none) (pc' := 38) (L' := [(0, .ref 122), (1, .ref 120), (2, .ref 41)]) h_m65 (z_at.mk 3 rfl rfl) rfl (by decide) rfl (Or.inr ⟨rfl, rfl, by decide⟩) rfl rfl rfl ?_
  clear H m; intro m H
  refine w_p h_m65 2 (pc' := 40) (L' := [(0, .ref 122), (1, .ref 120), (2, .ref 41)]) (st' := [.ref 41, .ref 122]) rfl ?_
  refine w_pf H (15, 6, [(1, .ref 41), (0, .ref 120), (5, .int (0 : Int32)), (4, .ref 125), (3, .ref 124), (2, .ref 123)], none) (pc' := 43) (L' := [(0, .ref 122), (1, .ref 120), (2, .ref 41)]) h_m65 (z_at.mk 3 rfl rfl) rfl (by decide) rfl (Or.inr ⟨rfl, rfl, by decide⟩) rfl rfl rfl ?_
  clear H m; intro m H
  refine w_rv h_m65 (z_at.mk 1 rfl rfl) rfl ?_
  show z_W 999 114 90 [(0, .ref 39)] [.ref 122, .ref 39] m _
  refine w_pf H (21, 14, [(6, .ref 122), (5, .ref 120), (4, .ref 118), (3, .ref 106), (2, .int (0 : Int32)), (1, .ref 73), (0, .ref 40), (7, .null), (8, .null), (9, .int (0 : Int32)), (10, .null), (11, .null), (12, .null), (13, .null)], none) (pc' := 93) (L' := [(0, .ref 39)]) h_m114 (z_at.mk 3 rfl rfl) rfl (by decide) rfl (Or.inr ⟨rfl, rfl, by decide⟩) rfl rfl rfl ?_
  clear H m; intro m H
  refine w_p h_m114 1 (pc' := 94) (L' := [(0, .ref 39)]) (st' := [.ref 39]) rfl ?_
  refine w_nw H (11, 2, [(0, .null), (1, .int (0 : Int32))], none) (N' := 127) (S' := 5249) (pc' := 97) (L' := [(0, .ref 39)]) h_m114 (z_at.mk 3 rfl rfl) rfl rfl rfl rfl rfl rfl ?_
  clear H m; intro m H
  refine w_p h_m114 2 (pc' := 100) (L' := [(0, .ref 39)]) (st' := [.int (12 : Int32), .ref 126, .ref 126, .ref 39]) rfl ?_
  refine w_cs (As := [.ref 126, .int (12 : Int32)]) (rest := [.ref 126, .ref 39]) (j := 13) (L0 := [(0, .ref 126), (1, .int (12 : Int32))]) (pc' := 103) (L' := [(0, .ref 39)]) h_m114 (z_at.mk 3 rfl rfl) (Or.inr ⟨rfl, rfl⟩) rfl rfl rfl rfl rfl ?_
  refine w_p h_m13 4 (pc' := 6) (L' := [(0, .ref 126), (1, .int (12 : Int32))]) (st' := [.int (0 : Int32), .ref 126]) rfl ?_
  refine w_pf H (11, 2, [(1, .int (0 : Int32)), (0, .null)], none) (pc' := 9) (L' := [(0, .ref 126), (1, .int (12 : Int32))]) h_m13 (z_at.mk 3 rfl rfl) rfl (by decide) rfl (Or.inl rfl) rfl rfl rfl ?_
  clear H m; intro m H
  refine w_p h_m13 3 (pc' := 12) (L' := [(0, .ref 126), (1, .int (12 : Int32))]) (st' := [.int (12 : Int32), .int (0 : Int32), .ref 126]) rfl ?_
  refine w_cs (As := [.int (0 : Int32), .int (12 : Int32)]) (rest := [.ref 126]) (j := 289) (L0 := [(0, .int (0 : Int32)), (1, .int (12 : Int32))]) (pc' := 15) (L' := [(0, .ref 126), (1, .int (12 : Int32))]) h_m13 (z_at.mk 3 rfl rfl) (Or.inl ⟨rfl, rfl⟩) rfl rfl rfl rfl rfl ?_
  refine w_p h_m289 4 (pc' := 10) (L' := []) (st' := [.int (12 : Int32)]) rfl ?_
  refine w_ri h_m289 (z_at.mk 1 rfl rfl) rfl rfl ?_
  show z_W 998 13 15 [(0, .ref 126), (1, .int (12 : Int32))] [.int (12 : Int32), .ref 126] m _
  refine w_na H (ti := 0) (n := 12) (.int (0 : Int32)) (N' := 128) (S' := 5261) (pc' := 17) (L' := [(0, .ref 126), (1, .int (12 : Int32))]) h_m13 (z_at.mk 2 rfl rfl) rfl (by decide) rfl (by decide) rfl rfl rfl rfl rfl ?_
  clear H m; intro m H
  refine w_pf H (11, 2, [(0, .ref 127), (1, .int (0 : Int32))], none) (pc' := 20) (L' := [(0, .ref 126), (1, .int (12 : Int32))]) h_m13 (z_at.mk 3 rfl rfl) rfl (by decide) rfl (Or.inr ⟨rfl, rfl, by decide⟩) rfl rfl rfl ?_
  clear H m; intro m H
  refine w_rv h_m13 (z_at.mk 1 rfl rfl) rfl ?_
  show z_W 999 114 103 [(0, .ref 39)] [.ref 126, .ref 39] m _
  refine w_pf H (21, 14, [(7, .ref 126), (6, .ref 122), (5, .ref 120), (4, .ref 118), (3, .ref 106), (2, .int (0 : Int32)), (1, .ref 73), (0, .ref 40), (8, .null), (9, .int (0 : Int32)), (10, .null), (11, .null), (12, .null), (13, .null)], none) (pc' := 106) (L' := [(0, .ref 39)]) h_m114 (z_at.mk 3 rfl rfl) rfl (by decide) rfl (Or.inr ⟨rfl, rfl, by decide⟩) rfl rfl rfl ?_
  clear H m; intro m H
  refine w_p h_m114 2 (pc' := 109) (L' := [(0, .ref 39)]) (st' := [.int (8 : Int32), .ref 39]) rfl ?_
  refine w_na H (ti := 1) (n := 8) (.long (0 : Int64)) (N' := 129) (S' := 5269) (pc' := 111) (L' := [(0, .ref 39)]) h_m114 (z_at.mk 2 rfl rfl) rfl (by decide) rfl (by decide) rfl rfl rfl rfl rfl ?_
  clear H m; intro m H
  refine w_pf H (21, 14, [(8, .ref 128), (7, .ref 126), (6, .ref 122), (5, .ref 120), (4, .ref 118), (3, .ref 106), (2, .int (0 : Int32)), (1, .ref 73), (0, .ref 40), (9, .int (0 : Int32)), (10, .null), (11, .null), (12, .null), (13, .null)], none) (pc' := 114) (L' := [(0, .ref 39)]) h_m114 (z_at.mk 3 rfl rfl) rfl (by decide) rfl (Or.inr ⟨rfl, rfl, by decide⟩) rfl rfl rfl ?_
  clear H m; intro m H
  refine w_p h_m114 2 (pc' := 116) (L' := [(0, .ref 39)]) (st' := [.int (0 : Int32), .ref 39]) rfl ?_
  refine w_pf H (21, 14, [(9, .int (0 : Int32)), (8, .ref 128), (7, .ref 126), (6, .ref 122), (5, .ref 120), (4, .ref 118), (3, .ref 106), (2, .int (0 : Int32)), (1, .ref 73), (0, .ref 40), (10, .null), (11, .null), (12, .null), (13, .null)], none) (pc' := 119) (L' := [(0, .ref 39)]) h_m114 (z_at.mk 3 rfl rfl) rfl (by decide) rfl (Or.inl rfl) rfl rfl rfl ?_
  clear H m; intro m H
  refine w_p h_m114 1 (pc' := 120) (L' := [(0, .ref 39)]) (st' := [.ref 39]) rfl ?_
  refine w_nw H (23, 4, [(0, .null), (1, .int (0 : Int32)), (2, .int (0 : Int32)), (3, .int (0 : Int32))], none) (N' := 130) (S' := 5273) (pc' := 123) (L' := [(0, .ref 39)]) h_m114 (z_at.mk 3 rfl rfl) rfl rfl rfl rfl rfl rfl ?_
  clear H m; intro m H
  refine w_p h_m114 1 (pc' := 124) (L' := [(0, .ref 39)]) (st' := [.ref 129, .ref 129, .ref 39]) rfl ?_
  refine w_cs (As := [.ref 129]) (rest := [.ref 129, .ref 39]) (j := 301) (L0 := [(0, .ref 129)]) (pc' := 127) (L' := [(0, .ref 39)]) h_m114 (z_at.mk 3 rfl rfl) (Or.inr ⟨rfl, rfl⟩) rfl rfl rfl rfl rfl ?_
  refine w_p h_m301 2 (pc' := 3) (L' := [(0, .ref 129)]) (st' := [.int (16 : Int32), .ref 129]) rfl ?_
  refine w_cs (As := [.ref 129, .int (16 : Int32)]) (rest := []) (j := 272) (L0 := [(0, .ref 129), (1, .int (16 : Int32))]) (pc' := 6) (L' := [(0, .ref 129)]) h_m301 (z_at.mk 3 rfl rfl) (Or.inr ⟨rfl, rfl⟩) rfl rfl rfl rfl rfl ?_
  refine w_p h_m272 6 (pc' := 12) (L' := [(0, .ref 129), (1, .int (16 : Int32))]) (st' := [.int (16 : Int32), .ref 129]) rfl ?_
  refine w_na H (ti := 2) (n := 16) (.int (0 : Int32)) (N' := 131) (S' := 5289) (pc' := 14) (L' := [(0, .ref 129), (1, .int (16 : Int32))]) h_m272 (z_at.mk 2 rfl rfl) rfl (by decide) rfl (by decide) rfl rfl rfl rfl rfl ?_
  clear H m; intro m H
  refine w_pf H (23, 4, [(0, .ref 130), (1, .int (0 : Int32)), (2, .int (0 : Int32)), (3, .int (0 : Int32))], none) (pc' := 17) (L' := [(0, .ref 129), (1, .int (16 : Int32))]) h_m272 (z_at.mk 3 rfl rfl) rfl (by decide) rfl (Or.inl rfl) rfl rfl rfl ?_
  clear H m; intro m H
  refine w_p h_m272 2 (pc' := 19) (L' := [(0, .ref 129), (1, .int (16 : Int32))]) (st' := [.int (0 : Int32), .ref 129]) rfl ?_
  refine w_pf H (23, 4, [(1, .int (0 : Int32)), (0, .ref 130), (2, .int (0 : Int32)), (3, .int (0 : Int32))], none) (pc' := 22) (L' := [(0, .ref 129), (1, .int (16 : Int32))]) h_m272 (z_at.mk 3 rfl rfl) rfl (by decide) rfl (Or.inl rfl) rfl rfl rfl ?_
  clear H m; intro m H
  refine w_p h_m272 1 (pc' := 38) (L' := []) (st' := []) rfl ?_
  refine w_rv h_m272 (z_at.mk 1 rfl rfl) rfl ?_
  show z_W 998 301 6 [(0, .ref 129)] [] m _
  refine w_rv h_m301 (z_at.mk 1 rfl rfl) rfl ?_
  show z_W 999 114 127 [(0, .ref 39)] [.ref 129, .ref 39] m _
  refine w_pf H (21, 14, [(10, .ref 129), (9, .int (0 : Int32)), (8, .ref 128), (7, .ref 126), (6, .ref 122), (5, .ref 120), (4, .ref 118), (3, .ref 106), (2, .int (0 : Int32)), (1, .ref 73), (0, .ref 40), (11, .null), (12, .null), (13, .null)], none) (pc' := 130) (L' := [(0, .ref 39)]) h_m114 (z_at.mk 3 rfl rfl) rfl (by decide) rfl (Or.inr ⟨rfl, rfl, by decide⟩) rfl rfl rfl ?_
  clear H m; intro m H
  refine w_p h_m114 1 (pc' := 131) (L' := [(0, .ref 39)]) (st' := [.ref 39]) rfl ?_
  refine w_nw H (11, 2, [(0, .null), (1, .int (0 : Int32))], none) (N' := 132) (S' := 5291) (pc' := 134) (L' := [(0, .ref 39)]) h_m114 (z_at.mk 3 rfl rfl) rfl rfl rfl rfl rfl rfl ?_
  clear H m; intro m H
  refine w_p h_m114 2 (pc' := 138) (L' := [(0, .ref 39)]) (st' := [.int (181 : Int32), .ref 131, .ref 131, .ref 39]) rfl ?_
  refine w_cs (As := [.ref 131, .int (181 : Int32)]) (rest := [.ref 131, .ref 39]) (j := 13) (L0 := [(0, .ref 131), (1, .int (181 : Int32))]) (pc' := 141) (L' := [(0, .ref 39)]) h_m114 (z_at.mk 3 rfl rfl) (Or.inr ⟨rfl, rfl⟩) rfl rfl rfl rfl rfl ?_
  refine w_p h_m13 4 (pc' := 6) (L' := [(0, .ref 131), (1, .int (181 : Int32))]) (st' := [.int (0 : Int32), .ref 131]) rfl ?_
  refine w_pf H (11, 2, [(1, .int (0 : Int32)), (0, .null)], none) (pc' := 9) (L' := [(0, .ref 131), (1, .int (181 : Int32))]) h_m13 (z_at.mk 3 rfl rfl) rfl (by decide) rfl (Or.inl rfl) rfl rfl rfl ?_
  clear H m; intro m H
  refine w_p h_m13 3 (pc' := 12) (L' := [(0, .ref 131), (1, .int (181 : Int32))]) (st' := [.int (181 : Int32), .int (0 : Int32), .ref 131]) rfl ?_
  refine w_cs (As := [.int (0 : Int32), .int (181 : Int32)]) (rest := [.ref 131]) (j := 289) (L0 := [(0, .int (0 : Int32)), (1, .int (181 : Int32))]) (pc' := 15) (L' := [(0, .ref 131), (1, .int (181 : Int32))]) h_m13 (z_at.mk 3 rfl rfl) (Or.inl ⟨rfl, rfl⟩) rfl rfl rfl rfl rfl ?_
  refine w_p h_m289 4 (pc' := 10) (L' := []) (st' := [.int (181 : Int32)]) rfl ?_
  refine w_ri h_m289 (z_at.mk 1 rfl rfl) rfl rfl ?_
  show z_W 998 13 15 [(0, .ref 131), (1, .int (181 : Int32))] [.int (181 : Int32), .ref 131] m _
  refine w_na H (ti := 0) (n := 181) (.int (0 : Int32)) (N' := 133) (S' := 5472) (pc' := 17) (L' := [(0, .ref 131), (1, .int (181 : Int32))]) h_m13 (z_at.mk 2 rfl rfl) rfl (by decide) rfl (by decide) rfl rfl rfl rfl rfl ?_
  clear H m; intro m H
  refine w_pf H (11, 2, [(0, .ref 132), (1, .int (0 : Int32))], none) (pc' := 20) (L' := [(0, .ref 131), (1, .int (181 : Int32))]) h_m13 (z_at.mk 3 rfl rfl) rfl (by decide) rfl (Or.inr ⟨rfl, rfl, by decide⟩) rfl rfl rfl ?_
  clear H m; intro m H
  refine w_rv h_m13 (z_at.mk 1 rfl rfl) rfl ?_
  show z_W 999 114 141 [(0, .ref 39)] [.ref 131, .ref 39] m _
  refine w_pf H (21, 14, [(11, .ref 131), (10, .ref 129), (9, .int (0 : Int32)), (8, .ref 128), (7, .ref 126), (6, .ref 122), (5, .ref 120), (4, .ref 118), (3, .ref 106), (2, .int (0 : Int32)), (1, .ref 73), (0, .ref 40), (12, .null), (13, .null)], none) (pc' := 144) (L' := [(0, .ref 39)]) h_m114 (z_at.mk 3 rfl rfl) rfl (by decide) rfl (Or.inr ⟨rfl, rfl, by decide⟩) rfl rfl rfl ?_
  clear H m; intro m H
  refine w_p h_m114 2 (pc' := 148) (L' := [(0, .ref 39)]) (st' := [.int (181 : Int32), .ref 39]) rfl ?_
  refine w_na H (ti := 0) (n := 181) (.int (0 : Int32)) (N' := 134) (S' := 5653) (pc' := 150) (L' := [(0, .ref 39)]) h_m114 (z_at.mk 2 rfl rfl) rfl (by decide) rfl (by decide) rfl rfl rfl rfl rfl ?_
  clear H m; intro m H
  refine w_pf H (21, 14, [(12, .ref 133), (11, .ref 131), (10, .ref 129), (9, .int (0 : Int32)), (8, .ref 128), (7, .ref 126), (6, .ref 122), (5, .ref 120), (4, .ref 118), (3, .ref 106), (2, .int (0 : Int32)), (1, .ref 73), (0, .ref 40), (13, .null)], none) (pc' := 153) (L' := [(0, .ref 39)]) h_m114 (z_at.mk 3 rfl rfl) rfl (by decide) rfl (Or.inr ⟨rfl, rfl, by decide⟩) rfl rfl rfl ?_
  clear H m; intro m H
  refine w_p h_m114 1 (pc' := 154) (L' := [(0, .ref 39)]) (st' := [.ref 39]) rfl ?_
  refine w_nw H (14, 2, [(0, .null), (1, .null)], none) (N' := 135) (S' := 5655) (pc' := 157) (L' := [(0, .ref 39)]) h_m114 (z_at.mk 3 rfl rfl) rfl rfl rfl rfl rfl rfl ?_
  clear H m; intro m H
  refine w_p h_m114 1 (pc' := 158) (L' := [(0, .ref 39)]) (st' := [.ref 134, .ref 134, .ref 39]) rfl ?_
  refine w_cs (As := [.ref 134]) (rest := [.ref 134, .ref 39]) (j := 57) (L0 := [(0, .ref 134)]) (pc' := 161) (L' := [(0, .ref 39)]) h_m114 (z_at.mk 3 rfl rfl) (Or.inr ⟨rfl, rfl⟩) rfl rfl rfl rfl rfl ?_
  refine w_p h_m57 5 (pc' := 9) (L' := [(0, .ref 134)]) (st' := [.int (60 : Int32), .int (6 : Int32), .ref 134]) rfl ?_
  refine w_mm H (n := 6) (k2 := 60) (N' := 142) (S' := 6021) (T' := [(141, (1, 60, [], some (.long (0 : Int64)))), (140, (1, 60, [], some (.long (0 : Int64)))), (139, (1, 60, [], some (.long (0 : Int64)))), (138, (1, 60, [], some (.long (0 : Int64)))), (137, (1, 60, [], some (.long (0 : Int64)))), (136, (1, 60, [], some (.long (0 : Int64)))), (135, (3, 6, [(0, .ref 136), (1, .ref 137), (2, .ref 138), (3, .ref 139), (4, .ref 140), (5, .ref 141)], none))]) (pc' := 13) (L' := [(0, .ref 134)]) h_m57 (z_at.mk 4 rfl rfl) rfl rfl rfl (by decide) (by decide) rfl rfl rfl rfl rfl ?_
  clear H m; intro m H
  refine w_pf H (14, 2, [(0, .ref 135), (1, .null)], none) (pc' := 16) (L' := [(0, .ref 134)]) h_m57 (z_at.mk 3 rfl rfl) rfl (by decide) rfl (Or.inr ⟨rfl, rfl, by decide⟩) rfl rfl rfl ?_
  clear H m; intro m H
  refine w_p h_m57 2 (pc' := 19) (L' := [(0, .ref 134)]) (st' := [.int (6 : Int32), .ref 134]) rfl ?_
  refine w_na H (ti := 0) (n := 6) (.int (0 : Int32)) (N' := 143) (S' := 6027) (pc' := 21) (L' := [(0, .ref 134)]) h_m57 (z_at.mk 2 rfl rfl) rfl (by decide) rfl (by decide) rfl rfl rfl rfl rfl ?_
  clear H m; intro m H
  refine w_pf H (14, 2, [(1, .ref 142), (0, .ref 135)], none) (pc' := 24) (L' := [(0, .ref 134)]) h_m57 (z_at.mk 3 rfl rfl) rfl (by decide) rfl (Or.inr ⟨rfl, rfl, by decide⟩) rfl rfl rfl ?_
  clear H m; intro m H
  refine w_p h_m57 6 (pc' := 33) (L' := [(0, .ref 134), (1, .int (0 : Int32))]) (st' := [.ref 134]) rfl ?_
  refine w_gf H (pc' := 36) (L' := [(0, .ref 134), (1, .int (0 : Int32))]) h_m57 (z_at.mk 3 rfl rfl) rfl (u := .ref 142) rfl rfl rfl ?_
  refine w_p h_m57 2 (pc' := 38) (L' := [(0, .ref 134), (1, .int (0 : Int32))]) (st' := [.int (-1 : Int32), .int (0 : Int32), .ref 142]) rfl ?_
  refine w_as H (t := 0) (j := 0) (u := .int (-1 : Int32)) (0, 6, [(0, .int (-1 : Int32))], some (.int (0 : Int32))) (pc' := 39) (L' := [(0, .ref 134), (1, .int (0 : Int32))]) h_m57 (z_at.mk 1 rfl rfl) rfl rfl (w_ui _ _ (by decide)) rfl rfl rfl rfl ?_
  clear H m; intro m H
  refine w_p h_m57 6 (pc' := 33) (L' := [(0, .ref 134), (1, .int (1 : Int32))]) (st' := [.ref 134]) rfl ?_
  refine w_gf H (pc' := 36) (L' := [(0, .ref 134), (1, .int (1 : Int32))]) h_m57 (z_at.mk 3 rfl rfl) rfl (u := .ref 142) rfl rfl rfl ?_
  refine w_p h_m57 2 (pc' := 38) (L' := [(0, .ref 134), (1, .int (1 : Int32))]) (st' := [.int (-1 : Int32), .int (1 : Int32), .ref 142]) rfl ?_
  refine w_as H (t := 0) (j := 1) (u := .int (-1 : Int32)) (0, 6, [(1, .int (-1 : Int32)), (0, .int (-1 : Int32))], some (.int (0 : Int32))) (pc' := 39) (L' := [(0, .ref 134), (1, .int (1 : Int32))]) h_m57 (z_at.mk 1 rfl rfl) rfl rfl (w_ui _ _ (by decide)) rfl rfl rfl rfl ?_
  clear H m; intro m H
  refine w_p h_m57 6 (pc' := 33) (L' := [(0, .ref 134), (1, .int (2 : Int32))]) (st' := [.ref 134]) rfl ?_
  refine w_gf H (pc' := 36) (L' := [(0, .ref 134), (1, .int (2 : Int32))]) h_m57 (z_at.mk 3 rfl rfl) rfl (u := .ref 142) rfl rfl rfl ?_
  refine w_p h_m57 2 (pc' := 38) (L' := [(0, .ref 134), (1, .int (2 : Int32))]) (st' := [.int (-1 : Int32), .int (2 : Int32), .ref 142]) rfl ?_
  refine w_as H (t := 0) (j := 2) (u := .int (-1 : Int32)) (0, 6, [(2, .int (-1 : Int32)), (1, .int (-1 : Int32)), (0, .int (-1 : Int32))], some (.int (0 : Int32))) (pc' := 39) (L' := [(0, .ref 134), (1, .int (2 : Int32))]) h_m57 (z_at.mk 1 rfl rfl) rfl rfl (w_ui _ _ (by decide)) rfl rfl rfl rfl ?_
  clear H m; intro m H
  refine w_p h_m57 6 (pc' := 33) (L' := [(0, .ref 134), (1, .int (3 : Int32))]) (st' := [.ref 134]) rfl ?_
  refine w_gf H (pc' := 36) (L' := [(0, .ref 134), (1, .int (3 : Int32))]) h_m57 (z_at.mk 3 rfl rfl) rfl (u := .ref 142) rfl rfl rfl ?_
  refine w_p h_m57 2 (pc' := 38) (L' := [(0, .ref 134), (1, .int (3 : Int32))]) (st' := [.int (-1 : Int32), .int (3 : Int32), .ref 142]) rfl ?_
  refine w_as H (t := 0) (j := 3) (u := .int (-1 : Int32)) (0, 6, [(3, .int (-1 : Int32)), (2, .int (-1 : Int32)), (1, .int (-1 : Int32)), (0, .int (-1 : Int32))], some (.int (0 : Int32))) (pc' := 39) (L' := [(0, .ref 134), (1, .int (3 : Int32))]) h_m57 (z_at.mk 1 rfl rfl) rfl rfl (w_ui _ _ (by decide)) rfl rfl rfl rfl ?_
  clear H m; intro m H
  refine w_p h_m57 6 (pc' := 33) (L' := [(0, .ref 134), (1, .int (4 : Int32))]) (st' := [.ref 134]) rfl ?_
  refine w_gf H (pc' := 36) (L' := [(0, .ref 134), (1, .int (4 : Int32))]) h_m57 (z_at.mk 3 rfl rfl) rfl (u := .ref 142) rfl rfl rfl ?_
  refine w_p h_m57 2 (pc' := 38) (L' := [(0, .ref 134), (1, .int (4 : Int32))]) (st' := [.int (-1 : Int32), .int (4 : Int32), .ref 142]) rfl ?_
  refine w_as H (t := 0) (j := 4) (u := .int (-1 : Int32)) (0, 6, [(4, .int (-1 : Int32)), (3, .int (-1 : Int32)), (2, .int (-1 : Int32)), (1, .int (-1 : Int32)), (0, .int (-1 : Int32))], some (.int (0 : Int32))) (pc' := 39) (L' := [(0, .ref 134), (1, .int (4 : Int32))]) h_m57 (z_at.mk 1 rfl rfl) rfl rfl (w_ui _ _ (by decide)) rfl rfl rfl rfl ?_
  clear H m; intro m H
  refine w_p h_m57 6 (pc' := 33) (L' := [(0, .ref 134), (1, .int (5 : Int32))]) (st' := [.ref 134]) rfl ?_
  refine w_gf H (pc' := 36) (L' := [(0, .ref 134), (1, .int (5 : Int32))]) h_m57 (z_at.mk 3 rfl rfl) rfl (u := .ref 142) rfl rfl rfl ?_
  refine w_p h_m57 2 (pc' := 38) (L' := [(0, .ref 134), (1, .int (5 : Int32))]) (st' := [.int (-1 : Int32), .int (5 : Int32), .ref 142]) rfl ?_
  refine w_as H (t := 0) (j := 5) (u := .int (-1 : Int32)) (0, 6, [(5, .int (-1 : Int32)), (4, .int (-1 : Int32)), (3, .int (-1 : Int32)), (2, .int (-1 : Int32)), (1, .int (-1 : Int32)), (0, .int (-1 : Int32))], some (.int (0 : Int32))) (pc' := 39) (L' := [(0, .ref 134), (1, .int (5 : Int32))]) h_m57 (z_at.mk 1 rfl rfl) rfl rfl (w_ui _ _ (by decide)) rfl rfl rfl rfl ?_
  clear H m; intro m H
  refine w_p h_m57 5 (pc' := 45) (L' := [(0, .ref 134), (1, .int (6 : Int32))]) (st' := []) rfl ?_
  refine w_rv h_m57 (z_at.mk 1 rfl rfl) rfl ?_
  show z_W 999 114 161 [(0, .ref 39)] [.ref 134, .ref 39] m _
  refine w_pf H (21, 14, [(13, .ref 134), (12, .ref 133), (11, .ref 131), (10, .ref 129), (9, .int (0 : Int32)), (8, .ref 128), (7, .ref 126), (6, .ref 122), (5, .ref 120), (4, .ref 118), (3, .ref 106), (2, .int (0 : Int32)), (1, .ref 73), (0, .ref 40)], none) (pc' := 164) (L' := [(0, .ref 39)]) h_m114 (z_at.mk 3 rfl rfl) rfl (by decide) rfl (Or.inr ⟨rfl, rfl, by decide⟩) rfl rfl rfl ?_
  clear H m; intro m H
  refine w_rv h_m114 (z_at.mk 1 rfl rfl) rfl ?_
  show z_W 1000 1000 7 [(0, .ref 0)] [.ref 39] m _
  refine w_p h_m1000 1 (pc' := 8) (L' := [(1, .ref 39), (0, .ref 0)]) (st' := []) rfl ?_
  refine w_nw H (22, 35, [(0, .null), (1, .null), (2, .null), (3, .null), (4, .null), (5, .null), (6, .int (0 : Int32)), (7, .null), (8, .null), (9, .null), (10, .int (0 : Int32)), (11, .null), (12, .null), (13, .null), (14, .int (0 : Int32)), (15, .int (0 : Int32)), (16, .null), (17, .null), (18, .null), (19, .null), (20, .int (0 : Int32)), (21, .int (0 : Int32)), (22, .int (0 : Int32)), (23, .int (0 : Int32)), (24, .null), (25, .null), (26, .null), (27, .int (0 : Int32)), (28, .null), (29, .int (0 : Int32)), (30, .null), (31, .null), (32, .int (0 : Int32)), (33, .null), (34, .null)], none) (N' := 144) (S' := 6062) (pc' := 11) (L' := [(1, .ref 39), (0, .ref 0)]) h_m1000 (z_at.mk 3 rfl rfl) rfl rfl rfl rfl rfl rfl ?_
  clear H m; intro m H
  refine w_p h_m1000 1 (pc' := 12) (L' := [(1, .ref 39), (0, .ref 0)]) (st' := [.ref 143, .ref 143]) rfl ?_
  refine w_cs (As := [.ref 143]) (rest := [.ref 143]) (j := 158) (L0 := [(0, .ref 143)]) (pc' := 15) (L' := [(1, .ref 39), (0, .ref 0)]) h_m1000 (z_at.mk 3 rfl rfl) (Or.inr ⟨rfl, rfl⟩) rfl rfl rfl rfl rfl ?_
  refine w_p h_m158 4 (pc' := 8) (L' := [(0, .ref 143)]) (st' := [.int (2740 : Int32), .ref 143]) rfl ?_
  refine w_na H (ti := 0) (n := 2740) (.int (0 : Int32)) (N' := 145) (S' := 8802) (pc' := 10) (L' := [(0, .ref 143)]) h_m158 (z_at.mk 2 rfl rfl) rfl (by decide) rfl (by decide) rfl rfl rfl rfl rfl ?_
  clear H m; intro m H
  refine w_pf H (22, 35, [(0, .ref 144), (1, .null), (2, .null), (3, .null), (4, .null), (5, .null), (6, .int (0 : Int32)), (7, .null), (8, .null), (9, .null), (10, .int (0 : Int32)), (11, .null), (12, .null), (13, .null), (14, .int (0 : Int32)), (15, .int (0 : Int32)), (16, .null), (17, .null), (18, .null), (19, .null), (20, .int (0 : Int32)), (21, .int (0 : Int32)), (22, .int (0 : Int32)), (23, .int (0 : Int32)), (24, .null), (25, .null), (26, .null), (27, .int (0 : Int32)), (28, .null), (29, .int (0 : Int32)), (30, .null), (31, .null), (32, .int (0 : Int32)), (33, .null), (34, .null)], none) (pc' := 13) (L' := [(0, .ref 143)]) h_m158 (z_at.mk 3 rfl rfl) rfl (by decide) rfl (Or.inr ⟨rfl, rfl, by decide⟩) rfl rfl rfl ?_
  clear H m; intro m H
  refine w_p h_m158 2 (pc' := 17) (L' := [(0, .ref 143)]) (st' := [.int (2740 : Int32), .ref 143]) rfl ?_
  refine w_na H (ti := 0) (n := 2740) (.int (0 : Int32)) (N' := 146) (S' := 11542) (pc' := 19) (L' := [(0, .ref 143)]) h_m158 (z_at.mk 2 rfl rfl) rfl (by decide) rfl (by decide) rfl rfl rfl rfl rfl ?_
  clear H m; intro m H
  refine w_pf H (22, 35, [(1, .ref 145), (0, .ref 144), (2, .null), (3, .null), (4, .null), (5, .null), (6, .int (0 : Int32)), (7, .null), (8, .null), (9, .null), (10, .int (0 : Int32)), (11, .null), (12, .null), (13, .null), (14, .int (0 : Int32)), (15, .int (0 : Int32)), (16, .null), (17, .null), (18, .null), (19, .null), (20, .int (0 : Int32)), (21, .int (0 : Int32)), (22, .int (0 : Int32)), (23, .int (0 : Int32)), (24, .null), (25, .null), (26, .null), (27, .int (0 : Int32)), (28, .null), (29, .int (0 : Int32)), (30, .null), (31, .null), (32, .int (0 : Int32)), (33, .null), (34, .null)], none) (pc' := 22) (L' := [(0, .ref 143)]) h_m158 (z_at.mk 3 rfl rfl) rfl (by decide) rfl (Or.inr ⟨rfl, rfl, by decide⟩) rfl rfl rfl ?_
  clear H m; intro m H
  refine w_p h_m158 2 (pc' := 26) (L' := [(0, .ref 143)]) (st' := [.int (2740 : Int32), .ref 143]) rfl ?_
  refine w_na H (ti := 0) (n := 2740) (.int (0 : Int32)) (N' := 147) (S' := 14282) (pc' := 28) (L' := [(0, .ref 143)]) h_m158 (z_at.mk 2 rfl rfl) rfl (by decide) rfl (by decide) rfl rfl rfl rfl rfl ?_
  clear H m; intro m H
  refine w_pf H (22, 35, [(2, .ref 146), (1, .ref 145), (0, .ref 144), (3, .null), (4, .null), (5, .null), (6, .int (0 : Int32)), (7, .null), (8, .null), (9, .null), (10, .int (0 : Int32)), (11, .null), (12, .null), (13, .null), (14, .int (0 : Int32)), (15, .int (0 : Int32)), (16, .null), (17, .null), (18, .null), (19, .null), (20, .int (0 : Int32)), (21, .int (0 : Int32)), (22, .int (0 : Int32)), (23, .int (0 : Int32)), (24, .null), (25, .null), (26, .null), (27, .int (0 : Int32)), (28, .null), (29, .int (0 : Int32)), (30, .null), (31, .null), (32, .int (0 : Int32)), (33, .null), (34, .null)], none) (pc' := 31) (L' := [(0, .ref 143)]) h_m158 (z_at.mk 3 rfl rfl) rfl (by decide) rfl (Or.inr ⟨rfl, rfl, by decide⟩) rfl rfl rfl ?_
  clear H m; intro m H
  refine w_p h_m158 2 (pc' := 35) (L' := [(0, .ref 143)]) (st' := [.int (361 : Int32), .ref 143]) rfl ?_
  refine w_na H (ti := 1) (n := 361) (.long (0 : Int64)) (N' := 148) (S' := 14643) (pc' := 37) (L' := [(0, .ref 143)]) h_m158 (z_at.mk 2 rfl rfl) rfl (by decide) rfl (by decide) rfl rfl rfl rfl rfl ?_
  clear H m; intro m H
  refine w_pf H (22, 35, [(3, .ref 147), (2, .ref 146), (1, .ref 145), (0, .ref 144), (4, .null), (5, .null), (6, .int (0 : Int32)), (7, .null), (8, .null), (9, .null), (10, .int (0 : Int32)), (11, .null), (12, .null), (13, .null), (14, .int (0 : Int32)), (15, .int (0 : Int32)), (16, .null), (17, .null), (18, .null), (19, .null), (20, .int (0 : Int32)), (21, .int (0 : Int32)), (22, .int (0 : Int32)), (23, .int (0 : Int32)), (24, .null), (25, .null), (26, .null), (27, .int (0 : Int32)), (28, .null), (29, .int (0 : Int32)), (30, .null), (31, .null), (32, .int (0 : Int32)), (33, .null), (34, .null)], none) (pc' := 40) (L' := [(0, .ref 143)]) h_m158 (z_at.mk 3 rfl rfl) rfl (by decide) rfl (Or.inr ⟨rfl, rfl, by decide⟩) rfl rfl rfl ?_
  clear H m; intro m H
  refine w_p h_m158 2 (pc' := 44) (L' := [(0, .ref 143)]) (st' := [.int (361 : Int32), .ref 143]) rfl ?_
  refine w_na H (ti := 1) (n := 361) (.long (0 : Int64)) (N' := 149) (S' := 15004) (pc' := 46) (L' := [(0, .ref 143)]) h_m158 (z_at.mk 2 rfl rfl) rfl (by decide) rfl (by decide) rfl rfl rfl rfl rfl ?_
  clear H m; intro m H
  refine w_pf H (22, 35, [(4, .ref 148), (3, .ref 147), (2, .ref 146), (1, .ref 145), (0, .ref 144), (5, .null), (6, .int (0 : Int32)), (7, .null), (8, .null), (9, .null), (10, .int (0 : Int32)), (11, .null), (12, .null), (13, .null), (14, .int (0 : Int32)), (15, .int (0 : Int32)), (16, .null), (17, .null), (18, .null), (19, .null), (20, .int (0 : Int32)), (21, .int (0 : Int32)), (22, .int (0 : Int32)), (23, .int (0 : Int32)), (24, .null), (25, .null), (26, .null), (27, .int (0 : Int32)), (28, .null), (29, .int (0 : Int32)), (30, .null), (31, .null), (32, .int (0 : Int32)), (33, .null), (34, .null)], none) (pc' := 49) (L' := [(0, .ref 143)]) h_m158 (z_at.mk 3 rfl rfl) rfl (by decide) rfl (Or.inr ⟨rfl, rfl, by decide⟩) rfl rfl rfl ?_
  clear H m; intro m H
  refine w_p h_m158 2 (pc' := 53) (L' := [(0, .ref 143)]) (st' := [.int (361 : Int32), .ref 143]) rfl ?_
  refine w_na H (ti := 1) (n := 361) (.long (0 : Int64)) (N' := 150) (S' := 15365) (pc' := 55) (L' := [(0, .ref 143)]) h_m158 (z_at.mk 2 rfl rfl) rfl (by decide) rfl (by decide) rfl rfl rfl rfl rfl ?_
  clear H m; intro m H
  refine w_pf H (22, 35, [(5, .ref 149), (4, .ref 148), (3, .ref 147), (2, .ref 146), (1, .ref 145), (0, .ref 144), (6, .int (0 : Int32)), (7, .null), (8, .null), (9, .null), (10, .int (0 : Int32)), (11, .null), (12, .null), (13, .null), (14, .int (0 : Int32)), (15, .int (0 : Int32)), (16, .null), (17, .null), (18, .null), (19, .null), (20, .int (0 : Int32)), (21, .int (0 : Int32)), (22, .int (0 : Int32)), (23, .int (0 : Int32)), (24, .null), (25, .null), (26, .null), (27, .int (0 : Int32)), (28, .null), (29, .int (0 : Int32)), (30, .null), (31, .null), (32, .int (0 : Int32)), (33, .null), (34, .null)], none) (pc' := 58) (L' := [(0, .ref 143)]) h_m158 (z_at.mk 3 rfl rfl) rfl (by decide) rfl (Or.inr ⟨rfl, rfl, by decide⟩) rfl rfl rfl ?_
  clear H m; intro m H
  refine w_p h_m158 2 (pc' := 62) (L' := [(0, .ref 143)]) (st' := [.int (2400 : Int32), .ref 143]) rfl ?_
  refine w_na H (ti := 0) (n := 2400) (.int (0 : Int32)) (N' := 151) (S' := 17765) (pc' := 64) (L' := [(0, .ref 143)]) h_m158 (z_at.mk 2 rfl rfl) rfl (by decide) rfl (by decide) rfl rfl rfl rfl rfl ?_
  clear H m; intro m H
  refine w_pf H (22, 35, [(7, .ref 150), (5, .ref 149), (4, .ref 148), (3, .ref 147), (2, .ref 146), (1, .ref 145), (0, .ref 144), (6, .int (0 : Int32)), (8, .null), (9, .null), (10, .int (0 : Int32)), (11, .null), (12, .null), (13, .null), (14, .int (0 : Int32)), (15, .int (0 : Int32)), (16, .null), (17, .null), (18, .null), (19, .null), (20, .int (0 : Int32)), (21, .int (0 : Int32)), (22, .int (0 : Int32)), (23, .int (0 : Int32)), (24, .null), (25, .null), (26, .null), (27, .int (0 : Int32)), (28, .null), (29, .int (0 : Int32)), (30, .null), (31, .null), (32, .int (0 : Int32)), (33, .null), (34, .null)], none) (pc' := 67) (L' := [(0, .ref 143)]) h_m158 (z_at.mk 3 rfl rfl) rfl (by decide) rfl (Or.inr ⟨rfl, rfl, by decide⟩) rfl rfl rfl ?_
  clear H m; intro m H
  refine w_p h_m158 2 (pc' := 71) (L' := [(0, .ref 143)]) (st' := [.int (2400 : Int32), .ref 143]) rfl ?_
  refine w_na H (ti := 0) (n := 2400) (.int (0 : Int32)) (N' := 152) (S' := 20165) (pc' := 73) (L' := [(0, .ref 143)]) h_m158 (z_at.mk 2 rfl rfl) rfl (by decide) rfl (by decide) rfl rfl rfl rfl rfl ?_
  clear H m; intro m H
  refine w_pf H (22, 35, [(8, .ref 151), (7, .ref 150), (5, .ref 149), (4, .ref 148), (3, .ref 147), (2, .ref 146), (1, .ref 145), (0, .ref 144), (6, .int (0 : Int32)), (9, .null), (10, .int (0 : Int32)), (11, .null), (12, .null), (13, .null), (14, .int (0 : Int32)), (15, .int (0 : Int32)), (16, .null), (17, .null), (18, .null), (19, .null), (20, .int (0 : Int32)), (21, .int (0 : Int32)), (22, .int (0 : Int32)), (23, .int (0 : Int32)), (24, .null), (25, .null), (26, .null), (27, .int (0 : Int32)), (28, .null), (29, .int (0 : Int32)), (30, .null), (31, .null), (32, .int (0 : Int32)), (33, .null), (34, .null)], none) (pc' := 76) (L' := [(0, .ref 143)]) h_m158 (z_at.mk 3 rfl rfl) rfl (by decide) rfl (Or.inr ⟨rfl, rfl, by decide⟩) rfl rfl rfl ?_
  clear H m; intro m H
  refine w_p h_m158 2 (pc' := 78) (L' := [(0, .ref 143)]) (st' := [.int (4 : Int32), .ref 143]) rfl ?_
  refine w_na H (ti := 0) (n := 4) (.int (0 : Int32)) (N' := 153) (S' := 20169) (pc' := 80) (L' := [(0, .ref 143)]) h_m158 (z_at.mk 2 rfl rfl) rfl (by decide) rfl (by decide) rfl rfl rfl rfl rfl ?_
  clear H m; intro m H
  refine w_pf H (22, 35, [(9, .ref 152), (8, .ref 151), (7, .ref 150), (5, .ref 149), (4, .ref 148), (3, .ref 147), (2, .ref 146), (1, .ref 145), (0, .ref 144), (6, .int (0 : Int32)), (10, .int (0 : Int32)), (11, .null), (12, .null), (13, .null), (14, .int (0 : Int32)), (15, .int (0 : Int32)), (16, .null), (17, .null), (18, .null), (19, .null), (20, .int (0 : Int32)), (21, .int (0 : Int32)), (22, .int (0 : Int32)), (23, .int (0 : Int32)), (24, .null), (25, .null), (26, .null), (27, .int (0 : Int32)), (28, .null), (29, .int (0 : Int32)), (30, .null), (31, .null), (32, .int (0 : Int32)), (33, .null), (34, .null)], none) (pc' := 83) (L' := [(0, .ref 143)]) h_m158 (z_at.mk 3 rfl rfl) rfl (by decide) rfl (Or.inr ⟨rfl, rfl, by decide⟩) rfl rfl rfl ?_
  clear H m; intro m H
  refine w_p h_m158 2 (pc' := 85) (L' := [(0, .ref 143)]) (st' := [.int (4 : Int32), .ref 143]) rfl ?_
  refine w_na H (ti := 0) (n := 4) (.int (0 : Int32)) (N' := 154) (S' := 20173) (pc' := 87) (L' := [(0, .ref 143)]) h_m158 (z_at.mk 2 rfl rfl) rfl (by decide) rfl (by decide) rfl rfl rfl rfl rfl ?_
  clear H m; intro m H
  refine w_pf H (22, 35, [(11, .ref 153), (9, .ref 152), (8, .ref 151), (7, .ref 150), (5, .ref 149), (4, .ref 148), (3, .ref 147), (2, .ref 146), (1, .ref 145), (0, .ref 144), (6, .int (0 : Int32)), (10, .int (0 : Int32)), (12, .null), (13, .null), (14, .int (0 : Int32)), (15, .int (0 : Int32)), (16, .null), (17, .null), (18, .null), (19, .null), (20, .int (0 : Int32)), (21, .int (0 : Int32)), (22, .int (0 : Int32)), (23, .int (0 : Int32)), (24, .null), (25, .null), (26, .null), (27, .int (0 : Int32)), (28, .null), (29, .int (0 : Int32)), (30, .null), (31, .null), (32, .int (0 : Int32)), (33, .null), (34, .null)], none) (pc' := 90) (L' := [(0, .ref 143)]) h_m158 (z_at.mk 3 rfl rfl) rfl (by decide) rfl (Or.inr ⟨rfl, rfl, by decide⟩) rfl rfl rfl ?_
  clear H m; intro m H
  refine w_p h_m158 2 (pc' := 93) (L' := [(0, .ref 143)]) (st' := [.int (60 : Int32), .ref 143]) rfl ?_
  refine w_na H (ti := 0) (n := 60) (.int (0 : Int32)) (N' := 155) (S' := 20233) (pc' := 95) (L' := [(0, .ref 143)]) h_m158 (z_at.mk 2 rfl rfl) rfl (by decide) rfl (by decide) rfl rfl rfl rfl rfl ?_
  clear H m; intro m H
  refine w_pf H (22, 35, [(12, .ref 154), (11, .ref 153), (9, .ref 152), (8, .ref 151), (7, .ref 150), (5, .ref 149), (4, .ref 148), (3, .ref 147), (2, .ref 146), (1, .ref 145), (0, .ref 144), (6, .int (0 : Int32)), (10, .int (0 : Int32)), (13, .null), (14, .int (0 : Int32)), (15, .int (0 : Int32)), (16, .null), (17, .null), (18, .null), (19, .null), (20, .int (0 : Int32)), (21, .int (0 : Int32)), (22, .int (0 : Int32)), (23, .int (0 : Int32)), (24, .null), (25, .null), (26, .null), (27, .int (0 : Int32)), (28, .null), (29, .int (0 : Int32)), (30, .null), (31, .null), (32, .int (0 : Int32)), (33, .null), (34, .null)], none) (pc' := 98) (L' := [(0, .ref 143)]) h_m158 (z_at.mk 3 rfl rfl) rfl (by decide) rfl (Or.inr ⟨rfl, rfl, by decide⟩) rfl rfl rfl ?_
  clear H m; intro m H
  refine w_p h_m158 2 (pc' := 101) (L' := [(0, .ref 143)]) (st' := [.int (60 : Int32), .ref 143]) rfl ?_
  refine w_na H (ti := 1) (n := 60) (.long (0 : Int64)) (N' := 156) (S' := 20293) (pc' := 103) (L' := [(0, .ref 143)]) h_m158 (z_at.mk 2 rfl rfl) rfl (by decide) rfl (by decide) rfl rfl rfl rfl rfl ?_
  clear H m; intro m H
  refine w_pf H (22, 35, [(13, .ref 155), (12, .ref 154), (11, .ref 153), (9, .ref 152), (8, .ref 151), (7, .ref 150), (5, .ref 149), (4, .ref 148), (3, .ref 147), (2, .ref 146), (1, .ref 145), (0, .ref 144), (6, .int (0 : Int32)), (10, .int (0 : Int32)), (14, .int (0 : Int32)), (15, .int (0 : Int32)), (16, .null), (17, .null), (18, .null), (19, .null), (20, .int (0 : Int32)), (21, .int (0 : Int32)), (22, .int (0 : Int32)), (23, .int (0 : Int32)), (24, .null), (25, .null), (26, .null), (27, .int (0 : Int32)), (28, .null), (29, .int (0 : Int32)), (30, .null), (31, .null), (32, .int (0 : Int32)), (33, .null), (34, .null)], none) (pc' := 106) (L' := [(0, .ref 143)]) h_m158 (z_at.mk 3 rfl rfl) rfl (by decide) rfl (Or.inr ⟨rfl, rfl, by decide⟩) rfl rfl rfl ?_
  clear H m; intro m H
  refine w_p h_m158 2 (pc' := 109) (L' := [(0, .ref 143)]) (st' := [.int (10 : Int32), .ref 143]) rfl ?_
  refine w_na H (ti := 0) (n := 10) (.int (0 : Int32)) (N' := 157) (S' := 20303) (pc' := 111) (L' := [(0, .ref 143)]) h_m158 (z_at.mk 2 rfl rfl) rfl (by decide) rfl (by decide) rfl rfl rfl rfl rfl ?_
  clear H m; intro m H
  refine w_pf H (22, 35, [(16, .ref 156), (13, .ref 155), (12, .ref 154), (11, .ref 153), (9, .ref 152), (8, .ref 151), (7, .ref 150), (5, .ref 149), (4, .ref 148), (3, .ref 147), (2, .ref 146), (1, .ref 145), (0, .ref 144), (6, .int (0 : Int32)), (10, .int (0 : Int32)), (14, .int (0 : Int32)), (15, .int (0 : Int32)), (17, .null), (18, .null), (19, .null), (20, .int (0 : Int32)), (21, .int (0 : Int32)), (22, .int (0 : Int32)), (23, .int (0 : Int32)), (24, .null), (25, .null), (26, .null), (27, .int (0 : Int32)), (28, .null), (29, .int (0 : Int32)), (30, .null), (31, .null), (32, .int (0 : Int32)), (33, .null), (34, .null)], none) (pc' := 114) (L' := [(0, .ref 143)]) h_m158 (z_at.mk 3 rfl rfl) rfl (by decide) rfl (Or.inr ⟨rfl, rfl, by decide⟩) rfl rfl rfl ?_
  clear H m; intro m H
  refine w_p h_m158 2 (pc' := 116) (L' := [(0, .ref 143)]) (st' := [.int (4 : Int32), .ref 143]) rfl ?_
  refine w_na H (ti := 0) (n := 4) (.int (0 : Int32)) (N' := 158) (S' := 20307) (pc' := 118) (L' := [(0, .ref 143)]) h_m158 (z_at.mk 2 rfl rfl) rfl (by decide) rfl (by decide) rfl rfl rfl rfl rfl ?_
  clear H m; intro m H
  refine w_pf H (22, 35, [(17, .ref 157), (16, .ref 156), (13, .ref 155), (12, .ref 154), (11, .ref 153), (9, .ref 152), (8, .ref 151), (7, .ref 150), (5, .ref 149), (4, .ref 148), (3, .ref 147), (2, .ref 146), (1, .ref 145), (0, .ref 144), (6, .int (0 : Int32)), (10, .int (0 : Int32)), (14, .int (0 : Int32)), (15, .int (0 : Int32)), (18, .null), (19, .null), (20, .int (0 : Int32)), (21, .int (0 : Int32)), (22, .int (0 : Int32)), (23, .int (0 : Int32)), (24, .null), (25, .null), (26, .null), (27, .int (0 : Int32)), (28, .null), (29, .int (0 : Int32)), (30, .null), (31, .null), (32, .int (0 : Int32)), (33, .null), (34, .null)], none) (pc' := 121) (L' := [(0, .ref 143)]) h_m158 (z_at.mk 3 rfl rfl) rfl (by decide) rfl (Or.inr ⟨rfl, rfl, by decide⟩) rfl rfl rfl ?_
  clear H m; intro m H
  refine w_p h_m158 2 (pc' := 124) (L' := [(0, .ref 143)]) (st' := [.int (6 : Int32), .ref 143]) rfl ?_
  refine w_na H (ti := 1) (n := 6) (.long (0 : Int64)) (N' := 159) (S' := 20313) (pc' := 126) (L' := [(0, .ref 143)]) h_m158 (z_at.mk 2 rfl rfl) rfl (by decide) rfl (by decide) rfl rfl rfl rfl rfl ?_
  clear H m; intro m H
  refine w_pf H (22, 35, [(18, .ref 158), (17, .ref 157), (16, .ref 156), (13, .ref 155), (12, .ref 154), (11, .ref 153), (9, .ref 152), (8, .ref 151), (7, .ref 150), (5, .ref 149), (4, .ref 148), (3, .ref 147), (2, .ref 146), (1, .ref 145), (0, .ref 144), (6, .int (0 : Int32)), (10, .int (0 : Int32)), (14, .int (0 : Int32)), (15, .int (0 : Int32)), (19, .null), (20, .int (0 : Int32)), (21, .int (0 : Int32)), (22, .int (0 : Int32)), (23, .int (0 : Int32)), (24, .null), (25, .null), (26, .null), (27, .int (0 : Int32)), (28, .null), (29, .int (0 : Int32)), (30, .null), (31, .null), (32, .int (0 : Int32)), (33, .null), (34, .null)], none) (pc' := 129) (L' := [(0, .ref 143)]) h_m158 (z_at.mk 3 rfl rfl) rfl (by decide) rfl (Or.inr ⟨rfl, rfl, by decide⟩) rfl rfl rfl ?_
  clear H m; intro m H
  refine w_p h_m158 2 (pc' := 133) (L' := [(0, .ref 143)]) (st' := [.int (160 : Int32), .ref 143]) rfl ?_
  refine w_na H (ti := 0) (n := 160) (.int (0 : Int32)) (N' := 160) (S' := 20473) (pc' := 135) (L' := [(0, .ref 143)]) h_m158 (z_at.mk 2 rfl rfl) rfl (by decide) rfl (by decide) rfl rfl rfl rfl rfl ?_
  clear H m; intro m H
  refine w_pf H (22, 35, [(19, .ref 159), (18, .ref 158), (17, .ref 157), (16, .ref 156), (13, .ref 155), (12, .ref 154), (11, .ref 153), (9, .ref 152), (8, .ref 151), (7, .ref 150), (5, .ref 149), (4, .ref 148), (3, .ref 147), (2, .ref 146), (1, .ref 145), (0, .ref 144), (6, .int (0 : Int32)), (10, .int (0 : Int32)), (14, .int (0 : Int32)), (15, .int (0 : Int32)), (20, .int (0 : Int32)), (21, .int (0 : Int32)), (22, .int (0 : Int32)), (23, .int (0 : Int32)), (24, .null), (25, .null), (26, .null), (27, .int (0 : Int32)), (28, .null), (29, .int (0 : Int32)), (30, .null), (31, .null), (32, .int (0 : Int32)), (33, .null), (34, .null)], none) (pc' := 138) (L' := [(0, .ref 143)]) h_m158 (z_at.mk 3 rfl rfl) rfl (by decide) rfl (Or.inr ⟨rfl, rfl, by decide⟩) rfl rfl rfl ?_
  clear H m; intro m H
  refine w_p h_m158 2 (pc' := 141) (L' := [(0, .ref 143)]) (st' := [.int (7 : Int32), .ref 143]) rfl ?_
  refine w_na H (ti := 0) (n := 7) (.int (0 : Int32)) (N' := 161) (S' := 20480) (pc' := 143) (L' := [(0, .ref 143)]) h_m158 (z_at.mk 2 rfl rfl) rfl (by decide) rfl (by decide) rfl rfl rfl rfl rfl ?_
  clear H m; intro m H
  refine w_pf H (22, 35, [(24, .ref 160), (19, .ref 159), (18, .ref 158), (17, .ref 157), (16, .ref 156), (13, .ref 155), (12, .ref 154), (11, .ref 153), (9, .ref 152), (8, .ref 151), (7, .ref 150), (5, .ref 149), (4, .ref 148), (3, .ref 147), (2, .ref 146), (1, .ref 145), (0, .ref 144), (6, .int (0 : Int32)), (10, .int (0 : Int32)), (14, .int (0 : Int32)), (15, .int (0 : Int32)), (20, .int (0 : Int32)), (21, .int (0 : Int32)), (22, .int (0 : Int32)), (23, .int (0 : Int32)), (25, .null), (26, .null), (27, .int (0 : Int32)), (28, .null), (29, .int (0 : Int32)), (30, .null), (31, .null), (32, .int (0 : Int32)), (33, .null), (34, .null)], none) (pc' := 146) (L' := [(0, .ref 143)]) h_m158 (z_at.mk 3 rfl rfl) rfl (by decide) rfl (Or.inr ⟨rfl, rfl, by decide⟩) rfl rfl rfl ?_
  clear H m; intro m H
  refine w_p h_m158 2 (pc' := 149) (L' := [(0, .ref 143)]) (st' := [.int (48 : Int32), .ref 143]) rfl ?_
  refine w_na H (ti := 0) (n := 48) (.int (0 : Int32)) (N' := 162) (S' := 20528) (pc' := 151) (L' := [(0, .ref 143)]) h_m158 (z_at.mk 2 rfl rfl) rfl (by decide) rfl (by decide) rfl rfl rfl rfl rfl ?_
  clear H m; intro m H
  refine w_pf H (22, 35, [(25, .ref 161), (24, .ref 160), (19, .ref 159), (18, .ref 158), (17, .ref 157), (16, .ref 156), (13, .ref 155), (12, .ref 154), (11, .ref 153), (9, .ref 152), (8, .ref 151), (7, .ref 150), (5, .ref 149), (4, .ref 148), (3, .ref 147), (2, .ref 146), (1, .ref 145), (0, .ref 144), (6, .int (0 : Int32)), (10, .int (0 : Int32)), (14, .int (0 : Int32)), (15, .int (0 : Int32)), (20, .int (0 : Int32)), (21, .int (0 : Int32)), (22, .int (0 : Int32)), (23, .int (0 : Int32)), (26, .null), (27, .int (0 : Int32)), (28, .null), (29, .int (0 : Int32)), (30, .null), (31, .null), (32, .int (0 : Int32)), (33, .null), (34, .null)], none) (pc' := 154) (L' := [(0, .ref 143)]) h_m158 (z_at.mk 3 rfl rfl) rfl (by decide) rfl (Or.inr ⟨rfl, rfl, by decide⟩) rfl rfl rfl ?_
  clear H m; intro m H
  refine w_p h_m158 2 (pc' := 157) (L' := [(0, .ref 143)]) (st' := [.int (8 : Int32), .ref 143]) rfl ?_
  refine w_na H (ti := 1) (n := 8) (.long (0 : Int64)) (N' := 163) (S' := 20536) (pc' := 159) (L' := [(0, .ref 143)]) h_m158 (z_at.mk 2 rfl rfl) rfl (by decide) rfl (by decide) rfl rfl rfl rfl rfl ?_
  clear H m; intro m H
  refine w_pf H (22, 35, [(26, .ref 162), (25, .ref 161), (24, .ref 160), (19, .ref 159), (18, .ref 158), (17, .ref 157), (16, .ref 156), (13, .ref 155), (12, .ref 154), (11, .ref 153), (9, .ref 152), (8, .ref 151), (7, .ref 150), (5, .ref 149), (4, .ref 148), (3, .ref 147), (2, .ref 146), (1, .ref 145), (0, .ref 144), (6, .int (0 : Int32)), (10, .int (0 : Int32)), (14, .int (0 : Int32)), (15, .int (0 : Int32)), (20, .int (0 : Int32)), (21, .int (0 : Int32)), (22, .int (0 : Int32)), (23, .int (0 : Int32)), (27, .int (0 : Int32)), (28, .null), (29, .int (0 : Int32)), (30, .null), (31, .null), (32, .int (0 : Int32)), (33, .null), (34, .null)], none) (pc' := 162) (L' := [(0, .ref 143)]) h_m158 (z_at.mk 3 rfl rfl) rfl (by decide) rfl (Or.inr ⟨rfl, rfl, by decide⟩) rfl rfl rfl ?_
  clear H m; intro m H
  refine w_p h_m158 2 (pc' := 165) (L' := [(0, .ref 143)]) (st' := [.int (40000 : Int32), .ref 143]) rfl ?_
  refine w_na H (ti := 0) (n := 40000) (.int (0 : Int32)) (N' := 164) (S' := 60536) (pc' := 167) (L' := [(0, .ref 143)]) h_m158 (z_at.mk 2 rfl rfl) rfl (by decide) rfl (by decide) rfl rfl rfl rfl rfl ?_
  clear H m; intro m H
  refine w_pf H (22, 35, [(28, .ref 163), (26, .ref 162), (25, .ref 161), (24, .ref 160), (19, .ref 159), (18, .ref 158), (17, .ref 157), (16, .ref 156), (13, .ref 155), (12, .ref 154), (11, .ref 153), (9, .ref 152), (8, .ref 151), (7, .ref 150), (5, .ref 149), (4, .ref 148), (3, .ref 147), (2, .ref 146), (1, .ref 145), (0, .ref 144), (6, .int (0 : Int32)), (10, .int (0 : Int32)), (14, .int (0 : Int32)), (15, .int (0 : Int32)), (20, .int (0 : Int32)), (21, .int (0 : Int32)), (22, .int (0 : Int32)), (23, .int (0 : Int32)), (27, .int (0 : Int32)), (29, .int (0 : Int32)), (30, .null), (31, .null), (32, .int (0 : Int32)), (33, .null), (34, .null)], none) (pc' := 170) (L' := [(0, .ref 143)]) h_m158 (z_at.mk 3 rfl rfl) rfl (by decide) rfl (Or.inr ⟨rfl, rfl, by decide⟩) rfl rfl rfl ?_
  clear H m; intro m H
  refine w_p h_m158 2 (pc' := 173) (L' := [(0, .ref 143)]) (st' := [.int (48 : Int32), .ref 143]) rfl ?_
  refine w_na H (ti := 0) (n := 48) (.int (0 : Int32)) (N' := 165) (S' := 60584) (pc' := 175) (L' := [(0, .ref 143)]) h_m158 (z_at.mk 2 rfl rfl) rfl (by decide) rfl (by decide) rfl rfl rfl rfl rfl ?_
  clear H m; intro m H
  refine w_pf H (22, 35, [(30, .ref 164), (28, .ref 163), (26, .ref 162), (25, .ref 161), (24, .ref 160), (19, .ref 159), (18, .ref 158), (17, .ref 157), (16, .ref 156), (13, .ref 155), (12, .ref 154), (11, .ref 153), (9, .ref 152), (8, .ref 151), (7, .ref 150), (5, .ref 149), (4, .ref 148), (3, .ref 147), (2, .ref 146), (1, .ref 145), (0, .ref 144), (6, .int (0 : Int32)), (10, .int (0 : Int32)), (14, .int (0 : Int32)), (15, .int (0 : Int32)), (20, .int (0 : Int32)), (21, .int (0 : Int32)), (22, .int (0 : Int32)), (23, .int (0 : Int32)), (27, .int (0 : Int32)), (29, .int (0 : Int32)), (31, .null), (32, .int (0 : Int32)), (33, .null), (34, .null)], none) (pc' := 178) (L' := [(0, .ref 143)]) h_m158 (z_at.mk 3 rfl rfl) rfl (by decide) rfl (Or.inr ⟨rfl, rfl, by decide⟩) rfl rfl rfl ?_
  clear H m; intro m H
  refine w_p h_m158 2 (pc' := 182) (L' := [(0, .ref 143)]) (st' := [.int (3000 : Int32), .ref 143]) rfl ?_
  refine w_na H (ti := 0) (n := 3000) (.int (0 : Int32)) (N' := 166) (S' := 63584) (pc' := 184) (L' := [(0, .ref 143)]) h_m158 (z_at.mk 2 rfl rfl) rfl (by decide) rfl (by decide) rfl rfl rfl rfl rfl ?_
  clear H m; intro m H
  refine w_pf H (22, 35, [(31, .ref 165), (30, .ref 164), (28, .ref 163), (26, .ref 162), (25, .ref 161), (24, .ref 160), (19, .ref 159), (18, .ref 158), (17, .ref 157), (16, .ref 156), (13, .ref 155), (12, .ref 154), (11, .ref 153), (9, .ref 152), (8, .ref 151), (7, .ref 150), (5, .ref 149), (4, .ref 148), (3, .ref 147), (2, .ref 146), (1, .ref 145), (0, .ref 144), (6, .int (0 : Int32)), (10, .int (0 : Int32)), (14, .int (0 : Int32)), (15, .int (0 : Int32)), (20, .int (0 : Int32)), (21, .int (0 : Int32)), (22, .int (0 : Int32)), (23, .int (0 : Int32)), (27, .int (0 : Int32)), (29, .int (0 : Int32)), (32, .int (0 : Int32)), (33, .null), (34, .null)], none) (pc' := 187) (L' := [(0, .ref 143)]) h_m158 (z_at.mk 3 rfl rfl) rfl (by decide) rfl (Or.inr ⟨rfl, rfl, by decide⟩) rfl rfl rfl ?_
  clear H m; intro m H
  refine w_p h_m158 2 (pc' := 190) (L' := [(0, .ref 143)]) (st' := [.int (6 : Int32), .ref 143]) rfl ?_
  refine w_na H (ti := 0) (n := 6) (.int (0 : Int32)) (N' := 167) (S' := 63590) (pc' := 192) (L' := [(0, .ref 143)]) h_m158 (z_at.mk 2 rfl rfl) rfl (by decide) rfl (by decide) rfl rfl rfl rfl rfl ?_
  clear H m; intro m H
  refine w_p h_m158 3 (pc' := 195) (L' := [(0, .ref 143)]) (st' := [.int (-1 : Int32), .int (0 : Int32), .ref 166, .ref 166, .ref 143]) rfl ?_
  refine w_as H (t := 0) (j := 0) (u := .int (-1 : Int32)) (0, 6, [(0, .int (-1 : Int32))], some (.int (0 : Int32))) (pc' := 196) (L' := [(0, .ref 143)]) h_m158 (z_at.mk 1 rfl rfl) rfl rfl (w_ui _ _ (by decide)) rfl rfl rfl rfl ?_
  clear H m; intro m H
  refine w_p h_m158 3 (pc' := 199) (L' := [(0, .ref 143)]) (st' := [.int (-1 : Int32), .int (1 : Int32), .ref 166, .ref 166, .ref 143]) rfl ?_
  refine w_as H (t := 0) (j := 1) (u := .int (-1 : Int32)) (0, 6, [(1, .int (-1 : Int32)), (0, .int (-1 : Int32))], some (.int (0 : Int32))) (pc' := 200) (L' := [(0, .ref 143)]) h_m158 (z_at.mk 1 rfl rfl) rfl rfl (w_ui _ _ (by decide)) rfl rfl rfl rfl ?_
  clear H m; intro m H
  refine w_p h_m158 3 (pc' := 203) (L' := [(0, .ref 143)]) (st' := [.int (-1 : Int32), .int (2 : Int32), .ref 166, .ref 166, .ref 143]) rfl ?_
  refine w_as H (t := 0) (j := 2) (u := .int (-1 : Int32)) (0, 6, [(2, .int (-1 : Int32)), (1, .int (-1 : Int32)), (0, .int (-1 : Int32))], some (.int (0 : Int32))) (pc' := 204) (L' := [(0, .ref 143)]) h_m158 (z_at.mk 1 rfl rfl) rfl rfl (w_ui _ _ (by decide)) rfl rfl rfl rfl ?_
  clear H m; intro m H
  refine w_p h_m158 3 (pc' := 207) (L' := [(0, .ref 143)]) (st' := [.int (-1 : Int32), .int (3 : Int32), .ref 166, .ref 166, .ref 143]) rfl ?_
  refine w_as H (t := 0) (j := 3) (u := .int (-1 : Int32)) (0, 6, [(3, .int (-1 : Int32)), (2, .int (-1 : Int32)), (1, .int (-1 : Int32)), (0, .int (-1 : Int32))], some (.int (0 : Int32))) (pc' := 208) (L' := [(0, .ref 143)]) h_m158 (z_at.mk 1 rfl rfl) rfl rfl (w_ui _ _ (by decide)) rfl rfl rfl rfl ?_
  clear H m; intro m H
  refine w_p h_m158 3 (pc' := 211) (L' := [(0, .ref 143)]) (st' := [.int (-1 : Int32), .int (4 : Int32), .ref 166, .ref 166, .ref 143]) rfl ?_
  refine w_as H (t := 0) (j := 4) (u := .int (-1 : Int32)) (0, 6, [(4, .int (-1 : Int32)), (3, .int (-1 : Int32)), (2, .int (-1 : Int32)), (1, .int (-1 : Int32)), (0, .int (-1 : Int32))], some (.int (0 : Int32))) (pc' := 212) (L' := [(0, .ref 143)]) h_m158 (z_at.mk 1 rfl rfl) rfl rfl (w_ui _ _ (by decide)) rfl rfl rfl rfl ?_
  clear H m; intro m H
  refine w_p h_m158 3 (pc' := 215) (L' := [(0, .ref 143)]) (st' := [.int (-1 : Int32), .int (5 : Int32), .ref 166, .ref 166, .ref 143]) rfl ?_
  refine w_as H (t := 0) (j := 5) (u := .int (-1 : Int32)) (0, 6, [(5, .int (-1 : Int32)), (4, .int (-1 : Int32)), (3, .int (-1 : Int32)), (2, .int (-1 : Int32)), (1, .int (-1 : Int32)), (0, .int (-1 : Int32))], some (.int (0 : Int32))) (pc' := 216) (L' := [(0, .ref 143)]) h_m158 (z_at.mk 1 rfl rfl) rfl rfl (w_ui _ _ (by decide)) rfl rfl rfl rfl ?_
  clear H m; intro m H
  refine w_pf H (22, 35, [(33, .ref 166), (31, .ref 165), (30, .ref 164), (28, .ref 163), (26, .ref 162), (25, .ref 161), (24, .ref 160), (19, .ref 159), (18, .ref 158), (17, .ref 157), (16, .ref 156), (13, .ref 155), (12, .ref 154), (11, .ref 153), (9, .ref 152), (8, .ref 151), (7, .ref 150), (5, .ref 149), (4, .ref 148), (3, .ref 147), (2, .ref 146), (1, .ref 145), (0, .ref 144), (6, .int (0 : Int32)), (10, .int (0 : Int32)), (14, .int (0 : Int32)), (15, .int (0 : Int32)), (20, .int (0 : Int32)), (21, .int (0 : Int32)), (22, .int (0 : Int32)), (23, .int (0 : Int32)), (27, .int (0 : Int32)), (29, .int (0 : Int32)), (32, .int (0 : Int32)), (34, .null)], none) (pc' := 219) (L' := [(0, .ref 143)]) h_m158 (z_at.mk 3 rfl rfl) rfl (by decide) rfl (Or.inr ⟨rfl, rfl, by decide⟩) rfl rfl rfl ?_
  clear H m; intro m H
  refine w_p h_m158 2 (pc' := 223) (L' := [(0, .ref 143)]) (st' := [.int (360 : Int32), .ref 143]) rfl ?_
  refine w_na H (ti := 1) (n := 360) (.long (0 : Int64)) (N' := 168) (S' := 63950) (pc' := 225) (L' := [(0, .ref 143)]) h_m158 (z_at.mk 2 rfl rfl) rfl (by decide) rfl (by decide) rfl rfl rfl rfl rfl ?_
  clear H m; intro m H
  refine w_pf H (22, 35, [(34, .ref 167), (33, .ref 166), (31, .ref 165), (30, .ref 164), (28, .ref 163), (26, .ref 162), (25, .ref 161), (24, .ref 160), (19, .ref 159), (18, .ref 158), (17, .ref 157), (16, .ref 156), (13, .ref 155), (12, .ref 154), (11, .ref 153), (9, .ref 152), (8, .ref 151), (7, .ref 150), (5, .ref 149), (4, .ref 148), (3, .ref 147), (2, .ref 146), (1, .ref 145), (0, .ref 144), (6, .int (0 : Int32)), (10, .int (0 : Int32)), (14, .int (0 : Int32)), (15, .int (0 : Int32)), (20, .int (0 : Int32)), (21, .int (0 : Int32)), (22, .int (0 : Int32)), (23, .int (0 : Int32)), (27, .int (0 : Int32)), (29, .int (0 : Int32)), (32, .int (0 : Int32))], none) (pc' := 228) (L' := [(0, .ref 143)]) h_m158 (z_at.mk 3 rfl rfl) rfl (by decide) rfl (Or.inr ⟨rfl, rfl, by decide⟩) rfl rfl rfl ?_
  clear H m; intro m H
  refine w_p h_m158 1 (pc' := 229) (L' := [(0, .ref 143)]) (st' := [.ref 143]) rfl ?_
  refine w_gf H (pc' := 232) (L' := [(0, .ref 143)]) h_m158 (z_at.mk 3 rfl rfl) rfl (u := .ref 144) rfl rfl rfl ?_
  refine w_p h_m158 2 (pc' := 236) (L' := [(0, .ref 143)]) (st' := [.int (10 : Int32), .int (11 : Int32), .ref 144]) rfl ?_
  refine w_as H (t := 0) (j := 11) (u := .int (10 : Int32)) (0, 2740, [(11, .int (10 : Int32))], some (.int (0 : Int32))) (pc' := 237) (L' := [(0, .ref 143)]) h_m158 (z_at.mk 1 rfl rfl) rfl rfl (w_ui _ _ (by decide)) rfl rfl rfl rfl ?_
  clear H m; intro m H
  refine w_p h_m158 1 (pc' := 238) (L' := [(0, .ref 143)]) (st' := [.ref 143]) rfl ?_
  refine w_gf H (pc' := 241) (L' := [(0, .ref 143)]) h_m158 (z_at.mk 3 rfl rfl) rfl (u := .ref 144) rfl rfl rfl ?_
  refine w_p h_m158 2 (pc' := 245) (L' := [(0, .ref 143)]) (st' := [.int (40 : Int32), .int (12 : Int32), .ref 144]) rfl ?_
  refine w_as H (t := 0) (j := 12) (u := .int (40 : Int32)) (0, 2740, [(12, .int (40 : Int32)), (11, .int (10 : Int32))], some (.int (0 : Int32))) (pc' := 246) (L' := [(0, .ref 143)]) h_m158 (z_at.mk 1 rfl rfl) rfl rfl (w_ui _ _ (by decide)) rfl rfl rfl rfl ?_
  clear H m; intro m H
  refine w_p h_m158 1 (pc' := 247) (L' := [(0, .ref 143)]) (st' := [.ref 143]) rfl ?_
  refine w_gf H (pc' := 250) (L' := [(0, .ref 143)]) h_m158 (z_at.mk 3 rfl rfl) rfl (u := .ref 144) rfl rfl rfl ?_
  refine w_p h_m158 2 (pc' := 254) (L' := [(0, .ref 143)]) (st' := [.int (12 : Int32), .int (13 : Int32), .ref 144]) rfl ?_
  refine w_as H (t := 0) (j := 13) (u := .int (12 : Int32)) (0, 2740, [(13, .int (12 : Int32)), (12, .int (40 : Int32)), (11, .int (10 : Int32))], some (.int (0 : Int32))) (pc' := 255) (L' := [(0, .ref 143)]) h_m158 (z_at.mk 1 rfl rfl) rfl rfl (w_ui _ _ (by decide)) rfl rfl rfl rfl ?_
  clear H m; intro m H
  refine w_p h_m158 1 (pc' := 256) (L' := [(0, .ref 143)]) (st' := [.ref 143]) rfl ?_
  refine w_gf H (pc' := 259) (L' := [(0, .ref 143)]) h_m158 (z_at.mk 3 rfl rfl) rfl (u := .ref 144) rfl rfl rfl ?_
  refine w_p h_m158 2 (pc' := 262) (L' := [(0, .ref 143)]) (st' := [.int (1 : Int32), .int (15 : Int32), .ref 144]) rfl ?_
  refine w_as H (t := 0) (j := 15) (u := .int (1 : Int32)) (0, 2740, [(15, .int (1 : Int32)), (13, .int (12 : Int32)), (12, .int (40 : Int32)), (11, .int (10 : Int32))], some (.int (0 : Int32))) (pc' := 263) (L' := [(0, .ref 143)]) h_m158 (z_at.mk 1 rfl rfl) rfl rfl (w_ui _ _ (by decide)) rfl rfl rfl rfl ?_
  clear H m; intro m H
  refine w_p h_m158 1 (pc' := 264) (L' := [(0, .ref 143)]) (st' := [.ref 143]) rfl ?_
  refine w_gf H (pc' := 267) (L' := [(0, .ref 143)]) h_m158 (z_at.mk 3 rfl rfl) rfl (u := .ref 144) rfl rfl rfl ?_
  refine w_p h_m158 2 (pc' := 270) (L' := [(0, .ref 143)]) (st' := [.int (1 : Int32), .int (16 : Int32), .ref 144]) rfl ?_
  refine w_as H (t := 0) (j := 16) (u := .int (1 : Int32)) (0, 2740, [(16, .int (1 : Int32)), (15, .int (1 : Int32)), (13, .int (12 : Int32)), (12, .int (40 : Int32)), (11, .int (10 : Int32))], some (.int (0 : Int32))) (pc' := 271) (L' := [(0, .ref 143)]) h_m158 (z_at.mk 1 rfl rfl) rfl rfl (w_ui _ _ (by decide)) rfl rfl rfl rfl ?_
  clear H m; intro m H
  refine w_p h_m158 1 (pc' := 272) (L' := [(0, .ref 143)]) (st' := [.ref 143]) rfl ?_
  refine w_gf H (pc' := 275) (L' := [(0, .ref 143)]) h_m158 (z_at.mk 3 rfl rfl) rfl (u := .ref 144) rfl rfl rfl ?_
  refine w_p h_m158 2 (pc' := 280) (L' := [(0, .ref 143)]) (st' := [.int (1024 : Int32), .int (17 : Int32), .ref 144]) rfl ?_
  refine w_as H (t := 0) (j := 17) (u := .int (1024 : Int32)) (0, 2740, [(17, .int (1024 : Int32)), (16, .int (1 : Int32)), (15, .int (1 : Int32)), (13, .int (12 : Int32)), (12, .int (40 : Int32)), (11, .int (10 : Int32))], some (.int (0 : Int32))) (pc' := 281) (L' := [(0, .ref 143)]) h_m158 (z_at.mk 1 rfl rfl) rfl rfl (w_ui _ _ (by decide)) rfl rfl rfl rfl ?_
  clear H m; intro m H
  refine w_rv h_m158 (z_at.mk 1 rfl rfl) rfl ?_
  show z_W 1000 1000 15 [(1, .ref 39), (0, .ref 0)] [.ref 143] m _
  refine w_p h_m1000 3 (pc' := 18) (L' := [(0, .ref 0), (1, .ref 39), (2, .ref 143), (3, .int (0 : Int32))]) (st' := []) rfl ?_
  exact hQ _ (H.subB (by decide +kernel))
