/-! THE ROADS of calls 26, 16 on a fresh object (by wip/px_cmd.py) -/
set_option maxHeartbeats 400000000 in
set_option maxRecDepth 20000 in
theorem w_c26 {xs : Nat → Int32} {m : zM} {Q : Option Value → zM → Prop} (H : w_ok 6 xs 168 63950 w_T0 m) (hQ : ∀ N S T m, w_ok 6 xs N S T m → N ≤ 600039 → S ≤ 7302250 → Q (some (.int 1)) m) : z_W 1000 1000 969 [(0, .ref 0), (1, .ref 39), (2, .ref 143), (3, .int (0 : Int32))] [] m Q := by
  have b1 := zi_bd (xs 1)
  have b2 := zi_bd (xs 2)
  have b3 := zi_bd (xs 3)
  have b4 := zi_bd (xs 4)
  have b5 := zi_bd (xs 5)
  refine w_p h_m1000 5 (pc' := 974) (L' := [(0, .ref 0), (1, .ref 39), (2, .ref 143), (3, .int (0 : Int32))]) (st' := [.int (1 : Int32), .ref 0, .ref 39]) rfl ?_
  refine w_ae H (j := 1) (pc' := 975) (L' := [(0, .ref 0), (1, .ref 39), (2, .ref 143), (3, .int (0 : Int32))]) h_m1000 (z_at.mk 1 rfl rfl) rfl rfl rfl (by decide) rfl (by decide) rfl rfl rfl ?_
  refine w_p h_m1000 4 (pc' := 979) (L' := [(0, .ref 0), (1, .ref 39), (2, .ref 143), (3, .int (0 : Int32))]) (st' := [.int (2 : Int32), .ref 0, .int (xs 1), .ref 39]) rfl ?_
  refine w_ae H (j := 2) (pc' := 980) (L' := [(0, .ref 0), (1, .ref 39), (2, .ref 143), (3, .int (0 : Int32))]) h_m1000 (z_at.mk 1 rfl rfl) rfl rfl rfl (by decide) rfl (by decide) rfl rfl rfl ?_
  refine w_p h_m1000 4 (pc' := 984) (L' := [(0, .ref 0), (1, .ref 39), (2, .ref 143), (3, .int (0 : Int32))]) (st' := [.int (3 : Int32), .ref 0, .int (xs 2), .int (xs 1), .ref 39]) rfl ?_
  refine w_ae H (j := 3) (pc' := 985) (L' := [(0, .ref 0), (1, .ref 39), (2, .ref 143), (3, .int (0 : Int32))]) h_m1000 (z_at.mk 1 rfl rfl) rfl rfl rfl (by decide) rfl (by decide) rfl rfl rfl ?_
  refine w_p h_m1000 4 (pc' := 989) (L' := [(0, .ref 0), (1, .ref 39), (2, .ref 143), (3, .int (0 : Int32))]) (st' := [.int (4 : Int32), .ref 0, .int (xs 3), .int (xs 2), .int (xs 1), .ref 39]) rfl ?_
  refine w_ae H (j := 4) (pc' := 990) (L' := [(0, .ref 0), (1, .ref 39), (2, .ref 143), (3, .int (0 : Int32))]) h_m1000 (z_at.mk 1 rfl rfl) rfl rfl rfl (by decide) rfl (by decide) rfl rfl rfl ?_
  refine w_p h_m1000 4 (pc' := 994) (L' := [(0, .ref 0), (1, .ref 39), (2, .ref 143), (3, .int (0 : Int32))]) (st' := [.int (5 : Int32), .ref 0, .int (xs 4), .int (xs 3), .int (xs 2), .int (xs 1), .ref 39]) rfl ?_
  refine w_ae H (j := 5) (pc' := 995) (L' := [(0, .ref 0), (1, .ref 39), (2, .ref 143), (3, .int (0 : Int32))]) h_m1000 (z_at.mk 1 rfl rfl) rfl rfl rfl (by decide) rfl (by decide) rfl rfl rfl ?_
  refine w_cv (H.t rfl) (pc' := 998) (L' := [(0, .ref 0), (1, .ref 39), (2, .ref 143), (3, .int (0 : Int32))]) (rest := []) (Ps := [.int (xs 1), .int (xs 2), .int (xs 3), .int (xs 4), .int (xs 5)]) (L0 := [(0, .ref 39), (1, .int (xs 1)), (2, .int (xs 2)), (3, .int (xs 3)), (4, .int (xs 4)), (5, .int (xs 5))]) h_m1000 (z_at.mk 3 rfl rfl) (Or.inl ⟨rfl, rfl⟩) rfl rfl (by decide) (by decide) rfl rfl rfl rfl rfl rfl (by decide) rfl rfl rfl ?_
  refine w_p h_m147 1 (pc' := 1) (L' := [(0, .ref 39), (1, .int (xs 1)), (2, .int (xs 2)), (3, .int (xs 3)), (4, .int (xs 4)), (5, .int (xs 5))]) (st' := [.int (xs 1)]) rfl ?_
  refine w_cs (As := [.int (xs 1)]) (rest := []) (j := 46) (L0 := [(0, .int (xs 1))]) (pc' := 4) (L' := [(0, .ref 39), (1, .int (xs 1)), (2, .int (xs 2)), (3, .int (xs 3)), (4, .int (xs 4)), (5, .int (xs 5))]) h_m147 (z_at.mk 3 rfl rfl) (Or.inl ⟨rfl, rfl⟩) rfl rfl rfl rfl rfl ?_
  refine w_p h_m46 1 (pc' := 1) (L' := [(0, .int (xs 1))]) (st' := [.int (xs 1)]) rfl ?_
  by_cases c_1 : (xs 1).toInt < 0
  · refine w_t1 (pc' := 14) (L' := []) h_m46 (z_at.mk 3 rfl rfl) rfl (zc (a := (xs 1).toInt) (b := 0) rfl rfl (decide_eq_true (by omega))) rfl rfl ?_
    refine w_p h_m46 1 (pc' := 15) (L' := []) (st' := [.int (0 : Int32)]) rfl ?_
    refine w_ri h_m46 (z_at.mk 1 rfl rfl) rfl rfl ?_
    show z_W 999 147 4 [(0, .ref 39), (1, .int (xs 1)), (2, .int (xs 2)), (3, .int (xs 3)), (4, .int (xs 4)), (5, .int (xs 5))] [.int (0 : Int32)] m _
    refine w_p h_m147 2 (pc' := 8) (L' := [(0, .ref 39), (1, .int (xs 1)), (2, .int (xs 2)), (3, .int (xs 3)), (4, .int (xs 4)), (5, .int (xs 5))]) (st' := [.int (-1 : Int32)]) rfl ?_
    refine w_ri h_m147 (z_at.mk 1 rfl rfl) rfl rfl ?_
    show z_W 1000 1000 998 [(0, .ref 0), (1, .ref 39), (2, .ref 143), (3, .int (0 : Int32))] [.int (-1 : Int32)] m _
    refine w_p h_m1000 5 (pc' := 1003) (L' := [(0, .ref 0), (1, .ref 39), (2, .ref 143), (3, .int (0 : Int32))]) (st' := [.int (1 : Int32), .ref 0, .ref 143, .int (-1 : Int32)]) rfl ?_
    refine w_ae H (j := 1) (pc' := 1004) (L' := [(0, .ref 0), (1, .ref 39), (2, .ref 143), (3, .int (0 : Int32))]) h_m1000 (z_at.mk 1 rfl rfl) rfl rfl rfl (by decide) rfl (by decide) rfl rfl rfl ?_
    refine w_p h_m1000 4 (pc' := 1008) (L' := [(0, .ref 0), (1, .ref 39), (2, .ref 143), (3, .int (0 : Int32))]) (st' := [.int (2 : Int32), .ref 0, .int (xs 1), .ref 143, .int (-1 : Int32)]) rfl ?_
    refine w_ae H (j := 2) (pc' := 1009) (L' := [(0, .ref 0), (1, .ref 39), (2, .ref 143), (3, .int (0 : Int32))]) h_m1000 (z_at.mk 1 rfl rfl) rfl rfl rfl (by decide) rfl (by decide) rfl rfl rfl ?_
    refine w_p h_m1000 4 (pc' := 1013) (L' := [(0, .ref 0), (1, .ref 39), (2, .ref 143), (3, .int (0 : Int32))]) (st' := [.int (3 : Int32), .ref 0, .int (xs 2), .int (xs 1), .ref 143, .int (-1 : Int32)]) rfl ?_
    refine w_ae H (j := 3) (pc' := 1014) (L' := [(0, .ref 0), (1, .ref 39), (2, .ref 143), (3, .int (0 : Int32))]) h_m1000 (z_at.mk 1 rfl rfl) rfl rfl rfl (by decide) rfl (by decide) rfl rfl rfl ?_
    refine w_p h_m1000 4 (pc' := 1018) (L' := [(0, .ref 0), (1, .ref 39), (2, .ref 143), (3, .int (0 : Int32))]) (st' := [.int (4 : Int32), .ref 0, .int (xs 3), .int (xs 2), .int (xs 1), .ref 143, .int (-1 : Int32)]) rfl ?_
    refine w_ae H (j := 4) (pc' := 1019) (L' := [(0, .ref 0), (1, .ref 39), (2, .ref 143), (3, .int (0 : Int32))]) h_m1000 (z_at.mk 1 rfl rfl) rfl rfl rfl (by decide) rfl (by decide) rfl rfl rfl ?_
    refine w_p h_m1000 4 (pc' := 1023) (L' := [(0, .ref 0), (1, .ref 39), (2, .ref 143), (3, .int (0 : Int32))]) (st' := [.int (5 : Int32), .ref 0, .int (xs 4), .int (xs 3), .int (xs 2), .int (xs 1), .ref 143, .int (-1 : Int32)]) rfl ?_
    refine w_ae H (j := 5) (pc' := 1024) (L' := [(0, .ref 0), (1, .ref 39), (2, .ref 143), (3, .int (0 : Int32))]) h_m1000 (z_at.mk 1 rfl rfl) rfl rfl rfl (by decide) rfl (by decide) rfl rfl rfl ?_
    refine w_cv (H.t rfl) (pc' := 1027) (L' := [(0, .ref 0), (1, .ref 39), (2, .ref 143), (3, .int (0 : Int32))]) (rest := [.int (-1 : Int32)]) (Ps := [.int (xs 1), .int (xs 2), .int (xs 3), .int (xs 4), .int (xs 5)]) (L0 := [(0, .ref 143), (1, .int (xs 1)), (2, .int (xs 2)), (3, .int (xs 3)), (4, .int (xs 4)), (5, .int (xs 5))]) h_m1000 (z_at.mk 3 rfl rfl) (Or.inl ⟨rfl, rfl⟩) rfl rfl (by decide) (by decide) rfl rfl rfl rfl rfl rfl (by decide) rfl rfl rfl ?_
    refine w_p h_m258 3 (pc' := 4) (L' := [(0, .ref 143), (1, .int (xs 1)), (2, .int (xs 2)), (3, .int (xs 3)), (4, .int (xs 4)), (5, .int (xs 5))]) (st' := [.int (6 : Int32), .int (0 : Int32), .int (xs 1)]) rfl ?_
    refine w_cs (As := [.int (xs 1), .int (0 : Int32), .int (6 : Int32)]) (rest := []) (j := 159) (L0 := [(0, .int (xs 1)), (1, .int (0 : Int32)), (2, .int (6 : Int32))]) (pc' := 7) (L' := [(0, .ref 143), (1, .int (xs 1)), (2, .int (xs 2)), (3, .int (xs 3)), (4, .int (xs 4)), (5, .int (xs 5))]) h_m258 (z_at.mk 3 rfl rfl) (Or.inl ⟨rfl, rfl⟩) rfl rfl rfl rfl rfl ?_
    refine w_p h_m159 2 (pc' := 2) (L' := [(0, .int (xs 1)), (1, .int (0 : Int32)), (2, .int (6 : Int32))]) (st' := [.int (0 : Int32), .int (xs 1)]) rfl ?_
    refine w_t2 (pc' := 14) (L' := []) h_m159 (z_at.mk 3 rfl rfl) rfl (zc (a := (xs 1).toInt) (b := 0) rfl rfl (decide_eq_true (by omega))) rfl rfl ?_
    refine w_p h_m159 1 (pc' := 15) (L' := []) (st' := [.int (0 : Int32)]) rfl ?_
    refine w_ri h_m159 (z_at.mk 1 rfl rfl) rfl rfl ?_
    show z_W 999 258 7 [(0, .ref 143), (1, .int (xs 1)), (2, .int (xs 2)), (3, .int (xs 3)), (4, .int (xs 4)), (5, .int (xs 5))] [.int (0 : Int32)] m _
    refine w_p h_m258 2 (pc' := 11) (L' := [(0, .ref 143), (1, .int (xs 1)), (2, .int (xs 2)), (3, .int (xs 3)), (4, .int (xs 4)), (5, .int (xs 5))]) (st' := [.int (-1 : Int32)]) rfl ?_
    refine w_ri h_m258 (z_at.mk 1 rfl rfl) rfl rfl ?_
    show z_W 1000 1000 1027 [(0, .ref 0), (1, .ref 39), (2, .ref 143), (3, .int (0 : Int32))] [.int (-1 : Int32), .int (-1 : Int32)] m _
    refine w_p h_m1000 5 (pc' := 20) (L' := [(0, .ref 0), (1, .ref 39), (2, .ref 143), (3, .int (6 : Int32))]) (st' := [.ref 0, .int (6 : Int32)]) rfl ?_
    refine w_lene H (x := (6 : Int32)) (pc' := 21) (L' := [(0, .ref 0), (1, .ref 39), (2, .ref 143), (3, .int (6 : Int32))]) h_m1000 (z_at.mk 1 rfl rfl) (by decide) rfl (by decide) rfl rfl rfl ?_
    refine w_p h_m1000 4 (pc' := 1381) (L' := [(0, .ref 0), (1, .ref 39), (2, .ref 143), (3, .int (6 : Int32))]) (st' := [.int (1 : Int32)]) rfl ?_
    refine w_ri h_m1000 (z_at.mk 1 rfl rfl) rfl rfl ?_
    exact hQ _ _ _ _ H (by decide) (by decide)
  · refine w_f1 (pc' := 4) (L' := [(0, .int (xs 1))]) h_m46 (z_at.mk 3 rfl rfl) rfl (zc (a := (xs 1).toInt) (b := 0) rfl rfl (decide_eq_false (by omega))) rfl rfl ?_
    refine w_p h_m46 2 (pc' := 7) (L' := [(0, .int (xs 1))]) (st' := [.int (6 : Int32), .int (xs 1)]) rfl ?_
    by_cases c_2 : (xs 1).toInt ≤ 6
    · refine w_f2 (pc' := 10) (L' := [(0, .int (xs 1))]) h_m46 (z_at.mk 3 rfl rfl) rfl (zc (a := (xs 1).toInt) (b := 6) rfl rfl (decide_eq_false (by omega))) rfl rfl ?_
      refine w_p h_m46 2 (pc' := 15) (L' := []) (st' := [.int (1 : Int32)]) rfl ?_
      refine w_ri h_m46 (z_at.mk 1 rfl rfl) rfl rfl ?_
      show z_W 999 147 4 [(0, .ref 39), (1, .int (xs 1)), (2, .int (xs 2)), (3, .int (xs 3)), (4, .int (xs 4)), (5, .int (xs 5))] [.int (1 : Int32)] m _
      refine w_p h_m147 5 (pc' := 15) (L' := [(0, .ref 39), (1, .int (xs 1)), (2, .int (xs 2)), (3, .int (xs 3)), (4, .int (xs 4)), (5, .int (xs 5))]) (st' := [.int (xs 5), .int (xs 4), .int (xs 3), .int (xs 2)]) rfl ?_
      refine w_cs (As := [.int (xs 2), .int (xs 3), .int (xs 4), .int (xs 5)]) (rest := []) (j := 1) (L0 := [(0, .int (xs 2)), (1, .int (xs 3)), (2, .int (xs 4)), (3, .int (xs 5))]) (pc' := 18) (L' := [(0, .ref 39), (1, .int (xs 1)), (2, .int (xs 2)), (3, .int (xs 3)), (4, .int (xs 4)), (5, .int (xs 5))]) h_m147 (z_at.mk 3 rfl rfl) (Or.inl ⟨rfl, rfl⟩) rfl rfl rfl rfl rfl ?_
      refine w_p h_m1 2 (pc' := 2) (L' := [(0, .int (xs 2)), (1, .int (xs 3)), (2, .int (xs 4)), (3, .int (xs 5))]) (st' := [.int (xs 4), .int (xs 2)]) rfl ?_
      refine w_cs (As := [.int (xs 2), .int (xs 4)]) (rest := []) (j := 0) (L0 := [(0, .int (xs 2)), (1, .int (xs 4))]) (pc' := 5) (L' := [(0, .int (xs 2)), (1, .int (xs 3)), (2, .int (xs 4)), (3, .int (xs 5))]) h_m1 (z_at.mk 3 rfl rfl) (Or.inl ⟨rfl, rfl⟩) rfl rfl rfl rfl rfl ?_
      refine w_p h_m0 1 (pc' := 1) (L' := [(0, .int (xs 2)), (1, .int (xs 4))]) (st' := [.int (xs 2)]) rfl ?_
      by_cases c_3 : (xs 2).toInt < 0
      · refine w_t1 (pc' := 24) (L' := []) h_m0 (z_at.mk 3 rfl rfl) rfl (zc (a := (xs 2).toInt) (b := 0) rfl rfl (decide_eq_true (by omega))) rfl rfl ?_
        refine w_p h_m0 1 (pc' := 25) (L' := []) (st' := [.int (0 : Int32)]) rfl ?_
        refine w_ri h_m0 (z_at.mk 1 rfl rfl) rfl rfl ?_
        show z_W 998 1 5 [(0, .int (xs 2)), (1, .int (xs 3)), (2, .int (xs 4)), (3, .int (xs 5))] [.int (0 : Int32)] m _
        refine w_p h_m1 2 (pc' := 31) (L' := []) (st' := [.int (0 : Int32)]) rfl ?_
        refine w_ri h_m1 (z_at.mk 1 rfl rfl) rfl rfl ?_
        show z_W 999 147 18 [(0, .ref 39), (1, .int (xs 1)), (2, .int (xs 2)), (3, .int (xs 3)), (4, .int (xs 4)), (5, .int (xs 5))] [.int (0 : Int32)] m _
        refine w_p h_m147 2 (pc' := 23) (L' := [(0, .ref 39), (1, .int (xs 1)), (2, .int (xs 2)), (3, .int (xs 3)), (4, .int (xs 4)), (5, .int (xs 5))]) (st' := [.int (-2 : Int32)]) rfl ?_
        refine w_ri h_m147 (z_at.mk 1 rfl rfl) rfl rfl ?_
        show z_W 1000 1000 998 [(0, .ref 0), (1, .ref 39), (2, .ref 143), (3, .int (0 : Int32))] [.int (-2 : Int32)] m _
        refine w_p h_m1000 5 (pc' := 1003) (L' := [(0, .ref 0), (1, .ref 39), (2, .ref 143), (3, .int (0 : Int32))]) (st' := [.int (1 : Int32), .ref 0, .ref 143, .int (-2 : Int32)]) rfl ?_
        refine w_ae H (j := 1) (pc' := 1004) (L' := [(0, .ref 0), (1, .ref 39), (2, .ref 143), (3, .int (0 : Int32))]) h_m1000 (z_at.mk 1 rfl rfl) rfl rfl rfl (by decide) rfl (by decide) rfl rfl rfl ?_
        refine w_p h_m1000 4 (pc' := 1008) (L' := [(0, .ref 0), (1, .ref 39), (2, .ref 143), (3, .int (0 : Int32))]) (st' := [.int (2 : Int32), .ref 0, .int (xs 1), .ref 143, .int (-2 : Int32)]) rfl ?_
        refine w_ae H (j := 2) (pc' := 1009) (L' := [(0, .ref 0), (1, .ref 39), (2, .ref 143), (3, .int (0 : Int32))]) h_m1000 (z_at.mk 1 rfl rfl) rfl rfl rfl (by decide) rfl (by decide) rfl rfl rfl ?_
        refine w_p h_m1000 4 (pc' := 1013) (L' := [(0, .ref 0), (1, .ref 39), (2, .ref 143), (3, .int (0 : Int32))]) (st' := [.int (3 : Int32), .ref 0, .int (xs 2), .int (xs 1), .ref 143, .int (-2 : Int32)]) rfl ?_
        refine w_ae H (j := 3) (pc' := 1014) (L' := [(0, .ref 0), (1, .ref 39), (2, .ref 143), (3, .int (0 : Int32))]) h_m1000 (z_at.mk 1 rfl rfl) rfl rfl rfl (by decide) rfl (by decide) rfl rfl rfl ?_
        refine w_p h_m1000 4 (pc' := 1018) (L' := [(0, .ref 0), (1, .ref 39), (2, .ref 143), (3, .int (0 : Int32))]) (st' := [.int (4 : Int32), .ref 0, .int (xs 3), .int (xs 2), .int (xs 1), .ref 143, .int (-2 : Int32)]) rfl ?_
        refine w_ae H (j := 4) (pc' := 1019) (L' := [(0, .ref 0), (1, .ref 39), (2, .ref 143), (3, .int (0 : Int32))]) h_m1000 (z_at.mk 1 rfl rfl) rfl rfl rfl (by decide) rfl (by decide) rfl rfl rfl ?_
        refine w_p h_m1000 4 (pc' := 1023) (L' := [(0, .ref 0), (1, .ref 39), (2, .ref 143), (3, .int (0 : Int32))]) (st' := [.int (5 : Int32), .ref 0, .int (xs 4), .int (xs 3), .int (xs 2), .int (xs 1), .ref 143, .int (-2 : Int32)]) rfl ?_
        refine w_ae H (j := 5) (pc' := 1024) (L' := [(0, .ref 0), (1, .ref 39), (2, .ref 143), (3, .int (0 : Int32))]) h_m1000 (z_at.mk 1 rfl rfl) rfl rfl rfl (by decide) rfl (by decide) rfl rfl rfl ?_
        refine w_cv (H.t rfl) (pc' := 1027) (L' := [(0, .ref 0), (1, .ref 39), (2, .ref 143), (3, .int (0 : Int32))]) (rest := [.int (-2 : Int32)]) (Ps := [.int (xs 1), .int (xs 2), .int (xs 3), .int (xs 4), .int (xs 5)]) (L0 := [(0, .ref 143), (1, .int (xs 1)), (2, .int (xs 2)), (3, .int (xs 3)), (4, .int (xs 4)), (5, .int (xs 5))]) h_m1000 (z_at.mk 3 rfl rfl) (Or.inl ⟨rfl, rfl⟩) rfl rfl (by decide) (by decide) rfl rfl rfl rfl rfl rfl (by decide) rfl rfl rfl ?_
        refine w_p h_m258 3 (pc' := 4) (L' := [(0, .ref 143), (1, .int (xs 1)), (2, .int (xs 2)), (3, .int (xs 3)), (4, .int (xs 4)), (5, .int (xs 5))]) (st' := [.int (6 : Int32), .int (0 : Int32), .int (xs 1)]) rfl ?_
        refine w_cs (As := [.int (xs 1), .int (0 : Int32), .int (6 : Int32)]) (rest := []) (j := 159) (L0 := [(0, .int (xs 1)), (1, .int (0 : Int32)), (2, .int (6 : Int32))]) (pc' := 7) (L' := [(0, .ref 143), (1, .int (xs 1)), (2, .int (xs 2)), (3, .int (xs 3)), (4, .int (xs 4)), (5, .int (xs 5))]) h_m258 (z_at.mk 3 rfl rfl) (Or.inl ⟨rfl, rfl⟩) rfl rfl rfl rfl rfl ?_
        refine w_p h_m159 2 (pc' := 2) (L' := [(0, .int (xs 1)), (1, .int (0 : Int32)), (2, .int (6 : Int32))]) (st' := [.int (0 : Int32), .int (xs 1)]) rfl ?_
        refine w_f2 (pc' := 5) (L' := [(0, .int (xs 1)), (1, .int (0 : Int32)), (2, .int (6 : Int32))]) h_m159 (z_at.mk 3 rfl rfl) rfl (zc (a := (xs 1).toInt) (b := 0) rfl rfl (decide_eq_false (by omega))) rfl rfl ?_
        refine w_p h_m159 2 (pc' := 7) (L' := [(0, .int (xs 1)), (1, .int (0 : Int32)), (2, .int (6 : Int32))]) (st' := [.int (6 : Int32), .int (xs 1)]) rfl ?_
        refine w_f2 (pc' := 10) (L' := [(0, .int (xs 1)), (1, .int (0 : Int32)), (2, .int (6 : Int32))]) h_m159 (z_at.mk 3 rfl rfl) rfl (zc (a := (xs 1).toInt) (b := 6) rfl rfl (decide_eq_false (by omega))) rfl rfl ?_
        refine w_p h_m159 2 (pc' := 15) (L' := []) (st' := [.int (1 : Int32)]) rfl ?_
        refine w_ri h_m159 (z_at.mk 1 rfl rfl) rfl rfl ?_
        show z_W 999 258 7 [(0, .ref 143), (1, .int (xs 1)), (2, .int (xs 2)), (3, .int (xs 3)), (4, .int (xs 4)), (5, .int (xs 5))] [.int (1 : Int32)] m _
        refine w_p h_m258 5 (pc' := 18) (L' := [(0, .ref 143), (1, .int (xs 1)), (2, .int (xs 2)), (3, .int (xs 3)), (4, .int (xs 4)), (5, .int (xs 5))]) (st' := [.int (xs 5), .int (xs 4), .int (xs 3), .int (xs 2)]) rfl ?_
        refine w_cs (As := [.int (xs 2), .int (xs 3), .int (xs 4), .int (xs 5)]) (rest := []) (j := 164) (L0 := [(0, .int (xs 2)), (1, .int (xs 3)), (2, .int (xs 4)), (3, .int (xs 5))]) (pc' := 21) (L' := [(0, .ref 143), (1, .int (xs 1)), (2, .int (xs 2)), (3, .int (xs 3)), (4, .int (xs 4)), (5, .int (xs 5))]) h_m258 (z_at.mk 3 rfl rfl) (Or.inl ⟨rfl, rfl⟩) rfl rfl rfl rfl rfl ?_
        refine w_p h_m164 3 (pc' := 4) (L' := [(0, .int (xs 2)), (1, .int (xs 3)), (2, .int (xs 4)), (3, .int (xs 5))]) (st' := [.int (31 : Int32), .int (0 : Int32), .int (xs 2)]) rfl ?_
        refine w_cs (As := [.int (xs 2), .int (0 : Int32), .int (31 : Int32)]) (rest := []) (j := 159) (L0 := [(0, .int (xs 2)), (1, .int (0 : Int32)), (2, .int (31 : Int32))]) (pc' := 7) (L' := [(0, .int (xs 2)), (1, .int (xs 3)), (2, .int (xs 4)), (3, .int (xs 5))]) h_m164 (z_at.mk 3 rfl rfl) (Or.inl ⟨rfl, rfl⟩) rfl rfl rfl rfl rfl ?_
        refine w_p h_m159 2 (pc' := 2) (L' := [(0, .int (xs 2)), (1, .int (0 : Int32)), (2, .int (31 : Int32))]) (st' := [.int (0 : Int32), .int (xs 2)]) rfl ?_
        refine w_t2 (pc' := 14) (L' := []) h_m159 (z_at.mk 3 rfl rfl) rfl (zc (a := (xs 2).toInt) (b := 0) rfl rfl (decide_eq_true (by omega))) rfl rfl ?_
        refine w_p h_m159 1 (pc' := 15) (L' := []) (st' := [.int (0 : Int32)]) rfl ?_
        refine w_ri h_m159 (z_at.mk 1 rfl rfl) rfl rfl ?_
        show z_W 998 164 7 [(0, .int (xs 2)), (1, .int (xs 3)), (2, .int (xs 4)), (3, .int (xs 5))] [.int (0 : Int32)] m _
        refine w_p h_m164 2 (pc' := 45) (L' := []) (st' := [.int (0 : Int32)]) rfl ?_
        refine w_ri h_m164 (z_at.mk 1 rfl rfl) rfl rfl ?_
        show z_W 999 258 21 [(0, .ref 143), (1, .int (xs 1)), (2, .int (xs 2)), (3, .int (xs 3)), (4, .int (xs 4)), (5, .int (xs 5))] [.int (0 : Int32)] m _
        refine w_p h_m258 2 (pc' := 26) (L' := [(0, .ref 143), (1, .int (xs 1)), (2, .int (xs 2)), (3, .int (xs 3)), (4, .int (xs 4)), (5, .int (xs 5))]) (st' := [.int (-2 : Int32)]) rfl ?_
        refine w_ri h_m258 (z_at.mk 1 rfl rfl) rfl rfl ?_
        show z_W 1000 1000 1027 [(0, .ref 0), (1, .ref 39), (2, .ref 143), (3, .int (0 : Int32))] [.int (-2 : Int32), .int (-2 : Int32)] m _
        refine w_p h_m1000 5 (pc' := 20) (L' := [(0, .ref 0), (1, .ref 39), (2, .ref 143), (3, .int (6 : Int32))]) (st' := [.ref 0, .int (6 : Int32)]) rfl ?_
        refine w_lene H (x := (6 : Int32)) (pc' := 21) (L' := [(0, .ref 0), (1, .ref 39), (2, .ref 143), (3, .int (6 : Int32))]) h_m1000 (z_at.mk 1 rfl rfl) (by decide) rfl (by decide) rfl rfl rfl ?_
        refine w_p h_m1000 4 (pc' := 1381) (L' := [(0, .ref 0), (1, .ref 39), (2, .ref 143), (3, .int (6 : Int32))]) (st' := [.int (1 : Int32)]) rfl ?_
        refine w_ri h_m1000 (z_at.mk 1 rfl rfl) rfl rfl ?_
        exact hQ _ _ _ _ H (by decide) (by decide)
      · refine w_f1 (pc' := 4) (L' := [(0, .int (xs 2)), (1, .int (xs 4))]) h_m0 (z_at.mk 3 rfl rfl) rfl (zc (a := (xs 2).toInt) (b := 0) rfl rfl (decide_eq_false (by omega))) rfl rfl ?_
        refine w_p h_m0 2 (pc' := 7) (L' := [(0, .int (xs 2)), (1, .int (xs 4))]) (st' := [.int (32 : Int32), .int (xs 2)]) rfl ?_
        by_cases c_4 : (xs 2).toInt < 32
        · refine w_f2 (pc' := 10) (L' := [(0, .int (xs 2)), (1, .int (xs 4))]) h_m0 (z_at.mk 3 rfl rfl) rfl (zc (a := (xs 2).toInt) (b := 32) rfl rfl (decide_eq_false (by omega))) rfl rfl ?_
          refine w_p h_m0 1 (pc' := 11) (L' := [(0, .int (xs 2)), (1, .int (xs 4))]) (st' := [.int (xs 4)]) rfl ?_
          by_cases c_5 : (xs 4).toInt < 0
          · refine w_t1 (pc' := 24) (L' := []) h_m0 (z_at.mk 3 rfl rfl) rfl (zc (a := (xs 4).toInt) (b := 0) rfl rfl (decide_eq_true (by omega))) rfl rfl ?_
            refine w_p h_m0 1 (pc' := 25) (L' := []) (st' := [.int (0 : Int32)]) rfl ?_
            refine w_ri h_m0 (z_at.mk 1 rfl rfl) rfl rfl ?_
            show z_W 998 1 5 [(0, .int (xs 2)), (1, .int (xs 3)), (2, .int (xs 4)), (3, .int (xs 5))] [.int (0 : Int32)] m _
            refine w_p h_m1 2 (pc' := 31) (L' := []) (st' := [.int (0 : Int32)]) rfl ?_
            refine w_ri h_m1 (z_at.mk 1 rfl rfl) rfl rfl ?_
            show z_W 999 147 18 [(0, .ref 39), (1, .int (xs 1)), (2, .int (xs 2)), (3, .int (xs 3)), (4, .int (xs 4)), (5, .int (xs 5))] [.int (0 : Int32)] m _
            refine w_p h_m147 2 (pc' := 23) (L' := [(0, .ref 39), (1, .int (xs 1)), (2, .int (xs 2)), (3, .int (xs 3)), (4, .int (xs 4)), (5, .int (xs 5))]) (st' := [.int (-2 : Int32)]) rfl ?_
            refine w_ri h_m147 (z_at.mk 1 rfl rfl) rfl rfl ?_
            show z_W 1000 1000 998 [(0, .ref 0), (1, .ref 39), (2, .ref 143), (3, .int (0 : Int32))] [.int (-2 : Int32)] m _
            refine w_p h_m1000 5 (pc' := 1003) (L' := [(0, .ref 0), (1, .ref 39), (2, .ref 143), (3, .int (0 : Int32))]) (st' := [.int (1 : Int32), .ref 0, .ref 143, .int (-2 : Int32)]) rfl ?_
            refine w_ae H (j := 1) (pc' := 1004) (L' := [(0, .ref 0), (1, .ref 39), (2, .ref 143), (3, .int (0 : Int32))]) h_m1000 (z_at.mk 1 rfl rfl) rfl rfl rfl (by decide) rfl (by decide) rfl rfl rfl ?_
            refine w_p h_m1000 4 (pc' := 1008) (L' := [(0, .ref 0), (1, .ref 39), (2, .ref 143), (3, .int (0 : Int32))]) (st' := [.int (2 : Int32), .ref 0, .int (xs 1), .ref 143, .int (-2 : Int32)]) rfl ?_
            refine w_ae H (j := 2) (pc' := 1009) (L' := [(0, .ref 0), (1, .ref 39), (2, .ref 143), (3, .int (0 : Int32))]) h_m1000 (z_at.mk 1 rfl rfl) rfl rfl rfl (by decide) rfl (by decide) rfl rfl rfl ?_
            refine w_p h_m1000 4 (pc' := 1013) (L' := [(0, .ref 0), (1, .ref 39), (2, .ref 143), (3, .int (0 : Int32))]) (st' := [.int (3 : Int32), .ref 0, .int (xs 2), .int (xs 1), .ref 143, .int (-2 : Int32)]) rfl ?_
            refine w_ae H (j := 3) (pc' := 1014) (L' := [(0, .ref 0), (1, .ref 39), (2, .ref 143), (3, .int (0 : Int32))]) h_m1000 (z_at.mk 1 rfl rfl) rfl rfl rfl (by decide) rfl (by decide) rfl rfl rfl ?_
            refine w_p h_m1000 4 (pc' := 1018) (L' := [(0, .ref 0), (1, .ref 39), (2, .ref 143), (3, .int (0 : Int32))]) (st' := [.int (4 : Int32), .ref 0, .int (xs 3), .int (xs 2), .int (xs 1), .ref 143, .int (-2 : Int32)]) rfl ?_
            refine w_ae H (j := 4) (pc' := 1019) (L' := [(0, .ref 0), (1, .ref 39), (2, .ref 143), (3, .int (0 : Int32))]) h_m1000 (z_at.mk 1 rfl rfl) rfl rfl rfl (by decide) rfl (by decide) rfl rfl rfl ?_
            refine w_p h_m1000 4 (pc' := 1023) (L' := [(0, .ref 0), (1, .ref 39), (2, .ref 143), (3, .int (0 : Int32))]) (st' := [.int (5 : Int32), .ref 0, .int (xs 4), .int (xs 3), .int (xs 2), .int (xs 1), .ref 143, .int (-2 : Int32)]) rfl ?_
            refine w_ae H (j := 5) (pc' := 1024) (L' := [(0, .ref 0), (1, .ref 39), (2, .ref 143), (3, .int (0 : Int32))]) h_m1000 (z_at.mk 1 rfl rfl) rfl rfl rfl (by decide) rfl (by decide) rfl rfl rfl ?_
            refine w_cv (H.t rfl) (pc' := 1027) (L' := [(0, .ref 0), (1, .ref 39), (2, .ref 143), (3, .int (0 : Int32))]) (rest := [.int (-2 : Int32)]) (Ps := [.int (xs 1), .int (xs 2), .int (xs 3), .int (xs 4), .int (xs 5)]) (L0 := [(0, .ref 143), (1, .int (xs 1)), (2, .int (xs 2)), (3, .int (xs 3)), (4, .int (xs 4)), (5, .int (xs 5))]) h_m1000 (z_at.mk 3 rfl rfl) (Or.inl ⟨rfl, rfl⟩) rfl rfl (by decide) (by decide) rfl rfl rfl rfl rfl rfl (by decide) rfl rfl rfl ?_
            refine w_p h_m258 3 (pc' := 4) (L' := [(0, .ref 143), (1, .int (xs 1)), (2, .int (xs 2)), (3, .int (xs 3)), (4, .int (xs 4)), (5, .int (xs 5))]) (st' := [.int (6 : Int32), .int (0 : Int32), .int (xs 1)]) rfl ?_
            refine w_cs (As := [.int (xs 1), .int (0 : Int32), .int (6 : Int32)]) (rest := []) (j := 159) (L0 := [(0, .int (xs 1)), (1, .int (0 : Int32)), (2, .int (6 : Int32))]) (pc' := 7) (L' := [(0, .ref 143), (1, .int (xs 1)), (2, .int (xs 2)), (3, .int (xs 3)), (4, .int (xs 4)), (5, .int (xs 5))]) h_m258 (z_at.mk 3 rfl rfl) (Or.inl ⟨rfl, rfl⟩) rfl rfl rfl rfl rfl ?_
            refine w_p h_m159 2 (pc' := 2) (L' := [(0, .int (xs 1)), (1, .int (0 : Int32)), (2, .int (6 : Int32))]) (st' := [.int (0 : Int32), .int (xs 1)]) rfl ?_
            refine w_f2 (pc' := 5) (L' := [(0, .int (xs 1)), (1, .int (0 : Int32)), (2, .int (6 : Int32))]) h_m159 (z_at.mk 3 rfl rfl) rfl (zc (a := (xs 1).toInt) (b := 0) rfl rfl (decide_eq_false (by omega))) rfl rfl ?_
            refine w_p h_m159 2 (pc' := 7) (L' := [(0, .int (xs 1)), (1, .int (0 : Int32)), (2, .int (6 : Int32))]) (st' := [.int (6 : Int32), .int (xs 1)]) rfl ?_
            refine w_f2 (pc' := 10) (L' := [(0, .int (xs 1)), (1, .int (0 : Int32)), (2, .int (6 : Int32))]) h_m159 (z_at.mk 3 rfl rfl) rfl (zc (a := (xs 1).toInt) (b := 6) rfl rfl (decide_eq_false (by omega))) rfl rfl ?_
            refine w_p h_m159 2 (pc' := 15) (L' := []) (st' := [.int (1 : Int32)]) rfl ?_
            refine w_ri h_m159 (z_at.mk 1 rfl rfl) rfl rfl ?_
            show z_W 999 258 7 [(0, .ref 143), (1, .int (xs 1)), (2, .int (xs 2)), (3, .int (xs 3)), (4, .int (xs 4)), (5, .int (xs 5))] [.int (1 : Int32)] m _
            refine w_p h_m258 5 (pc' := 18) (L' := [(0, .ref 143), (1, .int (xs 1)), (2, .int (xs 2)), (3, .int (xs 3)), (4, .int (xs 4)), (5, .int (xs 5))]) (st' := [.int (xs 5), .int (xs 4), .int (xs 3), .int (xs 2)]) rfl ?_
            refine w_cs (As := [.int (xs 2), .int (xs 3), .int (xs 4), .int (xs 5)]) (rest := []) (j := 164) (L0 := [(0, .int (xs 2)), (1, .int (xs 3)), (2, .int (xs 4)), (3, .int (xs 5))]) (pc' := 21) (L' := [(0, .ref 143), (1, .int (xs 1)), (2, .int (xs 2)), (3, .int (xs 3)), (4, .int (xs 4)), (5, .int (xs 5))]) h_m258 (z_at.mk 3 rfl rfl) (Or.inl ⟨rfl, rfl⟩) rfl rfl rfl rfl rfl ?_
            refine w_p h_m164 3 (pc' := 4) (L' := [(0, .int (xs 2)), (1, .int (xs 3)), (2, .int (xs 4)), (3, .int (xs 5))]) (st' := [.int (31 : Int32), .int (0 : Int32), .int (xs 2)]) rfl ?_
            refine w_cs (As := [.int (xs 2), .int (0 : Int32), .int (31 : Int32)]) (rest := []) (j := 159) (L0 := [(0, .int (xs 2)), (1, .int (0 : Int32)), (2, .int (31 : Int32))]) (pc' := 7) (L' := [(0, .int (xs 2)), (1, .int (xs 3)), (2, .int (xs 4)), (3, .int (xs 5))]) h_m164 (z_at.mk 3 rfl rfl) (Or.inl ⟨rfl, rfl⟩) rfl rfl rfl rfl rfl ?_
            refine w_p h_m159 2 (pc' := 2) (L' := [(0, .int (xs 2)), (1, .int (0 : Int32)), (2, .int (31 : Int32))]) (st' := [.int (0 : Int32), .int (xs 2)]) rfl ?_
            refine w_f2 (pc' := 5) (L' := [(0, .int (xs 2)), (1, .int (0 : Int32)), (2, .int (31 : Int32))]) h_m159 (z_at.mk 3 rfl rfl) rfl (zc (a := (xs 2).toInt) (b := 0) rfl rfl (decide_eq_false (by omega))) rfl rfl ?_
            refine w_p h_m159 2 (pc' := 7) (L' := [(0, .int (xs 2)), (1, .int (0 : Int32)), (2, .int (31 : Int32))]) (st' := [.int (31 : Int32), .int (xs 2)]) rfl ?_
            refine w_f2 (pc' := 10) (L' := [(0, .int (xs 2)), (1, .int (0 : Int32)), (2, .int (31 : Int32))]) h_m159 (z_at.mk 3 rfl rfl) rfl (zc (a := (xs 2).toInt) (b := 31) rfl rfl (decide_eq_false (by omega))) rfl rfl ?_
            refine w_p h_m159 2 (pc' := 15) (L' := []) (st' := [.int (1 : Int32)]) rfl ?_
            refine w_ri h_m159 (z_at.mk 1 rfl rfl) rfl rfl ?_
            show z_W 998 164 7 [(0, .int (xs 2)), (1, .int (xs 3)), (2, .int (xs 4)), (3, .int (xs 5))] [.int (1 : Int32)] m _
            refine w_p h_m164 4 (pc' := 14) (L' := [(0, .int (xs 2)), (1, .int (xs 3)), (2, .int (xs 4)), (3, .int (xs 5))]) (st' := [.int (31 : Int32), .int (xs 2), .int (xs 3)]) rfl ?_
            refine w_cs (As := [.int (xs 3), .int (xs 2), .int (31 : Int32)]) (rest := []) (j := 159) (L0 := [(0, .int (xs 3)), (1, .int (xs 2)), (2, .int (31 : Int32))]) (pc' := 17) (L' := [(0, .int (xs 2)), (1, .int (xs 3)), (2, .int (xs 4)), (3, .int (xs 5))]) h_m164 (z_at.mk 3 rfl rfl) (Or.inl ⟨rfl, rfl⟩) rfl rfl rfl rfl rfl ?_
            refine w_p h_m159 2 (pc' := 2) (L' := [(0, .int (xs 3)), (1, .int (xs 2)), (2, .int (31 : Int32))]) (st' := [.int (xs 2), .int (xs 3)]) rfl ?_
            by_cases c_6 : (xs 3).toInt < (xs 2).toInt
            · refine w_t2 (pc' := 14) (L' := []) h_m159 (z_at.mk 3 rfl rfl) rfl (zc (a := (xs 3).toInt) (b := (xs 2).toInt) rfl rfl (decide_eq_true (by omega))) rfl rfl ?_
              refine w_p h_m159 1 (pc' := 15) (L' := []) (st' := [.int (0 : Int32)]) rfl ?_
              refine w_ri h_m159 (z_at.mk 1 rfl rfl) rfl rfl ?_
              show z_W 998 164 17 [(0, .int (xs 2)), (1, .int (xs 3)), (2, .int (xs 4)), (3, .int (xs 5))] [.int (0 : Int32)] m _
              refine w_p h_m164 2 (pc' := 45) (L' := []) (st' := [.int (0 : Int32)]) rfl ?_
              refine w_ri h_m164 (z_at.mk 1 rfl rfl) rfl rfl ?_
              show z_W 999 258 21 [(0, .ref 143), (1, .int (xs 1)), (2, .int (xs 2)), (3, .int (xs 3)), (4, .int (xs 4)), (5, .int (xs 5))] [.int (0 : Int32)] m _
              refine w_p h_m258 2 (pc' := 26) (L' := [(0, .ref 143), (1, .int (xs 1)), (2, .int (xs 2)), (3, .int (xs 3)), (4, .int (xs 4)), (5, .int (xs 5))]) (st' := [.int (-2 : Int32)]) rfl ?_
              refine w_ri h_m258 (z_at.mk 1 rfl rfl) rfl rfl ?_
              show z_W 1000 1000 1027 [(0, .ref 0), (1, .ref 39), (2, .ref 143), (3, .int (0 : Int32))] [.int (-2 : Int32), .int (-2 : Int32)] m _
              refine w_p h_m1000 5 (pc' := 20) (L' := [(0, .ref 0), (1, .ref 39), (2, .ref 143), (3, .int (6 : Int32))]) (st' := [.ref 0, .int (6 : Int32)]) rfl ?_
              refine w_lene H (x := (6 : Int32)) (pc' := 21) (L' := [(0, .ref 0), (1, .ref 39), (2, .ref 143), (3, .int (6 : Int32))]) h_m1000 (z_at.mk 1 rfl rfl) (by decide) rfl (by decide) rfl rfl rfl ?_
              refine w_p h_m1000 4 (pc' := 1381) (L' := [(0, .ref 0), (1, .ref 39), (2, .ref 143), (3, .int (6 : Int32))]) (st' := [.int (1 : Int32)]) rfl ?_
              refine w_ri h_m1000 (z_at.mk 1 rfl rfl) rfl rfl ?_
              exact hQ _ _ _ _ H (by decide) (by decide)
            · refine w_f2 (pc' := 5) (L' := [(0, .int (xs 3)), (1, .int (xs 2)), (2, .int (31 : Int32))]) h_m159 (z_at.mk 3 rfl rfl) rfl (zc (a := (xs 3).toInt) (b := (xs 2).toInt) rfl rfl (decide_eq_false (by omega))) rfl rfl ?_
              refine w_p h_m159 2 (pc' := 7) (L' := [(0, .int (xs 3)), (1, .int (xs 2)), (2, .int (31 : Int32))]) (st' := [.int (31 : Int32), .int (xs 3)]) rfl ?_
              by_cases c_7 : (xs 3).toInt ≤ 31
              · refine w_f2 (pc' := 10) (L' := [(0, .int (xs 3)), (1, .int (xs 2)), (2, .int (31 : Int32))]) h_m159 (z_at.mk 3 rfl rfl) rfl (zc (a := (xs 3).toInt) (b := 31) rfl rfl (decide_eq_false (by omega))) rfl rfl ?_
                refine w_p h_m159 2 (pc' := 15) (L' := []) (st' := [.int (1 : Int32)]) rfl ?_
                refine w_ri h_m159 (z_at.mk 1 rfl rfl) rfl rfl ?_
                show z_W 998 164 17 [(0, .int (xs 2)), (1, .int (xs 3)), (2, .int (xs 4)), (3, .int (xs 5))] [.int (1 : Int32)] m _
                refine w_p h_m164 4 (pc' := 24) (L' := [(0, .int (xs 2)), (1, .int (xs 3)), (2, .int (xs 4)), (3, .int (xs 5))]) (st' := [.int (31 : Int32), .int (0 : Int32), .int (xs 4)]) rfl ?_
                refine w_cs (As := [.int (xs 4), .int (0 : Int32), .int (31 : Int32)]) (rest := []) (j := 159) (L0 := [(0, .int (xs 4)), (1, .int (0 : Int32)), (2, .int (31 : Int32))]) (pc' := 27) (L' := [(0, .int (xs 2)), (1, .int (xs 3)), (2, .int (xs 4)), (3, .int (xs 5))]) h_m164 (z_at.mk 3 rfl rfl) (Or.inl ⟨rfl, rfl⟩) rfl rfl rfl rfl rfl ?_
                refine w_p h_m159 2 (pc' := 2) (L' := [(0, .int (xs 4)), (1, .int (0 : Int32)), (2, .int (31 : Int32))]) (st' := [.int (0 : Int32), .int (xs 4)]) rfl ?_
                refine w_t2 (pc' := 14) (L' := []) h_m159 (z_at.mk 3 rfl rfl) rfl (zc (a := (xs 4).toInt) (b := 0) rfl rfl (decide_eq_true (by omega))) rfl rfl ?_
                refine w_p h_m159 1 (pc' := 15) (L' := []) (st' := [.int (0 : Int32)]) rfl ?_
                refine w_ri h_m159 (z_at.mk 1 rfl rfl) rfl rfl ?_
                show z_W 998 164 27 [(0, .int (xs 2)), (1, .int (xs 3)), (2, .int (xs 4)), (3, .int (xs 5))] [.int (0 : Int32)] m _
                refine w_p h_m164 2 (pc' := 45) (L' := []) (st' := [.int (0 : Int32)]) rfl ?_
                refine w_ri h_m164 (z_at.mk 1 rfl rfl) rfl rfl ?_
                show z_W 999 258 21 [(0, .ref 143), (1, .int (xs 1)), (2, .int (xs 2)), (3, .int (xs 3)), (4, .int (xs 4)), (5, .int (xs 5))] [.int (0 : Int32)] m _
                refine w_p h_m258 2 (pc' := 26) (L' := [(0, .ref 143), (1, .int (xs 1)), (2, .int (xs 2)), (3, .int (xs 3)), (4, .int (xs 4)), (5, .int (xs 5))]) (st' := [.int (-2 : Int32)]) rfl ?_
                refine w_ri h_m258 (z_at.mk 1 rfl rfl) rfl rfl ?_
                show z_W 1000 1000 1027 [(0, .ref 0), (1, .ref 39), (2, .ref 143), (3, .int (0 : Int32))] [.int (-2 : Int32), .int (-2 : Int32)] m _
                refine w_p h_m1000 5 (pc' := 20) (L' := [(0, .ref 0), (1, .ref 39), (2, .ref 143), (3, .int (6 : Int32))]) (st' := [.ref 0, .int (6 : Int32)]) rfl ?_
                refine w_lene H (x := (6 : Int32)) (pc' := 21) (L' := [(0, .ref 0), (1, .ref 39), (2, .ref 143), (3, .int (6 : Int32))]) h_m1000 (z_at.mk 1 rfl rfl) (by decide) rfl (by decide) rfl rfl rfl ?_
                refine w_p h_m1000 4 (pc' := 1381) (L' := [(0, .ref 0), (1, .ref 39), (2, .ref 143), (3, .int (6 : Int32))]) (st' := [.int (1 : Int32)]) rfl ?_
                refine w_ri h_m1000 (z_at.mk 1 rfl rfl) rfl rfl ?_
                exact hQ _ _ _ _ H (by decide) (by decide)
              · refine w_t2 (pc' := 14) (L' := []) h_m159 (z_at.mk 3 rfl rfl) rfl (zc (a := (xs 3).toInt) (b := 31) rfl rfl (decide_eq_true (by omega))) rfl rfl ?_
                refine w_p h_m159 1 (pc' := 15) (L' := []) (st' := [.int (0 : Int32)]) rfl ?_
                refine w_ri h_m159 (z_at.mk 1 rfl rfl) rfl rfl ?_
                show z_W 998 164 17 [(0, .int (xs 2)), (1, .int (xs 3)), (2, .int (xs 4)), (3, .int (xs 5))] [.int (0 : Int32)] m _
                refine w_p h_m164 2 (pc' := 45) (L' := []) (st' := [.int (0 : Int32)]) rfl ?_
                refine w_ri h_m164 (z_at.mk 1 rfl rfl) rfl rfl ?_
                show z_W 999 258 21 [(0, .ref 143), (1, .int (xs 1)), (2, .int (xs 2)), (3, .int (xs 3)), (4, .int (xs 4)), (5, .int (xs 5))] [.int (0 : Int32)] m _
                refine w_p h_m258 2 (pc' := 26) (L' := [(0, .ref 143), (1, .int (xs 1)), (2, .int (xs 2)), (3, .int (xs 3)), (4, .int (xs 4)), (5, .int (xs 5))]) (st' := [.int (-2 : Int32)]) rfl ?_
                refine w_ri h_m258 (z_at.mk 1 rfl rfl) rfl rfl ?_
                show z_W 1000 1000 1027 [(0, .ref 0), (1, .ref 39), (2, .ref 143), (3, .int (0 : Int32))] [.int (-2 : Int32), .int (-2 : Int32)] m _
                refine w_p h_m1000 5 (pc' := 20) (L' := [(0, .ref 0), (1, .ref 39), (2, .ref 143), (3, .int (6 : Int32))]) (st' := [.ref 0, .int (6 : Int32)]) rfl ?_
                refine w_lene H (x := (6 : Int32)) (pc' := 21) (L' := [(0, .ref 0), (1, .ref 39), (2, .ref 143), (3, .int (6 : Int32))]) h_m1000 (z_at.mk 1 rfl rfl) (by decide) rfl (by decide) rfl rfl rfl ?_
                refine w_p h_m1000 4 (pc' := 1381) (L' := [(0, .ref 0), (1, .ref 39), (2, .ref 143), (3, .int (6 : Int32))]) (st' := [.int (1 : Int32)]) rfl ?_
                refine w_ri h_m1000 (z_at.mk 1 rfl rfl) rfl rfl ?_
                exact hQ _ _ _ _ H (by decide) (by decide)
          · refine w_f1 (pc' := 14) (L' := [(0, .int (xs 2)), (1, .int (xs 4))]) h_m0 (z_at.mk 3 rfl rfl) rfl (zc (a := (xs 4).toInt) (b := 0) rfl rfl (decide_eq_false (by omega))) rfl rfl ?_
            refine w_p h_m0 2 (pc' := 17) (L' := [(0, .int (xs 2)), (1, .int (xs 4))]) (st' := [.int (32 : Int32), .int (xs 4)]) rfl ?_
            by_cases c_6 : (xs 4).toInt < 32
            · refine w_f2 (pc' := 20) (L' := [(0, .int (xs 2)), (1, .int (xs 4))]) h_m0 (z_at.mk 3 rfl rfl) rfl (zc (a := (xs 4).toInt) (b := 32) rfl rfl (decide_eq_false (by omega))) rfl rfl ?_
              refine w_p h_m0 2 (pc' := 25) (L' := []) (st' := [.int (1 : Int32)]) rfl ?_
              refine w_ri h_m0 (z_at.mk 1 rfl rfl) rfl rfl ?_
              show z_W 998 1 5 [(0, .int (xs 2)), (1, .int (xs 3)), (2, .int (xs 4)), (3, .int (xs 5))] [.int (1 : Int32)] m _
              refine w_p h_m1 3 (pc' := 10) (L' := [(0, .int (xs 2)), (1, .int (xs 3)), (2, .int (xs 4)), (3, .int (xs 5))]) (st' := [.int (xs 5), .int (xs 3)]) rfl ?_
              refine w_cs (As := [.int (xs 3), .int (xs 5)]) (rest := []) (j := 0) (L0 := [(0, .int (xs 3)), (1, .int (xs 5))]) (pc' := 13) (L' := [(0, .int (xs 2)), (1, .int (xs 3)), (2, .int (xs 4)), (3, .int (xs 5))]) h_m1 (z_at.mk 3 rfl rfl) (Or.inl ⟨rfl, rfl⟩) rfl rfl rfl rfl rfl ?_
              refine w_p h_m0 1 (pc' := 1) (L' := [(0, .int (xs 3)), (1, .int (xs 5))]) (st' := [.int (xs 3)]) rfl ?_
              by_cases c_7 : (xs 3).toInt < 0
              · refine w_t1 (pc' := 24) (L' := []) h_m0 (z_at.mk 3 rfl rfl) rfl (zc (a := (xs 3).toInt) (b := 0) rfl rfl (decide_eq_true (by omega))) rfl rfl ?_
                refine w_p h_m0 1 (pc' := 25) (L' := []) (st' := [.int (0 : Int32)]) rfl ?_
                refine w_ri h_m0 (z_at.mk 1 rfl rfl) rfl rfl ?_
                show z_W 998 1 13 [(0, .int (xs 2)), (1, .int (xs 3)), (2, .int (xs 4)), (3, .int (xs 5))] [.int (0 : Int32)] m _
                refine w_p h_m1 2 (pc' := 31) (L' := []) (st' := [.int (0 : Int32)]) rfl ?_
                refine w_ri h_m1 (z_at.mk 1 rfl rfl) rfl rfl ?_
                show z_W 999 147 18 [(0, .ref 39), (1, .int (xs 1)), (2, .int (xs 2)), (3, .int (xs 3)), (4, .int (xs 4)), (5, .int (xs 5))] [.int (0 : Int32)] m _
                refine w_p h_m147 2 (pc' := 23) (L' := [(0, .ref 39), (1, .int (xs 1)), (2, .int (xs 2)), (3, .int (xs 3)), (4, .int (xs 4)), (5, .int (xs 5))]) (st' := [.int (-2 : Int32)]) rfl ?_
                refine w_ri h_m147 (z_at.mk 1 rfl rfl) rfl rfl ?_
                show z_W 1000 1000 998 [(0, .ref 0), (1, .ref 39), (2, .ref 143), (3, .int (0 : Int32))] [.int (-2 : Int32)] m _
                refine w_p h_m1000 5 (pc' := 1003) (L' := [(0, .ref 0), (1, .ref 39), (2, .ref 143), (3, .int (0 : Int32))]) (st' := [.int (1 : Int32), .ref 0, .ref 143, .int (-2 : Int32)]) rfl ?_
                refine w_ae H (j := 1) (pc' := 1004) (L' := [(0, .ref 0), (1, .ref 39), (2, .ref 143), (3, .int (0 : Int32))]) h_m1000 (z_at.mk 1 rfl rfl) rfl rfl rfl (by decide) rfl (by decide) rfl rfl rfl ?_
                refine w_p h_m1000 4 (pc' := 1008) (L' := [(0, .ref 0), (1, .ref 39), (2, .ref 143), (3, .int (0 : Int32))]) (st' := [.int (2 : Int32), .ref 0, .int (xs 1), .ref 143, .int (-2 : Int32)]) rfl ?_
                refine w_ae H (j := 2) (pc' := 1009) (L' := [(0, .ref 0), (1, .ref 39), (2, .ref 143), (3, .int (0 : Int32))]) h_m1000 (z_at.mk 1 rfl rfl) rfl rfl rfl (by decide) rfl (by decide) rfl rfl rfl ?_
                refine w_p h_m1000 4 (pc' := 1013) (L' := [(0, .ref 0), (1, .ref 39), (2, .ref 143), (3, .int (0 : Int32))]) (st' := [.int (3 : Int32), .ref 0, .int (xs 2), .int (xs 1), .ref 143, .int (-2 : Int32)]) rfl ?_
                refine w_ae H (j := 3) (pc' := 1014) (L' := [(0, .ref 0), (1, .ref 39), (2, .ref 143), (3, .int (0 : Int32))]) h_m1000 (z_at.mk 1 rfl rfl) rfl rfl rfl (by decide) rfl (by decide) rfl rfl rfl ?_
                refine w_p h_m1000 4 (pc' := 1018) (L' := [(0, .ref 0), (1, .ref 39), (2, .ref 143), (3, .int (0 : Int32))]) (st' := [.int (4 : Int32), .ref 0, .int (xs 3), .int (xs 2), .int (xs 1), .ref 143, .int (-2 : Int32)]) rfl ?_
                refine w_ae H (j := 4) (pc' := 1019) (L' := [(0, .ref 0), (1, .ref 39), (2, .ref 143), (3, .int (0 : Int32))]) h_m1000 (z_at.mk 1 rfl rfl) rfl rfl rfl (by decide) rfl (by decide) rfl rfl rfl ?_
                refine w_p h_m1000 4 (pc' := 1023) (L' := [(0, .ref 0), (1, .ref 39), (2, .ref 143), (3, .int (0 : Int32))]) (st' := [.int (5 : Int32), .ref 0, .int (xs 4), .int (xs 3), .int (xs 2), .int (xs 1), .ref 143, .int (-2 : Int32)]) rfl ?_
                refine w_ae H (j := 5) (pc' := 1024) (L' := [(0, .ref 0), (1, .ref 39), (2, .ref 143), (3, .int (0 : Int32))]) h_m1000 (z_at.mk 1 rfl rfl) rfl rfl rfl (by decide) rfl (by decide) rfl rfl rfl ?_
                refine w_cv (H.t rfl) (pc' := 1027) (L' := [(0, .ref 0), (1, .ref 39), (2, .ref 143), (3, .int (0 : Int32))]) (rest := [.int (-2 : Int32)]) (Ps := [.int (xs 1), .int (xs 2), .int (xs 3), .int (xs 4), .int (xs 5)]) (L0 := [(0, .ref 143), (1, .int (xs 1)), (2, .int (xs 2)), (3, .int (xs 3)), (4, .int (xs 4)), (5, .int (xs 5))]) h_m1000 (z_at.mk 3 rfl rfl) (Or.inl ⟨rfl, rfl⟩) rfl rfl (by decide) (by decide) rfl rfl rfl rfl rfl rfl (by decide) rfl rfl rfl ?_
                refine w_p h_m258 3 (pc' := 4) (L' := [(0, .ref 143), (1, .int (xs 1)), (2, .int (xs 2)), (3, .int (xs 3)), (4, .int (xs 4)), (5, .int (xs 5))]) (st' := [.int (6 : Int32), .int (0 : Int32), .int (xs 1)]) rfl ?_
                refine w_cs (As := [.int (xs 1), .int (0 : Int32), .int (6 : Int32)]) (rest := []) (j := 159) (L0 := [(0, .int (xs 1)), (1, .int (0 : Int32)), (2, .int (6 : Int32))]) (pc' := 7) (L' := [(0, .ref 143), (1, .int (xs 1)), (2, .int (xs 2)), (3, .int (xs 3)), (4, .int (xs 4)), (5, .int (xs 5))]) h_m258 (z_at.mk 3 rfl rfl) (Or.inl ⟨rfl, rfl⟩) rfl rfl rfl rfl rfl ?_
                refine w_p h_m159 2 (pc' := 2) (L' := [(0, .int (xs 1)), (1, .int (0 : Int32)), (2, .int (6 : Int32))]) (st' := [.int (0 : Int32), .int (xs 1)]) rfl ?_
                refine w_f2 (pc' := 5) (L' := [(0, .int (xs 1)), (1, .int (0 : Int32)), (2, .int (6 : Int32))]) h_m159 (z_at.mk 3 rfl rfl) rfl (zc (a := (xs 1).toInt) (b := 0) rfl rfl (decide_eq_false (by omega))) rfl rfl ?_
                refine w_p h_m159 2 (pc' := 7) (L' := [(0, .int (xs 1)), (1, .int (0 : Int32)), (2, .int (6 : Int32))]) (st' := [.int (6 : Int32), .int (xs 1)]) rfl ?_
                refine w_f2 (pc' := 10) (L' := [(0, .int (xs 1)), (1, .int (0 : Int32)), (2, .int (6 : Int32))]) h_m159 (z_at.mk 3 rfl rfl) rfl (zc (a := (xs 1).toInt) (b := 6) rfl rfl (decide_eq_false (by omega))) rfl rfl ?_
                refine w_p h_m159 2 (pc' := 15) (L' := []) (st' := [.int (1 : Int32)]) rfl ?_
                refine w_ri h_m159 (z_at.mk 1 rfl rfl) rfl rfl ?_
                show z_W 999 258 7 [(0, .ref 143), (1, .int (xs 1)), (2, .int (xs 2)), (3, .int (xs 3)), (4, .int (xs 4)), (5, .int (xs 5))] [.int (1 : Int32)] m _
                refine w_p h_m258 5 (pc' := 18) (L' := [(0, .ref 143), (1, .int (xs 1)), (2, .int (xs 2)), (3, .int (xs 3)), (4, .int (xs 4)), (5, .int (xs 5))]) (st' := [.int (xs 5), .int (xs 4), .int (xs 3), .int (xs 2)]) rfl ?_
                refine w_cs (As := [.int (xs 2), .int (xs 3), .int (xs 4), .int (xs 5)]) (rest := []) (j := 164) (L0 := [(0, .int (xs 2)), (1, .int (xs 3)), (2, .int (xs 4)), (3, .int (xs 5))]) (pc' := 21) (L' := [(0, .ref 143), (1, .int (xs 1)), (2, .int (xs 2)), (3, .int (xs 3)), (4, .int (xs 4)), (5, .int (xs 5))]) h_m258 (z_at.mk 3 rfl rfl) (Or.inl ⟨rfl, rfl⟩) rfl rfl rfl rfl rfl ?_
                refine w_p h_m164 3 (pc' := 4) (L' := [(0, .int (xs 2)), (1, .int (xs 3)), (2, .int (xs 4)), (3, .int (xs 5))]) (st' := [.int (31 : Int32), .int (0 : Int32), .int (xs 2)]) rfl ?_
                refine w_cs (As := [.int (xs 2), .int (0 : Int32), .int (31 : Int32)]) (rest := []) (j := 159) (L0 := [(0, .int (xs 2)), (1, .int (0 : Int32)), (2, .int (31 : Int32))]) (pc' := 7) (L' := [(0, .int (xs 2)), (1, .int (xs 3)), (2, .int (xs 4)), (3, .int (xs 5))]) h_m164 (z_at.mk 3 rfl rfl) (Or.inl ⟨rfl, rfl⟩) rfl rfl rfl rfl rfl ?_
                refine w_p h_m159 2 (pc' := 2) (L' := [(0, .int (xs 2)), (1, .int (0 : Int32)), (2, .int (31 : Int32))]) (st' := [.int (0 : Int32), .int (xs 2)]) rfl ?_
                refine w_f2 (pc' := 5) (L' := [(0, .int (xs 2)), (1, .int (0 : Int32)), (2, .int (31 : Int32))]) h_m159 (z_at.mk 3 rfl rfl) rfl (zc (a := (xs 2).toInt) (b := 0) rfl rfl (decide_eq_false (by omega))) rfl rfl ?_
                refine w_p h_m159 2 (pc' := 7) (L' := [(0, .int (xs 2)), (1, .int (0 : Int32)), (2, .int (31 : Int32))]) (st' := [.int (31 : Int32), .int (xs 2)]) rfl ?_
                refine w_f2 (pc' := 10) (L' := [(0, .int (xs 2)), (1, .int (0 : Int32)), (2, .int (31 : Int32))]) h_m159 (z_at.mk 3 rfl rfl) rfl (zc (a := (xs 2).toInt) (b := 31) rfl rfl (decide_eq_false (by omega))) rfl rfl ?_
                refine w_p h_m159 2 (pc' := 15) (L' := []) (st' := [.int (1 : Int32)]) rfl ?_
                refine w_ri h_m159 (z_at.mk 1 rfl rfl) rfl rfl ?_
                show z_W 998 164 7 [(0, .int (xs 2)), (1, .int (xs 3)), (2, .int (xs 4)), (3, .int (xs 5))] [.int (1 : Int32)] m _
                refine w_p h_m164 4 (pc' := 14) (L' := [(0, .int (xs 2)), (1, .int (xs 3)), (2, .int (xs 4)), (3, .int (xs 5))]) (st' := [.int (31 : Int32), .int (xs 2), .int (xs 3)]) rfl ?_
                refine w_cs (As := [.int (xs 3), .int (xs 2), .int (31 : Int32)]) (rest := []) (j := 159) (L0 := [(0, .int (xs 3)), (1, .int (xs 2)), (2, .int (31 : Int32))]) (pc' := 17) (L' := [(0, .int (xs 2)), (1, .int (xs 3)), (2, .int (xs 4)), (3, .int (xs 5))]) h_m164 (z_at.mk 3 rfl rfl) (Or.inl ⟨rfl, rfl⟩) rfl rfl rfl rfl rfl ?_
                refine w_p h_m159 2 (pc' := 2) (L' := [(0, .int (xs 3)), (1, .int (xs 2)), (2, .int (31 : Int32))]) (st' := [.int (xs 2), .int (xs 3)]) rfl ?_
                refine w_t2 (pc' := 14) (L' := []) h_m159 (z_at.mk 3 rfl rfl) rfl (zc (a := (xs 3).toInt) (b := (xs 2).toInt) rfl rfl (decide_eq_true (by omega))) rfl rfl ?_
                refine w_p h_m159 1 (pc' := 15) (L' := []) (st' := [.int (0 : Int32)]) rfl ?_
                refine w_ri h_m159 (z_at.mk 1 rfl rfl) rfl rfl ?_
                show z_W 998 164 17 [(0, .int (xs 2)), (1, .int (xs 3)), (2, .int (xs 4)), (3, .int (xs 5))] [.int (0 : Int32)] m _
                refine w_p h_m164 2 (pc' := 45) (L' := []) (st' := [.int (0 : Int32)]) rfl ?_
                refine w_ri h_m164 (z_at.mk 1 rfl rfl) rfl rfl ?_
                show z_W 999 258 21 [(0, .ref 143), (1, .int (xs 1)), (2, .int (xs 2)), (3, .int (xs 3)), (4, .int (xs 4)), (5, .int (xs 5))] [.int (0 : Int32)] m _
                refine w_p h_m258 2 (pc' := 26) (L' := [(0, .ref 143), (1, .int (xs 1)), (2, .int (xs 2)), (3, .int (xs 3)), (4, .int (xs 4)), (5, .int (xs 5))]) (st' := [.int (-2 : Int32)]) rfl ?_
                refine w_ri h_m258 (z_at.mk 1 rfl rfl) rfl rfl ?_
                show z_W 1000 1000 1027 [(0, .ref 0), (1, .ref 39), (2, .ref 143), (3, .int (0 : Int32))] [.int (-2 : Int32), .int (-2 : Int32)] m _
                refine w_p h_m1000 5 (pc' := 20) (L' := [(0, .ref 0), (1, .ref 39), (2, .ref 143), (3, .int (6 : Int32))]) (st' := [.ref 0, .int (6 : Int32)]) rfl ?_
                refine w_lene H (x := (6 : Int32)) (pc' := 21) (L' := [(0, .ref 0), (1, .ref 39), (2, .ref 143), (3, .int (6 : Int32))]) h_m1000 (z_at.mk 1 rfl rfl) (by decide) rfl (by decide) rfl rfl rfl ?_
                refine w_p h_m1000 4 (pc' := 1381) (L' := [(0, .ref 0), (1, .ref 39), (2, .ref 143), (3, .int (6 : Int32))]) (st' := [.int (1 : Int32)]) rfl ?_
                refine w_ri h_m1000 (z_at.mk 1 rfl rfl) rfl rfl ?_
                exact hQ _ _ _ _ H (by decide) (by decide)
              · refine w_f1 (pc' := 4) (L' := [(0, .int (xs 3)), (1, .int (xs 5))]) h_m0 (z_at.mk 3 rfl rfl) rfl (zc (a := (xs 3).toInt) (b := 0) rfl rfl (decide_eq_false (by omega))) rfl rfl ?_
                refine w_p h_m0 2 (pc' := 7) (L' := [(0, .int (xs 3)), (1, .int (xs 5))]) (st' := [.int (32 : Int32), .int (xs 3)]) rfl ?_
                by_cases c_8 : (xs 3).toInt < 32
                · refine w_f2 (pc' := 10) (L' := [(0, .int (xs 3)), (1, .int (xs 5))]) h_m0 (z_at.mk 3 rfl rfl) rfl (zc (a := (xs 3).toInt) (b := 32) rfl rfl (decide_eq_false (by omega))) rfl rfl ?_
                  refine w_p h_m0 1 (pc' := 11) (L' := [(0, .int (xs 3)), (1, .int (xs 5))]) (st' := [.int (xs 5)]) rfl ?_
                  by_cases c_9 : (xs 5).toInt < 0
                  · refine w_t1 (pc' := 24) (L' := []) h_m0 (z_at.mk 3 rfl rfl) rfl (zc (a := (xs 5).toInt) (b := 0) rfl rfl (decide_eq_true (by omega))) rfl rfl ?_
                    refine w_p h_m0 1 (pc' := 25) (L' := []) (st' := [.int (0 : Int32)]) rfl ?_
                    refine w_ri h_m0 (z_at.mk 1 rfl rfl) rfl rfl ?_
                    show z_W 998 1 13 [(0, .int (xs 2)), (1, .int (xs 3)), (2, .int (xs 4)), (3, .int (xs 5))] [.int (0 : Int32)] m _
                    refine w_p h_m1 2 (pc' := 31) (L' := []) (st' := [.int (0 : Int32)]) rfl ?_
                    refine w_ri h_m1 (z_at.mk 1 rfl rfl) rfl rfl ?_
                    show z_W 999 147 18 [(0, .ref 39), (1, .int (xs 1)), (2, .int (xs 2)), (3, .int (xs 3)), (4, .int (xs 4)), (5, .int (xs 5))] [.int (0 : Int32)] m _
                    refine w_p h_m147 2 (pc' := 23) (L' := [(0, .ref 39), (1, .int (xs 1)), (2, .int (xs 2)), (3, .int (xs 3)), (4, .int (xs 4)), (5, .int (xs 5))]) (st' := [.int (-2 : Int32)]) rfl ?_
                    refine w_ri h_m147 (z_at.mk 1 rfl rfl) rfl rfl ?_
                    show z_W 1000 1000 998 [(0, .ref 0), (1, .ref 39), (2, .ref 143), (3, .int (0 : Int32))] [.int (-2 : Int32)] m _
                    refine w_p h_m1000 5 (pc' := 1003) (L' := [(0, .ref 0), (1, .ref 39), (2, .ref 143), (3, .int (0 : Int32))]) (st' := [.int (1 : Int32), .ref 0, .ref 143, .int (-2 : Int32)]) rfl ?_
                    refine w_ae H (j := 1) (pc' := 1004) (L' := [(0, .ref 0), (1, .ref 39), (2, .ref 143), (3, .int (0 : Int32))]) h_m1000 (z_at.mk 1 rfl rfl) rfl rfl rfl (by decide) rfl (by decide) rfl rfl rfl ?_
                    refine w_p h_m1000 4 (pc' := 1008) (L' := [(0, .ref 0), (1, .ref 39), (2, .ref 143), (3, .int (0 : Int32))]) (st' := [.int (2 : Int32), .ref 0, .int (xs 1), .ref 143, .int (-2 : Int32)]) rfl ?_
                    refine w_ae H (j := 2) (pc' := 1009) (L' := [(0, .ref 0), (1, .ref 39), (2, .ref 143), (3, .int (0 : Int32))]) h_m1000 (z_at.mk 1 rfl rfl) rfl rfl rfl (by decide) rfl (by decide) rfl rfl rfl ?_
                    refine w_p h_m1000 4 (pc' := 1013) (L' := [(0, .ref 0), (1, .ref 39), (2, .ref 143), (3, .int (0 : Int32))]) (st' := [.int (3 : Int32), .ref 0, .int (xs 2), .int (xs 1), .ref 143, .int (-2 : Int32)]) rfl ?_
                    refine w_ae H (j := 3) (pc' := 1014) (L' := [(0, .ref 0), (1, .ref 39), (2, .ref 143), (3, .int (0 : Int32))]) h_m1000 (z_at.mk 1 rfl rfl) rfl rfl rfl (by decide) rfl (by decide) rfl rfl rfl ?_
                    refine w_p h_m1000 4 (pc' := 1018) (L' := [(0, .ref 0), (1, .ref 39), (2, .ref 143), (3, .int (0 : Int32))]) (st' := [.int (4 : Int32), .ref 0, .int (xs 3), .int (xs 2), .int (xs 1), .ref 143, .int (-2 : Int32)]) rfl ?_
                    refine w_ae H (j := 4) (pc' := 1019) (L' := [(0, .ref 0), (1, .ref 39), (2, .ref 143), (3, .int (0 : Int32))]) h_m1000 (z_at.mk 1 rfl rfl) rfl rfl rfl (by decide) rfl (by decide) rfl rfl rfl ?_
                    refine w_p h_m1000 4 (pc' := 1023) (L' := [(0, .ref 0), (1, .ref 39), (2, .ref 143), (3, .int (0 : Int32))]) (st' := [.int (5 : Int32), .ref 0, .int (xs 4), .int (xs 3), .int (xs 2), .int (xs 1), .ref 143, .int (-2 : Int32)]) rfl ?_
                    refine w_ae H (j := 5) (pc' := 1024) (L' := [(0, .ref 0), (1, .ref 39), (2, .ref 143), (3, .int (0 : Int32))]) h_m1000 (z_at.mk 1 rfl rfl) rfl rfl rfl (by decide) rfl (by decide) rfl rfl rfl ?_
                    refine w_cv (H.t rfl) (pc' := 1027) (L' := [(0, .ref 0), (1, .ref 39), (2, .ref 143), (3, .int (0 : Int32))]) (rest := [.int (-2 : Int32)]) (Ps := [.int (xs 1), .int (xs 2), .int (xs 3), .int (xs 4), .int (xs 5)]) (L0 := [(0, .ref 143), (1, .int (xs 1)), (2, .int (xs 2)), (3, .int (xs 3)), (4, .int (xs 4)), (5, .int (xs 5))]) h_m1000 (z_at.mk 3 rfl rfl) (Or.inl ⟨rfl, rfl⟩) rfl rfl (by decide) (by decide) rfl rfl rfl rfl rfl rfl (by decide) rfl rfl rfl ?_
                    refine w_p h_m258 3 (pc' := 4) (L' := [(0, .ref 143), (1, .int (xs 1)), (2, .int (xs 2)), (3, .int (xs 3)), (4, .int (xs 4)), (5, .int (xs 5))]) (st' := [.int (6 : Int32), .int (0 : Int32), .int (xs 1)]) rfl ?_
                    refine w_cs (As := [.int (xs 1), .int (0 : Int32), .int (6 : Int32)]) (rest := []) (j := 159) (L0 := [(0, .int (xs 1)), (1, .int (0 : Int32)), (2, .int (6 : Int32))]) (pc' := 7) (L' := [(0, .ref 143), (1, .int (xs 1)), (2, .int (xs 2)), (3, .int (xs 3)), (4, .int (xs 4)), (5, .int (xs 5))]) h_m258 (z_at.mk 3 rfl rfl) (Or.inl ⟨rfl, rfl⟩) rfl rfl rfl rfl rfl ?_
                    refine w_p h_m159 2 (pc' := 2) (L' := [(0, .int (xs 1)), (1, .int (0 : Int32)), (2, .int (6 : Int32))]) (st' := [.int (0 : Int32), .int (xs 1)]) rfl ?_
                    refine w_f2 (pc' := 5) (L' := [(0, .int (xs 1)), (1, .int (0 : Int32)), (2, .int (6 : Int32))]) h_m159 (z_at.mk 3 rfl rfl) rfl (zc (a := (xs 1).toInt) (b := 0) rfl rfl (decide_eq_false (by omega))) rfl rfl ?_
                    refine w_p h_m159 2 (pc' := 7) (L' := [(0, .int (xs 1)), (1, .int (0 : Int32)), (2, .int (6 : Int32))]) (st' := [.int (6 : Int32), .int (xs 1)]) rfl ?_
                    refine w_f2 (pc' := 10) (L' := [(0, .int (xs 1)), (1, .int (0 : Int32)), (2, .int (6 : Int32))]) h_m159 (z_at.mk 3 rfl rfl) rfl (zc (a := (xs 1).toInt) (b := 6) rfl rfl (decide_eq_false (by omega))) rfl rfl ?_
                    refine w_p h_m159 2 (pc' := 15) (L' := []) (st' := [.int (1 : Int32)]) rfl ?_
                    refine w_ri h_m159 (z_at.mk 1 rfl rfl) rfl rfl ?_
                    show z_W 999 258 7 [(0, .ref 143), (1, .int (xs 1)), (2, .int (xs 2)), (3, .int (xs 3)), (4, .int (xs 4)), (5, .int (xs 5))] [.int (1 : Int32)] m _
                    refine w_p h_m258 5 (pc' := 18) (L' := [(0, .ref 143), (1, .int (xs 1)), (2, .int (xs 2)), (3, .int (xs 3)), (4, .int (xs 4)), (5, .int (xs 5))]) (st' := [.int (xs 5), .int (xs 4), .int (xs 3), .int (xs 2)]) rfl ?_
                    refine w_cs (As := [.int (xs 2), .int (xs 3), .int (xs 4), .int (xs 5)]) (rest := []) (j := 164) (L0 := [(0, .int (xs 2)), (1, .int (xs 3)), (2, .int (xs 4)), (3, .int (xs 5))]) (pc' := 21) (L' := [(0, .ref 143), (1, .int (xs 1)), (2, .int (xs 2)), (3, .int (xs 3)), (4, .int (xs 4)), (5, .int (xs 5))]) h_m258 (z_at.mk 3 rfl rfl) (Or.inl ⟨rfl, rfl⟩) rfl rfl rfl rfl rfl ?_
                    refine w_p h_m164 3 (pc' := 4) (L' := [(0, .int (xs 2)), (1, .int (xs 3)), (2, .int (xs 4)), (3, .int (xs 5))]) (st' := [.int (31 : Int32), .int (0 : Int32), .int (xs 2)]) rfl ?_
                    refine w_cs (As := [.int (xs 2), .int (0 : Int32), .int (31 : Int32)]) (rest := []) (j := 159) (L0 := [(0, .int (xs 2)), (1, .int (0 : Int32)), (2, .int (31 : Int32))]) (pc' := 7) (L' := [(0, .int (xs 2)), (1, .int (xs 3)), (2, .int (xs 4)), (3, .int (xs 5))]) h_m164 (z_at.mk 3 rfl rfl) (Or.inl ⟨rfl, rfl⟩) rfl rfl rfl rfl rfl ?_
                    refine w_p h_m159 2 (pc' := 2) (L' := [(0, .int (xs 2)), (1, .int (0 : Int32)), (2, .int (31 : Int32))]) (st' := [.int (0 : Int32), .int (xs 2)]) rfl ?_
                    refine w_f2 (pc' := 5) (L' := [(0, .int (xs 2)), (1, .int (0 : Int32)), (2, .int (31 : Int32))]) h_m159 (z_at.mk 3 rfl rfl) rfl (zc (a := (xs 2).toInt) (b := 0) rfl rfl (decide_eq_false (by omega))) rfl rfl ?_
                    refine w_p h_m159 2 (pc' := 7) (L' := [(0, .int (xs 2)), (1, .int (0 : Int32)), (2, .int (31 : Int32))]) (st' := [.int (31 : Int32), .int (xs 2)]) rfl ?_
                    refine w_f2 (pc' := 10) (L' := [(0, .int (xs 2)), (1, .int (0 : Int32)), (2, .int (31 : Int32))]) h_m159 (z_at.mk 3 rfl rfl) rfl (zc (a := (xs 2).toInt) (b := 31) rfl rfl (decide_eq_false (by omega))) rfl rfl ?_
                    refine w_p h_m159 2 (pc' := 15) (L' := []) (st' := [.int (1 : Int32)]) rfl ?_
                    refine w_ri h_m159 (z_at.mk 1 rfl rfl) rfl rfl ?_
                    show z_W 998 164 7 [(0, .int (xs 2)), (1, .int (xs 3)), (2, .int (xs 4)), (3, .int (xs 5))] [.int (1 : Int32)] m _
                    refine w_p h_m164 4 (pc' := 14) (L' := [(0, .int (xs 2)), (1, .int (xs 3)), (2, .int (xs 4)), (3, .int (xs 5))]) (st' := [.int (31 : Int32), .int (xs 2), .int (xs 3)]) rfl ?_
                    refine w_cs (As := [.int (xs 3), .int (xs 2), .int (31 : Int32)]) (rest := []) (j := 159) (L0 := [(0, .int (xs 3)), (1, .int (xs 2)), (2, .int (31 : Int32))]) (pc' := 17) (L' := [(0, .int (xs 2)), (1, .int (xs 3)), (2, .int (xs 4)), (3, .int (xs 5))]) h_m164 (z_at.mk 3 rfl rfl) (Or.inl ⟨rfl, rfl⟩) rfl rfl rfl rfl rfl ?_
                    refine w_p h_m159 2 (pc' := 2) (L' := [(0, .int (xs 3)), (1, .int (xs 2)), (2, .int (31 : Int32))]) (st' := [.int (xs 2), .int (xs 3)]) rfl ?_
                    by_cases c_10 : (xs 3).toInt < (xs 2).toInt
                    · refine w_t2 (pc' := 14) (L' := []) h_m159 (z_at.mk 3 rfl rfl) rfl (zc (a := (xs 3).toInt) (b := (xs 2).toInt) rfl rfl (decide_eq_true (by omega))) rfl rfl ?_
                      refine w_p h_m159 1 (pc' := 15) (L' := []) (st' := [.int (0 : Int32)]) rfl ?_
                      refine w_ri h_m159 (z_at.mk 1 rfl rfl) rfl rfl ?_
                      show z_W 998 164 17 [(0, .int (xs 2)), (1, .int (xs 3)), (2, .int (xs 4)), (3, .int (xs 5))] [.int (0 : Int32)] m _
                      refine w_p h_m164 2 (pc' := 45) (L' := []) (st' := [.int (0 : Int32)]) rfl ?_
                      refine w_ri h_m164 (z_at.mk 1 rfl rfl) rfl rfl ?_
                      show z_W 999 258 21 [(0, .ref 143), (1, .int (xs 1)), (2, .int (xs 2)), (3, .int (xs 3)), (4, .int (xs 4)), (5, .int (xs 5))] [.int (0 : Int32)] m _
                      refine w_p h_m258 2 (pc' := 26) (L' := [(0, .ref 143), (1, .int (xs 1)), (2, .int (xs 2)), (3, .int (xs 3)), (4, .int (xs 4)), (5, .int (xs 5))]) (st' := [.int (-2 : Int32)]) rfl ?_
                      refine w_ri h_m258 (z_at.mk 1 rfl rfl) rfl rfl ?_
                      show z_W 1000 1000 1027 [(0, .ref 0), (1, .ref 39), (2, .ref 143), (3, .int (0 : Int32))] [.int (-2 : Int32), .int (-2 : Int32)] m _
                      refine w_p h_m1000 5 (pc' := 20) (L' := [(0, .ref 0), (1, .ref 39), (2, .ref 143), (3, .int (6 : Int32))]) (st' := [.ref 0, .int (6 : Int32)]) rfl ?_
                      refine w_lene H (x := (6 : Int32)) (pc' := 21) (L' := [(0, .ref 0), (1, .ref 39), (2, .ref 143), (3, .int (6 : Int32))]) h_m1000 (z_at.mk 1 rfl rfl) (by decide) rfl (by decide) rfl rfl rfl ?_
                      refine w_p h_m1000 4 (pc' := 1381) (L' := [(0, .ref 0), (1, .ref 39), (2, .ref 143), (3, .int (6 : Int32))]) (st' := [.int (1 : Int32)]) rfl ?_
                      refine w_ri h_m1000 (z_at.mk 1 rfl rfl) rfl rfl ?_
                      exact hQ _ _ _ _ H (by decide) (by decide)
                    · refine w_f2 (pc' := 5) (L' := [(0, .int (xs 3)), (1, .int (xs 2)), (2, .int (31 : Int32))]) h_m159 (z_at.mk 3 rfl rfl) rfl (zc (a := (xs 3).toInt) (b := (xs 2).toInt) rfl rfl (decide_eq_false (by omega))) rfl rfl ?_
                      refine w_p h_m159 2 (pc' := 7) (L' := [(0, .int (xs 3)), (1, .int (xs 2)), (2, .int (31 : Int32))]) (st' := [.int (31 : Int32), .int (xs 3)]) rfl ?_
                      refine w_f2 (pc' := 10) (L' := [(0, .int (xs 3)), (1, .int (xs 2)), (2, .int (31 : Int32))]) h_m159 (z_at.mk 3 rfl rfl) rfl (zc (a := (xs 3).toInt) (b := 31) rfl rfl (decide_eq_false (by omega))) rfl rfl ?_
                      refine w_p h_m159 2 (pc' := 15) (L' := []) (st' := [.int (1 : Int32)]) rfl ?_
                      refine w_ri h_m159 (z_at.mk 1 rfl rfl) rfl rfl ?_
                      show z_W 998 164 17 [(0, .int (xs 2)), (1, .int (xs 3)), (2, .int (xs 4)), (3, .int (xs 5))] [.int (1 : Int32)] m _
                      refine w_p h_m164 4 (pc' := 24) (L' := [(0, .int (xs 2)), (1, .int (xs 3)), (2, .int (xs 4)), (3, .int (xs 5))]) (st' := [.int (31 : Int32), .int (0 : Int32), .int (xs 4)]) rfl ?_
                      refine w_cs (As := [.int (xs 4), .int (0 : Int32), .int (31 : Int32)]) (rest := []) (j := 159) (L0 := [(0, .int (xs 4)), (1, .int (0 : Int32)), (2, .int (31 : Int32))]) (pc' := 27) (L' := [(0, .int (xs 2)), (1, .int (xs 3)), (2, .int (xs 4)), (3, .int (xs 5))]) h_m164 (z_at.mk 3 rfl rfl) (Or.inl ⟨rfl, rfl⟩) rfl rfl rfl rfl rfl ?_
                      refine w_p h_m159 2 (pc' := 2) (L' := [(0, .int (xs 4)), (1, .int (0 : Int32)), (2, .int (31 : Int32))]) (st' := [.int (0 : Int32), .int (xs 4)]) rfl ?_
                      refine w_f2 (pc' := 5) (L' := [(0, .int (xs 4)), (1, .int (0 : Int32)), (2, .int (31 : Int32))]) h_m159 (z_at.mk 3 rfl rfl) rfl (zc (a := (xs 4).toInt) (b := 0) rfl rfl (decide_eq_false (by omega))) rfl rfl ?_
                      refine w_p h_m159 2 (pc' := 7) (L' := [(0, .int (xs 4)), (1, .int (0 : Int32)), (2, .int (31 : Int32))]) (st' := [.int (31 : Int32), .int (xs 4)]) rfl ?_
                      refine w_f2 (pc' := 10) (L' := [(0, .int (xs 4)), (1, .int (0 : Int32)), (2, .int (31 : Int32))]) h_m159 (z_at.mk 3 rfl rfl) rfl (zc (a := (xs 4).toInt) (b := 31) rfl rfl (decide_eq_false (by omega))) rfl rfl ?_
                      refine w_p h_m159 2 (pc' := 15) (L' := []) (st' := [.int (1 : Int32)]) rfl ?_
                      refine w_ri h_m159 (z_at.mk 1 rfl rfl) rfl rfl ?_
                      show z_W 998 164 27 [(0, .int (xs 2)), (1, .int (xs 3)), (2, .int (xs 4)), (3, .int (xs 5))] [.int (1 : Int32)] m _
                      refine w_p h_m164 4 (pc' := 34) (L' := [(0, .int (xs 2)), (1, .int (xs 3)), (2, .int (xs 4)), (3, .int (xs 5))]) (st' := [.int (31 : Int32), .int (xs 4), .int (xs 5)]) rfl ?_
                      refine w_cs (As := [.int (xs 5), .int (xs 4), .int (31 : Int32)]) (rest := []) (j := 159) (L0 := [(0, .int (xs 5)), (1, .int (xs 4)), (2, .int (31 : Int32))]) (pc' := 37) (L' := [(0, .int (xs 2)), (1, .int (xs 3)), (2, .int (xs 4)), (3, .int (xs 5))]) h_m164 (z_at.mk 3 rfl rfl) (Or.inl ⟨rfl, rfl⟩) rfl rfl rfl rfl rfl ?_
                      refine w_p h_m159 2 (pc' := 2) (L' := [(0, .int (xs 5)), (1, .int (xs 4)), (2, .int (31 : Int32))]) (st' := [.int (xs 4), .int (xs 5)]) rfl ?_
                      refine w_t2 (pc' := 14) (L' := []) h_m159 (z_at.mk 3 rfl rfl) rfl (zc (a := (xs 5).toInt) (b := (xs 4).toInt) rfl rfl (decide_eq_true (by omega))) rfl rfl ?_
                      refine w_p h_m159 1 (pc' := 15) (L' := []) (st' := [.int (0 : Int32)]) rfl ?_
                      refine w_ri h_m159 (z_at.mk 1 rfl rfl) rfl rfl ?_
                      show z_W 998 164 37 [(0, .int (xs 2)), (1, .int (xs 3)), (2, .int (xs 4)), (3, .int (xs 5))] [.int (0 : Int32)] m _
                      refine w_p h_m164 2 (pc' := 45) (L' := []) (st' := [.int (0 : Int32)]) rfl ?_
                      refine w_ri h_m164 (z_at.mk 1 rfl rfl) rfl rfl ?_
                      show z_W 999 258 21 [(0, .ref 143), (1, .int (xs 1)), (2, .int (xs 2)), (3, .int (xs 3)), (4, .int (xs 4)), (5, .int (xs 5))] [.int (0 : Int32)] m _
                      refine w_p h_m258 2 (pc' := 26) (L' := [(0, .ref 143), (1, .int (xs 1)), (2, .int (xs 2)), (3, .int (xs 3)), (4, .int (xs 4)), (5, .int (xs 5))]) (st' := [.int (-2 : Int32)]) rfl ?_
                      refine w_ri h_m258 (z_at.mk 1 rfl rfl) rfl rfl ?_
                      show z_W 1000 1000 1027 [(0, .ref 0), (1, .ref 39), (2, .ref 143), (3, .int (0 : Int32))] [.int (-2 : Int32), .int (-2 : Int32)] m _
                      refine w_p h_m1000 5 (pc' := 20) (L' := [(0, .ref 0), (1, .ref 39), (2, .ref 143), (3, .int (6 : Int32))]) (st' := [.ref 0, .int (6 : Int32)]) rfl ?_
                      refine w_lene H (x := (6 : Int32)) (pc' := 21) (L' := [(0, .ref 0), (1, .ref 39), (2, .ref 143), (3, .int (6 : Int32))]) h_m1000 (z_at.mk 1 rfl rfl) (by decide) rfl (by decide) rfl rfl rfl ?_
                      refine w_p h_m1000 4 (pc' := 1381) (L' := [(0, .ref 0), (1, .ref 39), (2, .ref 143), (3, .int (6 : Int32))]) (st' := [.int (1 : Int32)]) rfl ?_
                      refine w_ri h_m1000 (z_at.mk 1 rfl rfl) rfl rfl ?_
                      exact hQ _ _ _ _ H (by decide) (by decide)
                  · refine w_f1 (pc' := 14) (L' := [(0, .int (xs 3)), (1, .int (xs 5))]) h_m0 (z_at.mk 3 rfl rfl) rfl (zc (a := (xs 5).toInt) (b := 0) rfl rfl (decide_eq_false (by omega))) rfl rfl ?_
                    refine w_p h_m0 2 (pc' := 17) (L' := [(0, .int (xs 3)), (1, .int (xs 5))]) (st' := [.int (32 : Int32), .int (xs 5)]) rfl ?_
                    by_cases c_10 : (xs 5).toInt < 32
                    · refine w_f2 (pc' := 20) (L' := [(0, .int (xs 3)), (1, .int (xs 5))]) h_m0 (z_at.mk 3 rfl rfl) rfl (zc (a := (xs 5).toInt) (b := 32) rfl rfl (decide_eq_false (by omega))) rfl rfl ?_
                      refine w_p h_m0 2 (pc' := 25) (L' := []) (st' := [.int (1 : Int32)]) rfl ?_
                      refine w_ri h_m0 (z_at.mk 1 rfl rfl) rfl rfl ?_
                      show z_W 998 1 13 [(0, .int (xs 2)), (1, .int (xs 3)), (2, .int (xs 4)), (3, .int (xs 5))] [.int (1 : Int32)] m _
                      refine w_p h_m1 3 (pc' := 18) (L' := [(0, .int (xs 2)), (1, .int (xs 3)), (2, .int (xs 4)), (3, .int (xs 5))]) (st' := [.int (xs 3), .int (xs 2)]) rfl ?_
                      by_cases c_11 : (xs 2).toInt ≤ (xs 3).toInt
                      · refine w_f2 (pc' := 21) (L' := [(0, .int (xs 2)), (1, .int (xs 3)), (2, .int (xs 4)), (3, .int (xs 5))]) h_m1 (z_at.mk 3 rfl rfl) rfl (zc (a := (xs 2).toInt) (b := (xs 3).toInt) rfl rfl (decide_eq_false (by omega))) rfl rfl ?_
                        refine w_p h_m1 2 (pc' := 23) (L' := [(0, .int (xs 2)), (1, .int (xs 3)), (2, .int (xs 4)), (3, .int (xs 5))]) (st' := [.int (xs 5), .int (xs 4)]) rfl ?_
                        by_cases c_12 : (xs 4).toInt ≤ (xs 5).toInt
                        · refine w_f2 (pc' := 26) (L' := [(0, .int (xs 2)), (1, .int (xs 3)), (2, .int (xs 4)), (3, .int (xs 5))]) h_m1 (z_at.mk 3 rfl rfl) rfl (zc (a := (xs 4).toInt) (b := (xs 5).toInt) rfl rfl (decide_eq_false (by omega))) rfl rfl ?_
                          refine w_p h_m1 2 (pc' := 31) (L' := []) (st' := [.int (1 : Int32)]) rfl ?_
                          refine w_ri h_m1 (z_at.mk 1 rfl rfl) rfl rfl ?_
                          show z_W 999 147 18 [(0, .ref 39), (1, .int (xs 1)), (2, .int (xs 2)), (3, .int (xs 3)), (4, .int (xs 4)), (5, .int (xs 5))] [.int (1 : Int32)] m _
                          refine w_p h_m147 2 (pc' := 25) (L' := [(0, .ref 39), (1, .int (xs 1)), (2, .int (xs 2)), (3, .int (xs 3)), (4, .int (xs 4)), (5, .int (xs 5))]) (st' := [.ref 39]) rfl ?_
                          refine w_gf H (pc' := 28) (L' := [(0, .ref 39), (1, .int (xs 1)), (2, .int (xs 2)), (3, .int (xs 3)), (4, .int (xs 4)), (5, .int (xs 5))]) h_m147 (z_at.mk 3 rfl rfl) rfl (u := .ref 40) rfl rfl rfl ?_
                          refine w_gf H (pc' := 31) (L' := [(0, .ref 39), (1, .int (xs 1)), (2, .int (xs 2)), (3, .int (xs 3)), (4, .int (xs 4)), (5, .int (xs 5))]) h_m147 (z_at.mk 3 rfl rfl) rfl (u := .ref 65) rfl rfl rfl ?_
                          refine w_p h_m147 5 (pc' := 38) (L' := [(0, .ref 39), (1, .int (xs 1)), (2, .int (xs 2)), (3, .int (xs 3)), (4, .int (xs 4)), (5, .int (xs 5))]) (st' := [.int (xs 5), .int (xs 4), .int (xs 3), .int (xs 2), .int (xs 1), .ref 65]) rfl ?_
                          refine w_cs (As := [.int (xs 2), .int (xs 3), .int (xs 4), .int (xs 5)]) (rest := [.int (xs 1), .ref 65]) (j := 2) (L0 := [(0, .int (xs 2)), (1, .int (xs 3)), (2, .int (xs 4)), (3, .int (xs 5))]) (pc' := 41) (L' := [(0, .ref 39), (1, .int (xs 1)), (2, .int (xs 2)), (3, .int (xs 3)), (4, .int (xs 4)), (5, .int (xs 5))]) h_m147 (z_at.mk 3 rfl rfl) (Or.inl ⟨rfl, rfl⟩) rfl rfl rfl rfl rfl ?_
                          refine w_p h_m2 13 (pc' := 15) (L' := [(0, .int (xs 2)), (1, .int (xs 3)), (2, .int (xs 4)), (3, .int (xs 5))]) (st' := [.int ((((xs 2) ||| ((xs 3) <<< ((5 : Int32) &&& 31))) ||| ((xs 4) <<< ((10 : Int32) &&& 31))) ||| ((xs 5) <<< ((15 : Int32) &&& 31)))]) rfl ?_
                          refine w_ri h_m2 (z_at.mk 1 rfl rfl) rfl rfl ?_
                          show z_W 999 147 41 [(0, .ref 39), (1, .int (xs 1)), (2, .int (xs 2)), (3, .int (xs 3)), (4, .int (xs 4)), (5, .int (xs 5))] [.int ((((xs 2) ||| ((xs 3) <<< ((5 : Int32) &&& 31))) ||| ((xs 4) <<< ((10 : Int32) &&& 31))) ||| ((xs 5) <<< ((15 : Int32) &&& 31))), .int (xs 1), .ref 65] m _
                          refine w_cv (H.t rfl) (pc' := 44) (L' := [(0, .ref 39), (1, .int (xs 1)), (2, .int (xs 2)), (3, .int (xs 3)), (4, .int (xs 4)), (5, .int (xs 5))]) (rest := []) (Ps := [.int (xs 1), .int ((((xs 2) ||| ((xs 3) <<< ((5 : Int32) &&& 31))) ||| ((xs 4) <<< ((10 : Int32) &&& 31))) ||| ((xs 5) <<< ((15 : Int32) &&& 31)))]) (L0 := [(0, .ref 65), (1, .int (xs 1)), (2, .int ((((xs 2) ||| ((xs 3) <<< ((5 : Int32) &&& 31))) ||| ((xs 4) <<< ((10 : Int32) &&& 31))) ||| ((xs 5) <<< ((15 : Int32) &&& 31))))]) h_m147 (z_at.mk 3 rfl rfl) (Or.inl ⟨rfl, rfl⟩) rfl rfl (by decide) (by decide) rfl rfl rfl rfl rfl rfl (by decide) rfl rfl rfl ?_
                          refine w_p h_m109 1 (pc' := 1) (L' := [(0, .ref 65), (1, .int (xs 1)), (2, .int ((((xs 2) ||| ((xs 3) <<< ((5 : Int32) &&& 31))) ||| ((xs 4) <<< ((10 : Int32) &&& 31))) ||| ((xs 5) <<< ((15 : Int32) &&& 31))))]) (st' := [.ref 65]) rfl ?_
                          refine w_gf H (pc' := 4) (L' := [(0, .ref 65), (1, .int (xs 1)), (2, .int ((((xs 2) ||| ((xs 3) <<< ((5 : Int32) &&& 31))) ||| ((xs 4) <<< ((10 : Int32) &&& 31))) ||| ((xs 5) <<< ((15 : Int32) &&& 31))))]) h_m109 (z_at.mk 3 rfl rfl) rfl (u := .int (0 : Int32)) rfl rfl rfl ?_
                          refine w_p h_m109 3 (pc' := 12) (L' := [(0, .ref 65), (1, .int (xs 1)), (2, .int ((((xs 2) ||| ((xs 3) <<< ((5 : Int32) &&& 31))) ||| ((xs 4) <<< ((10 : Int32) &&& 31))) ||| ((xs 5) <<< ((15 : Int32) &&& 31))))]) (st' := [.ref 65]) rfl ?_
                          refine w_gf H (pc' := 15) (L' := [(0, .ref 65), (1, .int (xs 1)), (2, .int ((((xs 2) ||| ((xs 3) <<< ((5 : Int32) &&& 31))) ||| ((xs 4) <<< ((10 : Int32) &&& 31))) ||| ((xs 5) <<< ((15 : Int32) &&& 31))))]) h_m109 (z_at.mk 3 rfl rfl) rfl (u := .ref 66) rfl rfl rfl ?_
                          refine w_p h_m109 1 (pc' := 16) (L' := [(0, .ref 65), (1, .int (xs 1)), (2, .int ((((xs 2) ||| ((xs 3) <<< ((5 : Int32) &&& 31))) ||| ((xs 4) <<< ((10 : Int32) &&& 31))) ||| ((xs 5) <<< ((15 : Int32) &&& 31))))]) (st' := [.ref 65, .ref 66]) rfl ?_
                          refine w_gf H (pc' := 19) (L' := [(0, .ref 65), (1, .int (xs 1)), (2, .int ((((xs 2) ||| ((xs 3) <<< ((5 : Int32) &&& 31))) ||| ((xs 4) <<< ((10 : Int32) &&& 31))) ||| ((xs 5) <<< ((15 : Int32) &&& 31))))]) h_m109 (z_at.mk 3 rfl rfl) rfl (u := .int (0 : Int32)) rfl rfl rfl ?_
                          refine w_p h_m109 1 (pc' := 20) (L' := [(0, .ref 65), (1, .int (xs 1)), (2, .int ((((xs 2) ||| ((xs 3) <<< ((5 : Int32) &&& 31))) ||| ((xs 4) <<< ((10 : Int32) &&& 31))) ||| ((xs 5) <<< ((15 : Int32) &&& 31))))]) (st' := [.int (xs 1), .int (0 : Int32), .ref 66]) rfl ?_
                          refine w_as H (t := 0) (j := 0) (u := .int (xs 1)) (0, 6, [(0, .int (xs 1))], some (.int (0 : Int32))) (pc' := 21) (L' := [(0, .ref 65), (1, .int (xs 1)), (2, .int ((((xs 2) ||| ((xs 3) <<< ((5 : Int32) &&& 31))) ||| ((xs 4) <<< ((10 : Int32) &&& 31))) ||| ((xs 5) <<< ((15 : Int32) &&& 31))))]) h_m109 (z_at.mk 1 rfl rfl) rfl rfl (w_ui _ _ (by decide)) rfl rfl rfl rfl ?_
                          clear H m; intro m H
                          refine w_p h_m109 1 (pc' := 22) (L' := [(0, .ref 65), (1, .int (xs 1)), (2, .int ((((xs 2) ||| ((xs 3) <<< ((5 : Int32) &&& 31))) ||| ((xs 4) <<< ((10 : Int32) &&& 31))) ||| ((xs 5) <<< ((15 : Int32) &&& 31))))]) (st' := [.ref 65]) rfl ?_
                          refine w_gf H (pc' := 25) (L' := [(0, .ref 65), (1, .int (xs 1)), (2, .int ((((xs 2) ||| ((xs 3) <<< ((5 : Int32) &&& 31))) ||| ((xs 4) <<< ((10 : Int32) &&& 31))) ||| ((xs 5) <<< ((15 : Int32) &&& 31))))]) h_m109 (z_at.mk 3 rfl rfl) rfl (u := .ref 67) rfl rfl rfl ?_
                          refine w_p h_m109 1 (pc' := 26) (L' := [(0, .ref 65), (1, .int (xs 1)), (2, .int ((((xs 2) ||| ((xs 3) <<< ((5 : Int32) &&& 31))) ||| ((xs 4) <<< ((10 : Int32) &&& 31))) ||| ((xs 5) <<< ((15 : Int32) &&& 31))))]) (st' := [.ref 65, .ref 67]) rfl ?_
                          refine w_gf H (pc' := 29) (L' := [(0, .ref 65), (1, .int (xs 1)), (2, .int ((((xs 2) ||| ((xs 3) <<< ((5 : Int32) &&& 31))) ||| ((xs 4) <<< ((10 : Int32) &&& 31))) ||| ((xs 5) <<< ((15 : Int32) &&& 31))))]) h_m109 (z_at.mk 3 rfl rfl) rfl (u := .int (0 : Int32)) rfl rfl rfl ?_
                          refine w_p h_m109 1 (pc' := 30) (L' := [(0, .ref 65), (1, .int (xs 1)), (2, .int ((((xs 2) ||| ((xs 3) <<< ((5 : Int32) &&& 31))) ||| ((xs 4) <<< ((10 : Int32) &&& 31))) ||| ((xs 5) <<< ((15 : Int32) &&& 31))))]) (st' := [.int ((((xs 2) ||| ((xs 3) <<< ((5 : Int32) &&& 31))) ||| ((xs 4) <<< ((10 : Int32) &&& 31))) ||| ((xs 5) <<< ((15 : Int32) &&& 31))), .int (0 : Int32), .ref 67]) rfl ?_
                          refine w_as H (t := 0) (j := 0) (u := .int ((((xs 2) ||| ((xs 3) <<< ((5 : Int32) &&& 31))) ||| ((xs 4) <<< ((10 : Int32) &&& 31))) ||| ((xs 5) <<< ((15 : Int32) &&& 31)))) (0, 6, [(0, .int ((((xs 2) ||| ((xs 3) <<< ((5 : Int32) &&& 31))) ||| ((xs 4) <<< ((10 : Int32) &&& 31))) ||| ((xs 5) <<< ((15 : Int32) &&& 31))))], some (.int (0 : Int32))) (pc' := 31) (L' := [(0, .ref 65), (1, .int (xs 1)), (2, .int ((((xs 2) ||| ((xs 3) <<< ((5 : Int32) &&& 31))) ||| ((xs 4) <<< ((10 : Int32) &&& 31))) ||| ((xs 5) <<< ((15 : Int32) &&& 31))))]) h_m109 (z_at.mk 1 rfl rfl) rfl rfl (w_ui _ _ (by decide)) rfl rfl rfl rfl ?_
                          clear H m; intro m H
                          refine w_p h_m109 1 (pc' := 32) (L' := [(0, .ref 65), (1, .int (xs 1)), (2, .int ((((xs 2) ||| ((xs 3) <<< ((5 : Int32) &&& 31))) ||| ((xs 4) <<< ((10 : Int32) &&& 31))) ||| ((xs 5) <<< ((15 : Int32) &&& 31))))]) (st' := [.ref 65]) rfl ?_
                          refine w_gf H (pc' := 35) (L' := [(0, .ref 65), (1, .int (xs 1)), (2, .int ((((xs 2) ||| ((xs 3) <<< ((5 : Int32) &&& 31))) ||| ((xs 4) <<< ((10 : Int32) &&& 31))) ||| ((xs 5) <<< ((15 : Int32) &&& 31))))]) h_m109 (z_at.mk 3 rfl rfl) rfl (u := .ref 68) rfl rfl rfl ?_
                          refine w_p h_m109 1 (pc' := 36) (L' := [(0, .ref 65), (1, .int (xs 1)), (2, .int ((((xs 2) ||| ((xs 3) <<< ((5 : Int32) &&& 31))) ||| ((xs 4) <<< ((10 : Int32) &&& 31))) ||| ((xs 5) <<< ((15 : Int32) &&& 31))))]) (st' := [.ref 65, .ref 68]) rfl ?_
                          refine w_gf H (pc' := 39) (L' := [(0, .ref 65), (1, .int (xs 1)), (2, .int ((((xs 2) ||| ((xs 3) <<< ((5 : Int32) &&& 31))) ||| ((xs 4) <<< ((10 : Int32) &&& 31))) ||| ((xs 5) <<< ((15 : Int32) &&& 31))))]) h_m109 (z_at.mk 3 rfl rfl) rfl (u := .int (0 : Int32)) rfl rfl rfl ?_
                          refine w_p h_m109 1 (pc' := 40) (L' := [(0, .ref 65), (1, .int (xs 1)), (2, .int ((((xs 2) ||| ((xs 3) <<< ((5 : Int32) &&& 31))) ||| ((xs 4) <<< ((10 : Int32) &&& 31))) ||| ((xs 5) <<< ((15 : Int32) &&& 31))))]) (st' := [.int (0 : Int32), .int (0 : Int32), .ref 68]) rfl ?_
                          refine w_as H (t := 0) (j := 0) (u := .int (0 : Int32)) (0, 6, [(0, .int (0 : Int32))], some (.int (0 : Int32))) (pc' := 41) (L' := [(0, .ref 65), (1, .int (xs 1)), (2, .int ((((xs 2) ||| ((xs 3) <<< ((5 : Int32) &&& 31))) ||| ((xs 4) <<< ((10 : Int32) &&& 31))) ||| ((xs 5) <<< ((15 : Int32) &&& 31))))]) h_m109 (z_at.mk 1 rfl rfl) rfl rfl (w_ui _ _ (by decide)) rfl rfl rfl rfl ?_
                          clear H m; intro m H
                          refine w_p h_m109 2 (pc' := 43) (L' := [(0, .ref 65), (1, .int (xs 1)), (2, .int ((((xs 2) ||| ((xs 3) <<< ((5 : Int32) &&& 31))) ||| ((xs 4) <<< ((10 : Int32) &&& 31))) ||| ((xs 5) <<< ((15 : Int32) &&& 31))))]) (st' := [.ref 65, .ref 65]) rfl ?_
                          refine w_gf H (pc' := 46) (L' := [(0, .ref 65), (1, .int (xs 1)), (2, .int ((((xs 2) ||| ((xs 3) <<< ((5 : Int32) &&& 31))) ||| ((xs 4) <<< ((10 : Int32) &&& 31))) ||| ((xs 5) <<< ((15 : Int32) &&& 31))))]) h_m109 (z_at.mk 3 rfl rfl) rfl (u := .int (0 : Int32)) rfl rfl rfl ?_
                          refine w_p h_m109 2 (pc' := 48) (L' := [(0, .ref 65), (1, .int (xs 1)), (2, .int ((((xs 2) ||| ((xs 3) <<< ((5 : Int32) &&& 31))) ||| ((xs 4) <<< ((10 : Int32) &&& 31))) ||| ((xs 5) <<< ((15 : Int32) &&& 31))))]) (st' := [.int (1 : Int32), .ref 65]) rfl ?_
                          refine w_pf H (20, 6, [(5, .int (1 : Int32)), (4, .ref 70), (3, .ref 69), (2, .ref 68), (1, .ref 67), (0, .ref 66)], none) (pc' := 51) (L' := [(0, .ref 65), (1, .int (xs 1)), (2, .int ((((xs 2) ||| ((xs 3) <<< ((5 : Int32) &&& 31))) ||| ((xs 4) <<< ((10 : Int32) &&& 31))) ||| ((xs 5) <<< ((15 : Int32) &&& 31))))]) h_m109 (z_at.mk 3 rfl rfl) rfl (by decide) rfl (Or.inl rfl) rfl rfl rfl ?_
                          clear H m; intro m H
                          refine w_p h_m109 1 (pc' := 52) (L' := [(0, .ref 65), (1, .int (xs 1)), (2, .int ((((xs 2) ||| ((xs 3) <<< ((5 : Int32) &&& 31))) ||| ((xs 4) <<< ((10 : Int32) &&& 31))) ||| ((xs 5) <<< ((15 : Int32) &&& 31))))]) (st' := [.int (1 : Int32)]) rfl ?_
                          refine w_ri h_m109 (z_at.mk 1 rfl rfl) rfl rfl ?_
                          show z_W 999 147 44 [(0, .ref 39), (1, .int (xs 1)), (2, .int (xs 2)), (3, .int (xs 3)), (4, .int (xs 4)), (5, .int (xs 5))] [.int (1 : Int32)] m _
                          refine w_p h_m147 2 (pc' := 48) (L' := [(0, .ref 39), (1, .int (xs 1)), (2, .int (xs 2)), (3, .int (xs 3)), (4, .int (xs 4)), (5, .int (xs 5))]) (st' := [.ref 39]) rfl ?_
                          refine w_gf H (pc' := 51) (L' := [(0, .ref 39), (1, .int (xs 1)), (2, .int (xs 2)), (3, .int (xs 3)), (4, .int (xs 4)), (5, .int (xs 5))]) h_m147 (z_at.mk 3 rfl rfl) rfl (u := .ref 40) rfl rfl rfl ?_
                          refine w_gf H (pc' := 54) (L' := [(0, .ref 39), (1, .int (xs 1)), (2, .int (xs 2)), (3, .int (xs 3)), (4, .int (xs 4)), (5, .int (xs 5))]) h_m147 (z_at.mk 3 rfl rfl) rfl (u := .ref 65) rfl rfl rfl ?_
                          refine w_gf H (pc' := 57) (L' := [(0, .ref 39), (1, .int (xs 1)), (2, .int (xs 2)), (3, .int (xs 3)), (4, .int (xs 4)), (5, .int (xs 5))]) h_m147 (z_at.mk 3 rfl rfl) rfl (u := .int (1 : Int32)) rfl rfl rfl ?_
                          refine w_p h_m147 3 (pc' := 64) (L' := []) (st' := [.int (0 : Int32)]) rfl ?_
                          refine w_ri h_m147 (z_at.mk 1 rfl rfl) rfl rfl ?_
                          show z_W 1000 1000 998 [(0, .ref 0), (1, .ref 39), (2, .ref 143), (3, .int (0 : Int32))] [.int (0 : Int32)] m _
                          refine w_p h_m1000 5 (pc' := 1003) (L' := [(0, .ref 0), (1, .ref 39), (2, .ref 143), (3, .int (0 : Int32))]) (st' := [.int (1 : Int32), .ref 0, .ref 143, .int (0 : Int32)]) rfl ?_
                          refine w_ae H (j := 1) (pc' := 1004) (L' := [(0, .ref 0), (1, .ref 39), (2, .ref 143), (3, .int (0 : Int32))]) h_m1000 (z_at.mk 1 rfl rfl) rfl rfl rfl (by decide) rfl (by decide) rfl rfl rfl ?_
                          refine w_p h_m1000 4 (pc' := 1008) (L' := [(0, .ref 0), (1, .ref 39), (2, .ref 143), (3, .int (0 : Int32))]) (st' := [.int (2 : Int32), .ref 0, .int (xs 1), .ref 143, .int (0 : Int32)]) rfl ?_
                          refine w_ae H (j := 2) (pc' := 1009) (L' := [(0, .ref 0), (1, .ref 39), (2, .ref 143), (3, .int (0 : Int32))]) h_m1000 (z_at.mk 1 rfl rfl) rfl rfl rfl (by decide) rfl (by decide) rfl rfl rfl ?_
                          refine w_p h_m1000 4 (pc' := 1013) (L' := [(0, .ref 0), (1, .ref 39), (2, .ref 143), (3, .int (0 : Int32))]) (st' := [.int (3 : Int32), .ref 0, .int (xs 2), .int (xs 1), .ref 143, .int (0 : Int32)]) rfl ?_
                          refine w_ae H (j := 3) (pc' := 1014) (L' := [(0, .ref 0), (1, .ref 39), (2, .ref 143), (3, .int (0 : Int32))]) h_m1000 (z_at.mk 1 rfl rfl) rfl rfl rfl (by decide) rfl (by decide) rfl rfl rfl ?_
                          refine w_p h_m1000 4 (pc' := 1018) (L' := [(0, .ref 0), (1, .ref 39), (2, .ref 143), (3, .int (0 : Int32))]) (st' := [.int (4 : Int32), .ref 0, .int (xs 3), .int (xs 2), .int (xs 1), .ref 143, .int (0 : Int32)]) rfl ?_
                          refine w_ae H (j := 4) (pc' := 1019) (L' := [(0, .ref 0), (1, .ref 39), (2, .ref 143), (3, .int (0 : Int32))]) h_m1000 (z_at.mk 1 rfl rfl) rfl rfl rfl (by decide) rfl (by decide) rfl rfl rfl ?_
                          refine w_p h_m1000 4 (pc' := 1023) (L' := [(0, .ref 0), (1, .ref 39), (2, .ref 143), (3, .int (0 : Int32))]) (st' := [.int (5 : Int32), .ref 0, .int (xs 4), .int (xs 3), .int (xs 2), .int (xs 1), .ref 143, .int (0 : Int32)]) rfl ?_
                          refine w_ae H (j := 5) (pc' := 1024) (L' := [(0, .ref 0), (1, .ref 39), (2, .ref 143), (3, .int (0 : Int32))]) h_m1000 (z_at.mk 1 rfl rfl) rfl rfl rfl (by decide) rfl (by decide) rfl rfl rfl ?_
                          refine w_cv (H.t rfl) (pc' := 1027) (L' := [(0, .ref 0), (1, .ref 39), (2, .ref 143), (3, .int (0 : Int32))]) (rest := [.int (0 : Int32)]) (Ps := [.int (xs 1), .int (xs 2), .int (xs 3), .int (xs 4), .int (xs 5)]) (L0 := [(0, .ref 143), (1, .int (xs 1)), (2, .int (xs 2)), (3, .int (xs 3)), (4, .int (xs 4)), (5, .int (xs 5))]) h_m1000 (z_at.mk 3 rfl rfl) (Or.inl ⟨rfl, rfl⟩) rfl rfl (by decide) (by decide) rfl rfl rfl rfl rfl rfl (by decide) rfl rfl rfl ?_
                          refine w_p h_m258 3 (pc' := 4) (L' := [(0, .ref 143), (1, .int (xs 1)), (2, .int (xs 2)), (3, .int (xs 3)), (4, .int (xs 4)), (5, .int (xs 5))]) (st' := [.int (6 : Int32), .int (0 : Int32), .int (xs 1)]) rfl ?_
                          refine w_cs (As := [.int (xs 1), .int (0 : Int32), .int (6 : Int32)]) (rest := []) (j := 159) (L0 := [(0, .int (xs 1)), (1, .int (0 : Int32)), (2, .int (6 : Int32))]) (pc' := 7) (L' := [(0, .ref 143), (1, .int (xs 1)), (2, .int (xs 2)), (3, .int (xs 3)), (4, .int (xs 4)), (5, .int (xs 5))]) h_m258 (z_at.mk 3 rfl rfl) (Or.inl ⟨rfl, rfl⟩) rfl rfl rfl rfl rfl ?_
                          refine w_p h_m159 2 (pc' := 2) (L' := [(0, .int (xs 1)), (1, .int (0 : Int32)), (2, .int (6 : Int32))]) (st' := [.int (0 : Int32), .int (xs 1)]) rfl ?_
                          refine w_f2 (pc' := 5) (L' := [(0, .int (xs 1)), (1, .int (0 : Int32)), (2, .int (6 : Int32))]) h_m159 (z_at.mk 3 rfl rfl) rfl (zc (a := (xs 1).toInt) (b := 0) rfl rfl (decide_eq_false (by omega))) rfl rfl ?_
                          refine w_p h_m159 2 (pc' := 7) (L' := [(0, .int (xs 1)), (1, .int (0 : Int32)), (2, .int (6 : Int32))]) (st' := [.int (6 : Int32), .int (xs 1)]) rfl ?_
                          refine w_f2 (pc' := 10) (L' := [(0, .int (xs 1)), (1, .int (0 : Int32)), (2, .int (6 : Int32))]) h_m159 (z_at.mk 3 rfl rfl) rfl (zc (a := (xs 1).toInt) (b := 6) rfl rfl (decide_eq_false (by omega))) rfl rfl ?_
                          refine w_p h_m159 2 (pc' := 15) (L' := []) (st' := [.int (1 : Int32)]) rfl ?_
                          refine w_ri h_m159 (z_at.mk 1 rfl rfl) rfl rfl ?_
                          show z_W 999 258 7 [(0, .ref 143), (1, .int (xs 1)), (2, .int (xs 2)), (3, .int (xs 3)), (4, .int (xs 4)), (5, .int (xs 5))] [.int (1 : Int32)] m _
                          refine w_p h_m258 5 (pc' := 18) (L' := [(0, .ref 143), (1, .int (xs 1)), (2, .int (xs 2)), (3, .int (xs 3)), (4, .int (xs 4)), (5, .int (xs 5))]) (st' := [.int (xs 5), .int (xs 4), .int (xs 3), .int (xs 2)]) rfl ?_
                          refine w_cs (As := [.int (xs 2), .int (xs 3), .int (xs 4), .int (xs 5)]) (rest := []) (j := 164) (L0 := [(0, .int (xs 2)), (1, .int (xs 3)), (2, .int (xs 4)), (3, .int (xs 5))]) (pc' := 21) (L' := [(0, .ref 143), (1, .int (xs 1)), (2, .int (xs 2)), (3, .int (xs 3)), (4, .int (xs 4)), (5, .int (xs 5))]) h_m258 (z_at.mk 3 rfl rfl) (Or.inl ⟨rfl, rfl⟩) rfl rfl rfl rfl rfl ?_
                          refine w_p h_m164 3 (pc' := 4) (L' := [(0, .int (xs 2)), (1, .int (xs 3)), (2, .int (xs 4)), (3, .int (xs 5))]) (st' := [.int (31 : Int32), .int (0 : Int32), .int (xs 2)]) rfl ?_
                          refine w_cs (As := [.int (xs 2), .int (0 : Int32), .int (31 : Int32)]) (rest := []) (j := 159) (L0 := [(0, .int (xs 2)), (1, .int (0 : Int32)), (2, .int (31 : Int32))]) (pc' := 7) (L' := [(0, .int (xs 2)), (1, .int (xs 3)), (2, .int (xs 4)), (3, .int (xs 5))]) h_m164 (z_at.mk 3 rfl rfl) (Or.inl ⟨rfl, rfl⟩) rfl rfl rfl rfl rfl ?_
                          refine w_p h_m159 2 (pc' := 2) (L' := [(0, .int (xs 2)), (1, .int (0 : Int32)), (2, .int (31 : Int32))]) (st' := [.int (0 : Int32), .int (xs 2)]) rfl ?_
                          refine w_f2 (pc' := 5) (L' := [(0, .int (xs 2)), (1, .int (0 : Int32)), (2, .int (31 : Int32))]) h_m159 (z_at.mk 3 rfl rfl) rfl (zc (a := (xs 2).toInt) (b := 0) rfl rfl (decide_eq_false (by omega))) rfl rfl ?_
                          refine w_p h_m159 2 (pc' := 7) (L' := [(0, .int (xs 2)), (1, .int (0 : Int32)), (2, .int (31 : Int32))]) (st' := [.int (31 : Int32), .int (xs 2)]) rfl ?_
                          refine w_f2 (pc' := 10) (L' := [(0, .int (xs 2)), (1, .int (0 : Int32)), (2, .int (31 : Int32))]) h_m159 (z_at.mk 3 rfl rfl) rfl (zc (a := (xs 2).toInt) (b := 31) rfl rfl (decide_eq_false (by omega))) rfl rfl ?_
                          refine w_p h_m159 2 (pc' := 15) (L' := []) (st' := [.int (1 : Int32)]) rfl ?_
                          refine w_ri h_m159 (z_at.mk 1 rfl rfl) rfl rfl ?_
                          show z_W 998 164 7 [(0, .int (xs 2)), (1, .int (xs 3)), (2, .int (xs 4)), (3, .int (xs 5))] [.int (1 : Int32)] m _
                          refine w_p h_m164 4 (pc' := 14) (L' := [(0, .int (xs 2)), (1, .int (xs 3)), (2, .int (xs 4)), (3, .int (xs 5))]) (st' := [.int (31 : Int32), .int (xs 2), .int (xs 3)]) rfl ?_
                          refine w_cs (As := [.int (xs 3), .int (xs 2), .int (31 : Int32)]) (rest := []) (j := 159) (L0 := [(0, .int (xs 3)), (1, .int (xs 2)), (2, .int (31 : Int32))]) (pc' := 17) (L' := [(0, .int (xs 2)), (1, .int (xs 3)), (2, .int (xs 4)), (3, .int (xs 5))]) h_m164 (z_at.mk 3 rfl rfl) (Or.inl ⟨rfl, rfl⟩) rfl rfl rfl rfl rfl ?_
                          refine w_p h_m159 2 (pc' := 2) (L' := [(0, .int (xs 3)), (1, .int (xs 2)), (2, .int (31 : Int32))]) (st' := [.int (xs 2), .int (xs 3)]) rfl ?_
                          refine w_f2 (pc' := 5) (L' := [(0, .int (xs 3)), (1, .int (xs 2)), (2, .int (31 : Int32))]) h_m159 (z_at.mk 3 rfl rfl) rfl (zc (a := (xs 3).toInt) (b := (xs 2).toInt) rfl rfl (decide_eq_false (by omega))) rfl rfl ?_
                          refine w_p h_m159 2 (pc' := 7) (L' := [(0, .int (xs 3)), (1, .int (xs 2)), (2, .int (31 : Int32))]) (st' := [.int (31 : Int32), .int (xs 3)]) rfl ?_
                          refine w_f2 (pc' := 10) (L' := [(0, .int (xs 3)), (1, .int (xs 2)), (2, .int (31 : Int32))]) h_m159 (z_at.mk 3 rfl rfl) rfl (zc (a := (xs 3).toInt) (b := 31) rfl rfl (decide_eq_false (by omega))) rfl rfl ?_
                          refine w_p h_m159 2 (pc' := 15) (L' := []) (st' := [.int (1 : Int32)]) rfl ?_
                          refine w_ri h_m159 (z_at.mk 1 rfl rfl) rfl rfl ?_
                          show z_W 998 164 17 [(0, .int (xs 2)), (1, .int (xs 3)), (2, .int (xs 4)), (3, .int (xs 5))] [.int (1 : Int32)] m _
                          refine w_p h_m164 4 (pc' := 24) (L' := [(0, .int (xs 2)), (1, .int (xs 3)), (2, .int (xs 4)), (3, .int (xs 5))]) (st' := [.int (31 : Int32), .int (0 : Int32), .int (xs 4)]) rfl ?_
                          refine w_cs (As := [.int (xs 4), .int (0 : Int32), .int (31 : Int32)]) (rest := []) (j := 159) (L0 := [(0, .int (xs 4)), (1, .int (0 : Int32)), (2, .int (31 : Int32))]) (pc' := 27) (L' := [(0, .int (xs 2)), (1, .int (xs 3)), (2, .int (xs 4)), (3, .int (xs 5))]) h_m164 (z_at.mk 3 rfl rfl) (Or.inl ⟨rfl, rfl⟩) rfl rfl rfl rfl rfl ?_
                          refine w_p h_m159 2 (pc' := 2) (L' := [(0, .int (xs 4)), (1, .int (0 : Int32)), (2, .int (31 : Int32))]) (st' := [.int (0 : Int32), .int (xs 4)]) rfl ?_
                          refine w_f2 (pc' := 5) (L' := [(0, .int (xs 4)), (1, .int (0 : Int32)), (2, .int (31 : Int32))]) h_m159 (z_at.mk 3 rfl rfl) rfl (zc (a := (xs 4).toInt) (b := 0) rfl rfl (decide_eq_false (by omega))) rfl rfl ?_
                          refine w_p h_m159 2 (pc' := 7) (L' := [(0, .int (xs 4)), (1, .int (0 : Int32)), (2, .int (31 : Int32))]) (st' := [.int (31 : Int32), .int (xs 4)]) rfl ?_
                          refine w_f2 (pc' := 10) (L' := [(0, .int (xs 4)), (1, .int (0 : Int32)), (2, .int (31 : Int32))]) h_m159 (z_at.mk 3 rfl rfl) rfl (zc (a := (xs 4).toInt) (b := 31) rfl rfl (decide_eq_false (by omega))) rfl rfl ?_
                          refine w_p h_m159 2 (pc' := 15) (L' := []) (st' := [.int (1 : Int32)]) rfl ?_
                          refine w_ri h_m159 (z_at.mk 1 rfl rfl) rfl rfl ?_
                          show z_W 998 164 27 [(0, .int (xs 2)), (1, .int (xs 3)), (2, .int (xs 4)), (3, .int (xs 5))] [.int (1 : Int32)] m _
                          refine w_p h_m164 4 (pc' := 34) (L' := [(0, .int (xs 2)), (1, .int (xs 3)), (2, .int (xs 4)), (3, .int (xs 5))]) (st' := [.int (31 : Int32), .int (xs 4), .int (xs 5)]) rfl ?_
                          refine w_cs (As := [.int (xs 5), .int (xs 4), .int (31 : Int32)]) (rest := []) (j := 159) (L0 := [(0, .int (xs 5)), (1, .int (xs 4)), (2, .int (31 : Int32))]) (pc' := 37) (L' := [(0, .int (xs 2)), (1, .int (xs 3)), (2, .int (xs 4)), (3, .int (xs 5))]) h_m164 (z_at.mk 3 rfl rfl) (Or.inl ⟨rfl, rfl⟩) rfl rfl rfl rfl rfl ?_
                          refine w_p h_m159 2 (pc' := 2) (L' := [(0, .int (xs 5)), (1, .int (xs 4)), (2, .int (31 : Int32))]) (st' := [.int (xs 4), .int (xs 5)]) rfl ?_
                          refine w_f2 (pc' := 5) (L' := [(0, .int (xs 5)), (1, .int (xs 4)), (2, .int (31 : Int32))]) h_m159 (z_at.mk 3 rfl rfl) rfl (zc (a := (xs 5).toInt) (b := (xs 4).toInt) rfl rfl (decide_eq_false (by omega))) rfl rfl ?_
                          refine w_p h_m159 2 (pc' := 7) (L' := [(0, .int (xs 5)), (1, .int (xs 4)), (2, .int (31 : Int32))]) (st' := [.int (31 : Int32), .int (xs 5)]) rfl ?_
                          refine w_f2 (pc' := 10) (L' := [(0, .int (xs 5)), (1, .int (xs 4)), (2, .int (31 : Int32))]) h_m159 (z_at.mk 3 rfl rfl) rfl (zc (a := (xs 5).toInt) (b := 31) rfl rfl (decide_eq_false (by omega))) rfl rfl ?_
                          refine w_p h_m159 2 (pc' := 15) (L' := []) (st' := [.int (1 : Int32)]) rfl ?_
                          refine w_ri h_m159 (z_at.mk 1 rfl rfl) rfl rfl ?_
                          show z_W 998 164 37 [(0, .int (xs 2)), (1, .int (xs 3)), (2, .int (xs 4)), (3, .int (xs 5))] [.int (1 : Int32)] m _
                          refine w_p h_m164 3 (pc' := 45) (L' := []) (st' := [.int (1 : Int32)]) rfl ?_
                          refine w_ri h_m164 (z_at.mk 1 rfl rfl) rfl rfl ?_
                          show z_W 999 258 21 [(0, .ref 143), (1, .int (xs 1)), (2, .int (xs 2)), (3, .int (xs 3)), (4, .int (xs 4)), (5, .int (xs 5))] [.int (1 : Int32)] m _
                          refine w_p h_m258 2 (pc' := 28) (L' := [(0, .ref 143), (1, .int (xs 1)), (2, .int (xs 2)), (3, .int (xs 3)), (4, .int (xs 4)), (5, .int (xs 5))]) (st' := [.ref 143]) rfl ?_
                          refine w_gf H (pc' := 31) (L' := [(0, .ref 143), (1, .int (xs 1)), (2, .int (xs 2)), (3, .int (xs 3)), (4, .int (xs 4)), (5, .int (xs 5))]) h_m258 (z_at.mk 3 rfl rfl) rfl (u := .ref 144) rfl rfl rfl ?_
                          refine w_p h_m258 1 (pc' := 33) (L' := [(0, .ref 143), (1, .int (xs 1)), (2, .int (xs 2)), (3, .int (xs 3)), (4, .int (xs 4)), (5, .int (xs 5))]) (st' := [.int (10 : Int32), .ref 144]) rfl ?_
                          refine w_al H (t := 0) (j := 10) (pc' := 34) (L' := [(0, .ref 143), (1, .int (xs 1)), (2, .int (xs 2)), (3, .int (xs 3)), (4, .int (xs 4)), (5, .int (xs 5))]) h_m258 (z_at.mk 1 rfl rfl) rfl rfl rfl (u := .int (0 : Int32)) rfl rfl rfl ?_
                          refine w_p h_m258 5 (pc' := 48) (L' := [(0, .ref 143), (1, .int (xs 1)), (2, .int (xs 2)), (3, .int (xs 3)), (4, .int (xs 4)), (5, .int (xs 5))]) (st' := [.ref 143, .int (6 : Int32), .int (300 : Int32)]) rfl ?_
                          refine w_gf H (pc' := 51) (L' := [(0, .ref 143), (1, .int (xs 1)), (2, .int (xs 2)), (3, .int (xs 3)), (4, .int (xs 4)), (5, .int (xs 5))]) h_m258 (z_at.mk 3 rfl rfl) rfl (u := .ref 144) rfl rfl rfl ?_
                          refine w_p h_m258 1 (pc' := 53) (L' := [(0, .ref 143), (1, .int (xs 1)), (2, .int (xs 2)), (3, .int (xs 3)), (4, .int (xs 4)), (5, .int (xs 5))]) (st' := [.int (10 : Int32), .ref 144, .int (6 : Int32), .int (300 : Int32)]) rfl ?_
                          refine w_al H (t := 0) (j := 10) (pc' := 54) (L' := [(0, .ref 143), (1, .int (xs 1)), (2, .int (xs 2)), (3, .int (xs 3)), (4, .int (xs 4)), (5, .int (xs 5))]) h_m258 (z_at.mk 1 rfl rfl) rfl rfl rfl (u := .int (0 : Int32)) rfl rfl rfl ?_
                          refine w_p h_m258 4 (pc' := 59) (L' := [(6, .int (300 : Int32)), (0, .ref 143), (1, .int (xs 1)), (2, .int (xs 2)), (3, .int (xs 3)), (4, .int (xs 4)), (5, .int (xs 5))]) (st' := [.ref 143]) rfl ?_
                          refine w_gf H (pc' := 62) (L' := [(6, .int (300 : Int32)), (0, .ref 143), (1, .int (xs 1)), (2, .int (xs 2)), (3, .int (xs 3)), (4, .int (xs 4)), (5, .int (xs 5))]) h_m258 (z_at.mk 3 rfl rfl) rfl (u := .ref 144) rfl rfl rfl ?_
                          refine w_p h_m258 2 (pc' := 65) (L' := [(6, .int (300 : Int32)), (0, .ref 143), (1, .int (xs 1)), (2, .int (xs 2)), (3, .int (xs 3)), (4, .int (xs 4)), (5, .int (xs 5))]) (st' := [.int (xs 1), .int (300 : Int32), .ref 144]) rfl ?_
                          refine w_as H (t := 0) (j := 300) (u := .int (xs 1)) (0, 2740, [(300, .int (xs 1)), (17, .int (1024 : Int32)), (16, .int (1 : Int32)), (15, .int (1 : Int32)), (13, .int (12 : Int32)), (12, .int (40 : Int32)), (11, .int (10 : Int32))], some (.int (0 : Int32))) (pc' := 66) (L' := [(6, .int (300 : Int32)), (0, .ref 143), (1, .int (xs 1)), (2, .int (xs 2)), (3, .int (xs 3)), (4, .int (xs 4)), (5, .int (xs 5))]) h_m258 (z_at.mk 1 rfl rfl) rfl rfl (w_ui _ _ (by decide)) rfl rfl rfl rfl ?_
                          clear H m; intro m H
                          refine w_p h_m258 1 (pc' := 67) (L' := [(6, .int (300 : Int32)), (0, .ref 143), (1, .int (xs 1)), (2, .int (xs 2)), (3, .int (xs 3)), (4, .int (xs 4)), (5, .int (xs 5))]) (st' := [.ref 143]) rfl ?_
                          refine w_gf H (pc' := 70) (L' := [(6, .int (300 : Int32)), (0, .ref 143), (1, .int (xs 1)), (2, .int (xs 2)), (3, .int (xs 3)), (4, .int (xs 4)), (5, .int (xs 5))]) h_m258 (z_at.mk 3 rfl rfl) rfl (u := .ref 144) rfl rfl rfl ?_
                          refine w_p h_m258 7 (pc' := 80) (L' := [(6, .int (300 : Int32)), (0, .ref 143), (1, .int (xs 1)), (2, .int (xs 2)), (3, .int (xs 3)), (4, .int (xs 4)), (5, .int (xs 5))]) (st' := [.int (xs 5), .int (xs 4), .int (xs 3), .int (xs 2), .int (301 : Int32), .ref 144]) rfl ?_
                          refine w_cs (As := [.ref 144, .int (301 : Int32), .int (xs 2), .int (xs 3), .int (xs 4), .int (xs 5)]) (rest := []) (j := 165) (L0 := [(0, .ref 144), (1, .int (301 : Int32)), (2, .int (xs 2)), (3, .int (xs 3)), (4, .int (xs 4)), (5, .int (xs 5))]) (pc' := 83) (L' := [(6, .int (300 : Int32)), (0, .ref 143), (1, .int (xs 1)), (2, .int (xs 2)), (3, .int (xs 3)), (4, .int (xs 4)), (5, .int (xs 5))]) h_m258 (z_at.mk 3 rfl rfl) (Or.inl ⟨rfl, rfl⟩) rfl rfl rfl rfl rfl ?_
                          refine w_p h_m165 3 (pc' := 3) (L' := [(0, .ref 144), (1, .int (301 : Int32)), (2, .int (xs 2)), (3, .int (xs 3)), (4, .int (xs 4)), (5, .int (xs 5))]) (st' := [.int (xs 2), .int (301 : Int32), .ref 144]) rfl ?_
                          refine w_as H (t := 0) (j := 301) (u := .int (xs 2)) (0, 2740, [(301, .int (xs 2)), (300, .int (xs 1)), (17, .int (1024 : Int32)), (16, .int (1 : Int32)), (15, .int (1 : Int32)), (13, .int (12 : Int32)), (12, .int (40 : Int32)), (11, .int (10 : Int32))], some (.int (0 : Int32))) (pc' := 4) (L' := [(0, .ref 144), (1, .int (301 : Int32)), (2, .int (xs 2)), (3, .int (xs 3)), (4, .int (xs 4)), (5, .int (xs 5))]) h_m165 (z_at.mk 1 rfl rfl) rfl rfl (w_ui _ _ (by decide)) rfl rfl rfl rfl ?_
                          clear H m; intro m H
                          refine w_p h_m165 5 (pc' := 9) (L' := [(0, .ref 144), (1, .int (301 : Int32)), (2, .int (xs 2)), (3, .int (xs 3)), (4, .int (xs 4)), (5, .int (xs 5))]) (st' := [.int (xs 3), .int (302 : Int32), .ref 144]) rfl ?_
                          refine w_as H (t := 0) (j := 302) (u := .int (xs 3)) (0, 2740, [(302, .int (xs 3)), (301, .int (xs 2)), (300, .int (xs 1)), (17, .int (1024 : Int32)), (16, .int (1 : Int32)), (15, .int (1 : Int32)), (13, .int (12 : Int32)), (12, .int (40 : Int32)), (11, .int (10 : Int32))], some (.int (0 : Int32))) (pc' := 10) (L' := [(0, .ref 144), (1, .int (301 : Int32)), (2, .int (xs 2)), (3, .int (xs 3)), (4, .int (xs 4)), (5, .int (xs 5))]) h_m165 (z_at.mk 1 rfl rfl) rfl rfl (w_ui _ _ (by decide)) rfl rfl rfl rfl ?_
                          clear H m; intro m H
                          refine w_p h_m165 5 (pc' := 16) (L' := [(0, .ref 144), (1, .int (301 : Int32)), (2, .int (xs 2)), (3, .int (xs 3)), (4, .int (xs 4)), (5, .int (xs 5))]) (st' := [.int (xs 4), .int (303 : Int32), .ref 144]) rfl ?_
                          refine w_as H (t := 0) (j := 303) (u := .int (xs 4)) (0, 2740, [(303, .int (xs 4)), (302, .int (xs 3)), (301, .int (xs 2)), (300, .int (xs 1)), (17, .int (1024 : Int32)), (16, .int (1 : Int32)), (15, .int (1 : Int32)), (13, .int (12 : Int32)), (12, .int (40 : Int32)), (11, .int (10 : Int32))], some (.int (0 : Int32))) (pc' := 17) (L' := [(0, .ref 144), (1, .int (301 : Int32)), (2, .int (xs 2)), (3, .int (xs 3)), (4, .int (xs 4)), (5, .int (xs 5))]) h_m165 (z_at.mk 1 rfl rfl) rfl rfl (w_ui _ _ (by decide)) rfl rfl rfl rfl ?_
                          clear H m; intro m H
                          refine w_p h_m165 5 (pc' := 23) (L' := [(0, .ref 144), (1, .int (301 : Int32)), (2, .int (xs 2)), (3, .int (xs 3)), (4, .int (xs 4)), (5, .int (xs 5))]) (st' := [.int (xs 5), .int (304 : Int32), .ref 144]) rfl ?_
                          refine w_as H (t := 0) (j := 304) (u := .int (xs 5)) (0, 2740, [(304, .int (xs 5)), (303, .int (xs 4)), (302, .int (xs 3)), (301, .int (xs 2)), (300, .int (xs 1)), (17, .int (1024 : Int32)), (16, .int (1 : Int32)), (15, .int (1 : Int32)), (13, .int (12 : Int32)), (12, .int (40 : Int32)), (11, .int (10 : Int32))], some (.int (0 : Int32))) (pc' := 24) (L' := [(0, .ref 144), (1, .int (301 : Int32)), (2, .int (xs 2)), (3, .int (xs 3)), (4, .int (xs 4)), (5, .int (xs 5))]) h_m165 (z_at.mk 1 rfl rfl) rfl rfl (w_ui _ _ (by decide)) rfl rfl rfl rfl ?_
                          clear H m; intro m H
                          refine w_rv h_m165 (z_at.mk 1 rfl rfl) rfl ?_
                          show z_W 999 258 83 [(6, .int (300 : Int32)), (0, .ref 143), (1, .int (xs 1)), (2, .int (xs 2)), (3, .int (xs 3)), (4, .int (xs 4)), (5, .int (xs 5))] [] m _
                          refine w_p h_m258 1 (pc' := 84) (L' := [(6, .int (300 : Int32)), (0, .ref 143), (1, .int (xs 1)), (2, .int (xs 2)), (3, .int (xs 3)), (4, .int (xs 4)), (5, .int (xs 5))]) (st' := [.ref 143]) rfl ?_
                          refine w_gf H (pc' := 87) (L' := [(6, .int (300 : Int32)), (0, .ref 143), (1, .int (xs 1)), (2, .int (xs 2)), (3, .int (xs 3)), (4, .int (xs 4)), (5, .int (xs 5))]) h_m258 (z_at.mk 3 rfl rfl) rfl (u := .ref 144) rfl rfl rfl ?_
                          refine w_p h_m258 4 (pc' := 92) (L' := [(6, .int (300 : Int32)), (0, .ref 143), (1, .int (xs 1)), (2, .int (xs 2)), (3, .int (xs 3)), (4, .int (xs 4)), (5, .int (xs 5))]) (st' := [.int (0 : Int32), .int (305 : Int32), .ref 144]) rfl ?_
                          refine w_as H (t := 0) (j := 305) (u := .int (0 : Int32)) (0, 2740, [(305, .int (0 : Int32)), (304, .int (xs 5)), (303, .int (xs 4)), (302, .int (xs 3)), (301, .int (xs 2)), (300, .int (xs 1)), (17, .int (1024 : Int32)), (16, .int (1 : Int32)), (15, .int (1 : Int32)), (13, .int (12 : Int32)), (12, .int (40 : Int32)), (11, .int (10 : Int32))], some (.int (0 : Int32))) (pc' := 93) (L' := [(6, .int (300 : Int32)), (0, .ref 143), (1, .int (xs 1)), (2, .int (xs 2)), (3, .int (xs 3)), (4, .int (xs 4)), (5, .int (xs 5))]) h_m258 (z_at.mk 1 rfl rfl) rfl rfl (w_ui _ _ (by decide)) rfl rfl rfl rfl ?_
                          clear H m; intro m H
                          refine w_p h_m258 1 (pc' := 94) (L' := [(6, .int (300 : Int32)), (0, .ref 143), (1, .int (xs 1)), (2, .int (xs 2)), (3, .int (xs 3)), (4, .int (xs 4)), (5, .int (xs 5))]) (st' := [.ref 143]) rfl ?_
                          refine w_gf H (pc' := 97) (L' := [(6, .int (300 : Int32)), (0, .ref 143), (1, .int (xs 1)), (2, .int (xs 2)), (3, .int (xs 3)), (4, .int (xs 4)), (5, .int (xs 5))]) h_m258 (z_at.mk 3 rfl rfl) rfl (u := .ref 144) rfl rfl rfl ?_
                          refine w_p h_m258 2 (pc' := 100) (L' := [(6, .int (300 : Int32)), (0, .ref 143), (1, .int (xs 1)), (2, .int (xs 2)), (3, .int (xs 3)), (4, .int (xs 4)), (5, .int (xs 5))]) (st' := [.int (10 : Int32), .ref 144, .int (10 : Int32), .ref 144]) rfl ?_
                          refine w_al H (t := 0) (j := 10) (pc' := 101) (L' := [(6, .int (300 : Int32)), (0, .ref 143), (1, .int (xs 1)), (2, .int (xs 2)), (3, .int (xs 3)), (4, .int (xs 4)), (5, .int (xs 5))]) h_m258 (z_at.mk 1 rfl rfl) rfl rfl rfl (u := .int (0 : Int32)) rfl rfl rfl ?_
                          refine w_p h_m258 2 (pc' := 103) (L' := [(6, .int (300 : Int32)), (0, .ref 143), (1, .int (xs 1)), (2, .int (xs 2)), (3, .int (xs 3)), (4, .int (xs 4)), (5, .int (xs 5))]) (st' := [.int (1 : Int32), .int (10 : Int32), .ref 144]) rfl ?_
                          refine w_as H (t := 0) (j := 10) (u := .int (1 : Int32)) (0, 2740, [(10, .int (1 : Int32)), (305, .int (0 : Int32)), (304, .int (xs 5)), (303, .int (xs 4)), (302, .int (xs 3)), (301, .int (xs 2)), (300, .int (xs 1)), (17, .int (1024 : Int32)), (16, .int (1 : Int32)), (15, .int (1 : Int32)), (13, .int (12 : Int32)), (12, .int (40 : Int32)), (11, .int (10 : Int32))], some (.int (0 : Int32))) (pc' := 104) (L' := [(6, .int (300 : Int32)), (0, .ref 143), (1, .int (xs 1)), (2, .int (xs 2)), (3, .int (xs 3)), (4, .int (xs 4)), (5, .int (xs 5))]) h_m258 (z_at.mk 1 rfl rfl) rfl rfl (w_ui _ _ (by decide)) rfl rfl rfl rfl ?_
                          clear H m; intro m H
                          refine w_p h_m258 1 (pc' := 105) (L' := [(6, .int (300 : Int32)), (0, .ref 143), (1, .int (xs 1)), (2, .int (xs 2)), (3, .int (xs 3)), (4, .int (xs 4)), (5, .int (xs 5))]) (st' := [.ref 143]) rfl ?_
                          refine w_gf H (pc' := 108) (L' := [(6, .int (300 : Int32)), (0, .ref 143), (1, .int (xs 1)), (2, .int (xs 2)), (3, .int (xs 3)), (4, .int (xs 4)), (5, .int (xs 5))]) h_m258 (z_at.mk 3 rfl rfl) rfl (u := .ref 144) rfl rfl rfl ?_
                          refine w_p h_m258 1 (pc' := 110) (L' := [(6, .int (300 : Int32)), (0, .ref 143), (1, .int (xs 1)), (2, .int (xs 2)), (3, .int (xs 3)), (4, .int (xs 4)), (5, .int (xs 5))]) (st' := [.int (10 : Int32), .ref 144]) rfl ?_
                          refine w_al H (t := 0) (j := 10) (pc' := 111) (L' := [(6, .int (300 : Int32)), (0, .ref 143), (1, .int (xs 1)), (2, .int (xs 2)), (3, .int (xs 3)), (4, .int (xs 4)), (5, .int (xs 5))]) h_m258 (z_at.mk 1 rfl rfl) rfl rfl rfl (u := .int (1 : Int32)) rfl rfl rfl ?_
                          refine w_p h_m258 2 (pc' := 113) (L' := [(6, .int (300 : Int32)), (0, .ref 143), (1, .int (xs 1)), (2, .int (xs 2)), (3, .int (xs 3)), (4, .int (xs 4)), (5, .int (xs 5))]) (st' := [.int (0 : Int32)]) rfl ?_
                          refine w_ri h_m258 (z_at.mk 1 rfl rfl) rfl rfl ?_
                          show z_W 1000 1000 1027 [(0, .ref 0), (1, .ref 39), (2, .ref 143), (3, .int (0 : Int32))] [.int (0 : Int32), .int (0 : Int32)] m _
                          refine w_p h_m1000 5 (pc' := 20) (L' := [(0, .ref 0), (1, .ref 39), (2, .ref 143), (3, .int (6 : Int32))]) (st' := [.ref 0, .int (6 : Int32)]) rfl ?_
                          refine w_lene H (x := (6 : Int32)) (pc' := 21) (L' := [(0, .ref 0), (1, .ref 39), (2, .ref 143), (3, .int (6 : Int32))]) h_m1000 (z_at.mk 1 rfl rfl) (by decide) rfl (by decide) rfl rfl rfl ?_
                          refine w_p h_m1000 4 (pc' := 1381) (L' := [(0, .ref 0), (1, .ref 39), (2, .ref 143), (3, .int (6 : Int32))]) (st' := [.int (1 : Int32)]) rfl ?_
                          refine w_ri h_m1000 (z_at.mk 1 rfl rfl) rfl rfl ?_
                          exact hQ _ _ _ _ H (by decide) (by decide)
                        · refine w_t2 (pc' := 30) (L' := []) h_m1 (z_at.mk 3 rfl rfl) rfl (zc (a := (xs 4).toInt) (b := (xs 5).toInt) rfl rfl (decide_eq_true (by omega))) rfl rfl ?_
                          refine w_p h_m1 1 (pc' := 31) (L' := []) (st' := [.int (0 : Int32)]) rfl ?_
                          refine w_ri h_m1 (z_at.mk 1 rfl rfl) rfl rfl ?_
                          show z_W 999 147 18 [(0, .ref 39), (1, .int (xs 1)), (2, .int (xs 2)), (3, .int (xs 3)), (4, .int (xs 4)), (5, .int (xs 5))] [.int (0 : Int32)] m _
                          refine w_p h_m147 2 (pc' := 23) (L' := [(0, .ref 39), (1, .int (xs 1)), (2, .int (xs 2)), (3, .int (xs 3)), (4, .int (xs 4)), (5, .int (xs 5))]) (st' := [.int (-2 : Int32)]) rfl ?_
                          refine w_ri h_m147 (z_at.mk 1 rfl rfl) rfl rfl ?_
                          show z_W 1000 1000 998 [(0, .ref 0), (1, .ref 39), (2, .ref 143), (3, .int (0 : Int32))] [.int (-2 : Int32)] m _
                          refine w_p h_m1000 5 (pc' := 1003) (L' := [(0, .ref 0), (1, .ref 39), (2, .ref 143), (3, .int (0 : Int32))]) (st' := [.int (1 : Int32), .ref 0, .ref 143, .int (-2 : Int32)]) rfl ?_
                          refine w_ae H (j := 1) (pc' := 1004) (L' := [(0, .ref 0), (1, .ref 39), (2, .ref 143), (3, .int (0 : Int32))]) h_m1000 (z_at.mk 1 rfl rfl) rfl rfl rfl (by decide) rfl (by decide) rfl rfl rfl ?_
                          refine w_p h_m1000 4 (pc' := 1008) (L' := [(0, .ref 0), (1, .ref 39), (2, .ref 143), (3, .int (0 : Int32))]) (st' := [.int (2 : Int32), .ref 0, .int (xs 1), .ref 143, .int (-2 : Int32)]) rfl ?_
                          refine w_ae H (j := 2) (pc' := 1009) (L' := [(0, .ref 0), (1, .ref 39), (2, .ref 143), (3, .int (0 : Int32))]) h_m1000 (z_at.mk 1 rfl rfl) rfl rfl rfl (by decide) rfl (by decide) rfl rfl rfl ?_
                          refine w_p h_m1000 4 (pc' := 1013) (L' := [(0, .ref 0), (1, .ref 39), (2, .ref 143), (3, .int (0 : Int32))]) (st' := [.int (3 : Int32), .ref 0, .int (xs 2), .int (xs 1), .ref 143, .int (-2 : Int32)]) rfl ?_
                          refine w_ae H (j := 3) (pc' := 1014) (L' := [(0, .ref 0), (1, .ref 39), (2, .ref 143), (3, .int (0 : Int32))]) h_m1000 (z_at.mk 1 rfl rfl) rfl rfl rfl (by decide) rfl (by decide) rfl rfl rfl ?_
                          refine w_p h_m1000 4 (pc' := 1018) (L' := [(0, .ref 0), (1, .ref 39), (2, .ref 143), (3, .int (0 : Int32))]) (st' := [.int (4 : Int32), .ref 0, .int (xs 3), .int (xs 2), .int (xs 1), .ref 143, .int (-2 : Int32)]) rfl ?_
                          refine w_ae H (j := 4) (pc' := 1019) (L' := [(0, .ref 0), (1, .ref 39), (2, .ref 143), (3, .int (0 : Int32))]) h_m1000 (z_at.mk 1 rfl rfl) rfl rfl rfl (by decide) rfl (by decide) rfl rfl rfl ?_
                          refine w_p h_m1000 4 (pc' := 1023) (L' := [(0, .ref 0), (1, .ref 39), (2, .ref 143), (3, .int (0 : Int32))]) (st' := [.int (5 : Int32), .ref 0, .int (xs 4), .int (xs 3), .int (xs 2), .int (xs 1), .ref 143, .int (-2 : Int32)]) rfl ?_
                          refine w_ae H (j := 5) (pc' := 1024) (L' := [(0, .ref 0), (1, .ref 39), (2, .ref 143), (3, .int (0 : Int32))]) h_m1000 (z_at.mk 1 rfl rfl) rfl rfl rfl (by decide) rfl (by decide) rfl rfl rfl ?_
                          refine w_cv (H.t rfl) (pc' := 1027) (L' := [(0, .ref 0), (1, .ref 39), (2, .ref 143), (3, .int (0 : Int32))]) (rest := [.int (-2 : Int32)]) (Ps := [.int (xs 1), .int (xs 2), .int (xs 3), .int (xs 4), .int (xs 5)]) (L0 := [(0, .ref 143), (1, .int (xs 1)), (2, .int (xs 2)), (3, .int (xs 3)), (4, .int (xs 4)), (5, .int (xs 5))]) h_m1000 (z_at.mk 3 rfl rfl) (Or.inl ⟨rfl, rfl⟩) rfl rfl (by decide) (by decide) rfl rfl rfl rfl rfl rfl (by decide) rfl rfl rfl ?_
                          refine w_p h_m258 3 (pc' := 4) (L' := [(0, .ref 143), (1, .int (xs 1)), (2, .int (xs 2)), (3, .int (xs 3)), (4, .int (xs 4)), (5, .int (xs 5))]) (st' := [.int (6 : Int32), .int (0 : Int32), .int (xs 1)]) rfl ?_
                          refine w_cs (As := [.int (xs 1), .int (0 : Int32), .int (6 : Int32)]) (rest := []) (j := 159) (L0 := [(0, .int (xs 1)), (1, .int (0 : Int32)), (2, .int (6 : Int32))]) (pc' := 7) (L' := [(0, .ref 143), (1, .int (xs 1)), (2, .int (xs 2)), (3, .int (xs 3)), (4, .int (xs 4)), (5, .int (xs 5))]) h_m258 (z_at.mk 3 rfl rfl) (Or.inl ⟨rfl, rfl⟩) rfl rfl rfl rfl rfl ?_
                          refine w_p h_m159 2 (pc' := 2) (L' := [(0, .int (xs 1)), (1, .int (0 : Int32)), (2, .int (6 : Int32))]) (st' := [.int (0 : Int32), .int (xs 1)]) rfl ?_
                          refine w_f2 (pc' := 5) (L' := [(0, .int (xs 1)), (1, .int (0 : Int32)), (2, .int (6 : Int32))]) h_m159 (z_at.mk 3 rfl rfl) rfl (zc (a := (xs 1).toInt) (b := 0) rfl rfl (decide_eq_false (by omega))) rfl rfl ?_
                          refine w_p h_m159 2 (pc' := 7) (L' := [(0, .int (xs 1)), (1, .int (0 : Int32)), (2, .int (6 : Int32))]) (st' := [.int (6 : Int32), .int (xs 1)]) rfl ?_
                          refine w_f2 (pc' := 10) (L' := [(0, .int (xs 1)), (1, .int (0 : Int32)), (2, .int (6 : Int32))]) h_m159 (z_at.mk 3 rfl rfl) rfl (zc (a := (xs 1).toInt) (b := 6) rfl rfl (decide_eq_false (by omega))) rfl rfl ?_
                          refine w_p h_m159 2 (pc' := 15) (L' := []) (st' := [.int (1 : Int32)]) rfl ?_
                          refine w_ri h_m159 (z_at.mk 1 rfl rfl) rfl rfl ?_
                          show z_W 999 258 7 [(0, .ref 143), (1, .int (xs 1)), (2, .int (xs 2)), (3, .int (xs 3)), (4, .int (xs 4)), (5, .int (xs 5))] [.int (1 : Int32)] m _
                          refine w_p h_m258 5 (pc' := 18) (L' := [(0, .ref 143), (1, .int (xs 1)), (2, .int (xs 2)), (3, .int (xs 3)), (4, .int (xs 4)), (5, .int (xs 5))]) (st' := [.int (xs 5), .int (xs 4), .int (xs 3), .int (xs 2)]) rfl ?_
                          refine w_cs (As := [.int (xs 2), .int (xs 3), .int (xs 4), .int (xs 5)]) (rest := []) (j := 164) (L0 := [(0, .int (xs 2)), (1, .int (xs 3)), (2, .int (xs 4)), (3, .int (xs 5))]) (pc' := 21) (L' := [(0, .ref 143), (1, .int (xs 1)), (2, .int (xs 2)), (3, .int (xs 3)), (4, .int (xs 4)), (5, .int (xs 5))]) h_m258 (z_at.mk 3 rfl rfl) (Or.inl ⟨rfl, rfl⟩) rfl rfl rfl rfl rfl ?_
                          refine w_p h_m164 3 (pc' := 4) (L' := [(0, .int (xs 2)), (1, .int (xs 3)), (2, .int (xs 4)), (3, .int (xs 5))]) (st' := [.int (31 : Int32), .int (0 : Int32), .int (xs 2)]) rfl ?_
                          refine w_cs (As := [.int (xs 2), .int (0 : Int32), .int (31 : Int32)]) (rest := []) (j := 159) (L0 := [(0, .int (xs 2)), (1, .int (0 : Int32)), (2, .int (31 : Int32))]) (pc' := 7) (L' := [(0, .int (xs 2)), (1, .int (xs 3)), (2, .int (xs 4)), (3, .int (xs 5))]) h_m164 (z_at.mk 3 rfl rfl) (Or.inl ⟨rfl, rfl⟩) rfl rfl rfl rfl rfl ?_
                          refine w_p h_m159 2 (pc' := 2) (L' := [(0, .int (xs 2)), (1, .int (0 : Int32)), (2, .int (31 : Int32))]) (st' := [.int (0 : Int32), .int (xs 2)]) rfl ?_
                          refine w_f2 (pc' := 5) (L' := [(0, .int (xs 2)), (1, .int (0 : Int32)), (2, .int (31 : Int32))]) h_m159 (z_at.mk 3 rfl rfl) rfl (zc (a := (xs 2).toInt) (b := 0) rfl rfl (decide_eq_false (by omega))) rfl rfl ?_
                          refine w_p h_m159 2 (pc' := 7) (L' := [(0, .int (xs 2)), (1, .int (0 : Int32)), (2, .int (31 : Int32))]) (st' := [.int (31 : Int32), .int (xs 2)]) rfl ?_
                          refine w_f2 (pc' := 10) (L' := [(0, .int (xs 2)), (1, .int (0 : Int32)), (2, .int (31 : Int32))]) h_m159 (z_at.mk 3 rfl rfl) rfl (zc (a := (xs 2).toInt) (b := 31) rfl rfl (decide_eq_false (by omega))) rfl rfl ?_
                          refine w_p h_m159 2 (pc' := 15) (L' := []) (st' := [.int (1 : Int32)]) rfl ?_
                          refine w_ri h_m159 (z_at.mk 1 rfl rfl) rfl rfl ?_
                          show z_W 998 164 7 [(0, .int (xs 2)), (1, .int (xs 3)), (2, .int (xs 4)), (3, .int (xs 5))] [.int (1 : Int32)] m _
                          refine w_p h_m164 4 (pc' := 14) (L' := [(0, .int (xs 2)), (1, .int (xs 3)), (2, .int (xs 4)), (3, .int (xs 5))]) (st' := [.int (31 : Int32), .int (xs 2), .int (xs 3)]) rfl ?_
                          refine w_cs (As := [.int (xs 3), .int (xs 2), .int (31 : Int32)]) (rest := []) (j := 159) (L0 := [(0, .int (xs 3)), (1, .int (xs 2)), (2, .int (31 : Int32))]) (pc' := 17) (L' := [(0, .int (xs 2)), (1, .int (xs 3)), (2, .int (xs 4)), (3, .int (xs 5))]) h_m164 (z_at.mk 3 rfl rfl) (Or.inl ⟨rfl, rfl⟩) rfl rfl rfl rfl rfl ?_
                          refine w_p h_m159 2 (pc' := 2) (L' := [(0, .int (xs 3)), (1, .int (xs 2)), (2, .int (31 : Int32))]) (st' := [.int (xs 2), .int (xs 3)]) rfl ?_
                          refine w_f2 (pc' := 5) (L' := [(0, .int (xs 3)), (1, .int (xs 2)), (2, .int (31 : Int32))]) h_m159 (z_at.mk 3 rfl rfl) rfl (zc (a := (xs 3).toInt) (b := (xs 2).toInt) rfl rfl (decide_eq_false (by omega))) rfl rfl ?_
                          refine w_p h_m159 2 (pc' := 7) (L' := [(0, .int (xs 3)), (1, .int (xs 2)), (2, .int (31 : Int32))]) (st' := [.int (31 : Int32), .int (xs 3)]) rfl ?_
                          refine w_f2 (pc' := 10) (L' := [(0, .int (xs 3)), (1, .int (xs 2)), (2, .int (31 : Int32))]) h_m159 (z_at.mk 3 rfl rfl) rfl (zc (a := (xs 3).toInt) (b := 31) rfl rfl (decide_eq_false (by omega))) rfl rfl ?_
                          refine w_p h_m159 2 (pc' := 15) (L' := []) (st' := [.int (1 : Int32)]) rfl ?_
                          refine w_ri h_m159 (z_at.mk 1 rfl rfl) rfl rfl ?_
                          show z_W 998 164 17 [(0, .int (xs 2)), (1, .int (xs 3)), (2, .int (xs 4)), (3, .int (xs 5))] [.int (1 : Int32)] m _
                          refine w_p h_m164 4 (pc' := 24) (L' := [(0, .int (xs 2)), (1, .int (xs 3)), (2, .int (xs 4)), (3, .int (xs 5))]) (st' := [.int (31 : Int32), .int (0 : Int32), .int (xs 4)]) rfl ?_
                          refine w_cs (As := [.int (xs 4), .int (0 : Int32), .int (31 : Int32)]) (rest := []) (j := 159) (L0 := [(0, .int (xs 4)), (1, .int (0 : Int32)), (2, .int (31 : Int32))]) (pc' := 27) (L' := [(0, .int (xs 2)), (1, .int (xs 3)), (2, .int (xs 4)), (3, .int (xs 5))]) h_m164 (z_at.mk 3 rfl rfl) (Or.inl ⟨rfl, rfl⟩) rfl rfl rfl rfl rfl ?_
                          refine w_p h_m159 2 (pc' := 2) (L' := [(0, .int (xs 4)), (1, .int (0 : Int32)), (2, .int (31 : Int32))]) (st' := [.int (0 : Int32), .int (xs 4)]) rfl ?_
                          refine w_f2 (pc' := 5) (L' := [(0, .int (xs 4)), (1, .int (0 : Int32)), (2, .int (31 : Int32))]) h_m159 (z_at.mk 3 rfl rfl) rfl (zc (a := (xs 4).toInt) (b := 0) rfl rfl (decide_eq_false (by omega))) rfl rfl ?_
                          refine w_p h_m159 2 (pc' := 7) (L' := [(0, .int (xs 4)), (1, .int (0 : Int32)), (2, .int (31 : Int32))]) (st' := [.int (31 : Int32), .int (xs 4)]) rfl ?_
                          refine w_f2 (pc' := 10) (L' := [(0, .int (xs 4)), (1, .int (0 : Int32)), (2, .int (31 : Int32))]) h_m159 (z_at.mk 3 rfl rfl) rfl (zc (a := (xs 4).toInt) (b := 31) rfl rfl (decide_eq_false (by omega))) rfl rfl ?_
                          refine w_p h_m159 2 (pc' := 15) (L' := []) (st' := [.int (1 : Int32)]) rfl ?_
                          refine w_ri h_m159 (z_at.mk 1 rfl rfl) rfl rfl ?_
                          show z_W 998 164 27 [(0, .int (xs 2)), (1, .int (xs 3)), (2, .int (xs 4)), (3, .int (xs 5))] [.int (1 : Int32)] m _
                          refine w_p h_m164 4 (pc' := 34) (L' := [(0, .int (xs 2)), (1, .int (xs 3)), (2, .int (xs 4)), (3, .int (xs 5))]) (st' := [.int (31 : Int32), .int (xs 4), .int (xs 5)]) rfl ?_
                          refine w_cs (As := [.int (xs 5), .int (xs 4), .int (31 : Int32)]) (rest := []) (j := 159) (L0 := [(0, .int (xs 5)), (1, .int (xs 4)), (2, .int (31 : Int32))]) (pc' := 37) (L' := [(0, .int (xs 2)), (1, .int (xs 3)), (2, .int (xs 4)), (3, .int (xs 5))]) h_m164 (z_at.mk 3 rfl rfl) (Or.inl ⟨rfl, rfl⟩) rfl rfl rfl rfl rfl ?_
                          refine w_p h_m159 2 (pc' := 2) (L' := [(0, .int (xs 5)), (1, .int (xs 4)), (2, .int (31 : Int32))]) (st' := [.int (xs 4), .int (xs 5)]) rfl ?_
                          refine w_t2 (pc' := 14) (L' := []) h_m159 (z_at.mk 3 rfl rfl) rfl (zc (a := (xs 5).toInt) (b := (xs 4).toInt) rfl rfl (decide_eq_true (by omega))) rfl rfl ?_
                          refine w_p h_m159 1 (pc' := 15) (L' := []) (st' := [.int (0 : Int32)]) rfl ?_
                          refine w_ri h_m159 (z_at.mk 1 rfl rfl) rfl rfl ?_
                          show z_W 998 164 37 [(0, .int (xs 2)), (1, .int (xs 3)), (2, .int (xs 4)), (3, .int (xs 5))] [.int (0 : Int32)] m _
                          refine w_p h_m164 2 (pc' := 45) (L' := []) (st' := [.int (0 : Int32)]) rfl ?_
                          refine w_ri h_m164 (z_at.mk 1 rfl rfl) rfl rfl ?_
                          show z_W 999 258 21 [(0, .ref 143), (1, .int (xs 1)), (2, .int (xs 2)), (3, .int (xs 3)), (4, .int (xs 4)), (5, .int (xs 5))] [.int (0 : Int32)] m _
                          refine w_p h_m258 2 (pc' := 26) (L' := [(0, .ref 143), (1, .int (xs 1)), (2, .int (xs 2)), (3, .int (xs 3)), (4, .int (xs 4)), (5, .int (xs 5))]) (st' := [.int (-2 : Int32)]) rfl ?_
                          refine w_ri h_m258 (z_at.mk 1 rfl rfl) rfl rfl ?_
                          show z_W 1000 1000 1027 [(0, .ref 0), (1, .ref 39), (2, .ref 143), (3, .int (0 : Int32))] [.int (-2 : Int32), .int (-2 : Int32)] m _
                          refine w_p h_m1000 5 (pc' := 20) (L' := [(0, .ref 0), (1, .ref 39), (2, .ref 143), (3, .int (6 : Int32))]) (st' := [.ref 0, .int (6 : Int32)]) rfl ?_
                          refine w_lene H (x := (6 : Int32)) (pc' := 21) (L' := [(0, .ref 0), (1, .ref 39), (2, .ref 143), (3, .int (6 : Int32))]) h_m1000 (z_at.mk 1 rfl rfl) (by decide) rfl (by decide) rfl rfl rfl ?_
                          refine w_p h_m1000 4 (pc' := 1381) (L' := [(0, .ref 0), (1, .ref 39), (2, .ref 143), (3, .int (6 : Int32))]) (st' := [.int (1 : Int32)]) rfl ?_
                          refine w_ri h_m1000 (z_at.mk 1 rfl rfl) rfl rfl ?_
                          exact hQ _ _ _ _ H (by decide) (by decide)
                      · refine w_t2 (pc' := 30) (L' := []) h_m1 (z_at.mk 3 rfl rfl) rfl (zc (a := (xs 2).toInt) (b := (xs 3).toInt) rfl rfl (decide_eq_true (by omega))) rfl rfl ?_
                        refine w_p h_m1 1 (pc' := 31) (L' := []) (st' := [.int (0 : Int32)]) rfl ?_
                        refine w_ri h_m1 (z_at.mk 1 rfl rfl) rfl rfl ?_
                        show z_W 999 147 18 [(0, .ref 39), (1, .int (xs 1)), (2, .int (xs 2)), (3, .int (xs 3)), (4, .int (xs 4)), (5, .int (xs 5))] [.int (0 : Int32)] m _
                        refine w_p h_m147 2 (pc' := 23) (L' := [(0, .ref 39), (1, .int (xs 1)), (2, .int (xs 2)), (3, .int (xs 3)), (4, .int (xs 4)), (5, .int (xs 5))]) (st' := [.int (-2 : Int32)]) rfl ?_
                        refine w_ri h_m147 (z_at.mk 1 rfl rfl) rfl rfl ?_
                        show z_W 1000 1000 998 [(0, .ref 0), (1, .ref 39), (2, .ref 143), (3, .int (0 : Int32))] [.int (-2 : Int32)] m _
                        refine w_p h_m1000 5 (pc' := 1003) (L' := [(0, .ref 0), (1, .ref 39), (2, .ref 143), (3, .int (0 : Int32))]) (st' := [.int (1 : Int32), .ref 0, .ref 143, .int (-2 : Int32)]) rfl ?_
                        refine w_ae H (j := 1) (pc' := 1004) (L' := [(0, .ref 0), (1, .ref 39), (2, .ref 143), (3, .int (0 : Int32))]) h_m1000 (z_at.mk 1 rfl rfl) rfl rfl rfl (by decide) rfl (by decide) rfl rfl rfl ?_
                        refine w_p h_m1000 4 (pc' := 1008) (L' := [(0, .ref 0), (1, .ref 39), (2, .ref 143), (3, .int (0 : Int32))]) (st' := [.int (2 : Int32), .ref 0, .int (xs 1), .ref 143, .int (-2 : Int32)]) rfl ?_
                        refine w_ae H (j := 2) (pc' := 1009) (L' := [(0, .ref 0), (1, .ref 39), (2, .ref 143), (3, .int (0 : Int32))]) h_m1000 (z_at.mk 1 rfl rfl) rfl rfl rfl (by decide) rfl (by decide) rfl rfl rfl ?_
                        refine w_p h_m1000 4 (pc' := 1013) (L' := [(0, .ref 0), (1, .ref 39), (2, .ref 143), (3, .int (0 : Int32))]) (st' := [.int (3 : Int32), .ref 0, .int (xs 2), .int (xs 1), .ref 143, .int (-2 : Int32)]) rfl ?_
                        refine w_ae H (j := 3) (pc' := 1014) (L' := [(0, .ref 0), (1, .ref 39), (2, .ref 143), (3, .int (0 : Int32))]) h_m1000 (z_at.mk 1 rfl rfl) rfl rfl rfl (by decide) rfl (by decide) rfl rfl rfl ?_
                        refine w_p h_m1000 4 (pc' := 1018) (L' := [(0, .ref 0), (1, .ref 39), (2, .ref 143), (3, .int (0 : Int32))]) (st' := [.int (4 : Int32), .ref 0, .int (xs 3), .int (xs 2), .int (xs 1), .ref 143, .int (-2 : Int32)]) rfl ?_
                        refine w_ae H (j := 4) (pc' := 1019) (L' := [(0, .ref 0), (1, .ref 39), (2, .ref 143), (3, .int (0 : Int32))]) h_m1000 (z_at.mk 1 rfl rfl) rfl rfl rfl (by decide) rfl (by decide) rfl rfl rfl ?_
                        refine w_p h_m1000 4 (pc' := 1023) (L' := [(0, .ref 0), (1, .ref 39), (2, .ref 143), (3, .int (0 : Int32))]) (st' := [.int (5 : Int32), .ref 0, .int (xs 4), .int (xs 3), .int (xs 2), .int (xs 1), .ref 143, .int (-2 : Int32)]) rfl ?_
                        refine w_ae H (j := 5) (pc' := 1024) (L' := [(0, .ref 0), (1, .ref 39), (2, .ref 143), (3, .int (0 : Int32))]) h_m1000 (z_at.mk 1 rfl rfl) rfl rfl rfl (by decide) rfl (by decide) rfl rfl rfl ?_
                        refine w_cv (H.t rfl) (pc' := 1027) (L' := [(0, .ref 0), (1, .ref 39), (2, .ref 143), (3, .int (0 : Int32))]) (rest := [.int (-2 : Int32)]) (Ps := [.int (xs 1), .int (xs 2), .int (xs 3), .int (xs 4), .int (xs 5)]) (L0 := [(0, .ref 143), (1, .int (xs 1)), (2, .int (xs 2)), (3, .int (xs 3)), (4, .int (xs 4)), (5, .int (xs 5))]) h_m1000 (z_at.mk 3 rfl rfl) (Or.inl ⟨rfl, rfl⟩) rfl rfl (by decide) (by decide) rfl rfl rfl rfl rfl rfl (by decide) rfl rfl rfl ?_
                        refine w_p h_m258 3 (pc' := 4) (L' := [(0, .ref 143), (1, .int (xs 1)), (2, .int (xs 2)), (3, .int (xs 3)), (4, .int (xs 4)), (5, .int (xs 5))]) (st' := [.int (6 : Int32), .int (0 : Int32), .int (xs 1)]) rfl ?_
                        refine w_cs (As := [.int (xs 1), .int (0 : Int32), .int (6 : Int32)]) (rest := []) (j := 159) (L0 := [(0, .int (xs 1)), (1, .int (0 : Int32)), (2, .int (6 : Int32))]) (pc' := 7) (L' := [(0, .ref 143), (1, .int (xs 1)), (2, .int (xs 2)), (3, .int (xs 3)), (4, .int (xs 4)), (5, .int (xs 5))]) h_m258 (z_at.mk 3 rfl rfl) (Or.inl ⟨rfl, rfl⟩) rfl rfl rfl rfl rfl ?_
                        refine w_p h_m159 2 (pc' := 2) (L' := [(0, .int (xs 1)), (1, .int (0 : Int32)), (2, .int (6 : Int32))]) (st' := [.int (0 : Int32), .int (xs 1)]) rfl ?_
                        refine w_f2 (pc' := 5) (L' := [(0, .int (xs 1)), (1, .int (0 : Int32)), (2, .int (6 : Int32))]) h_m159 (z_at.mk 3 rfl rfl) rfl (zc (a := (xs 1).toInt) (b := 0) rfl rfl (decide_eq_false (by omega))) rfl rfl ?_
                        refine w_p h_m159 2 (pc' := 7) (L' := [(0, .int (xs 1)), (1, .int (0 : Int32)), (2, .int (6 : Int32))]) (st' := [.int (6 : Int32), .int (xs 1)]) rfl ?_
                        refine w_f2 (pc' := 10) (L' := [(0, .int (xs 1)), (1, .int (0 : Int32)), (2, .int (6 : Int32))]) h_m159 (z_at.mk 3 rfl rfl) rfl (zc (a := (xs 1).toInt) (b := 6) rfl rfl (decide_eq_false (by omega))) rfl rfl ?_
                        refine w_p h_m159 2 (pc' := 15) (L' := []) (st' := [.int (1 : Int32)]) rfl ?_
                        refine w_ri h_m159 (z_at.mk 1 rfl rfl) rfl rfl ?_
                        show z_W 999 258 7 [(0, .ref 143), (1, .int (xs 1)), (2, .int (xs 2)), (3, .int (xs 3)), (4, .int (xs 4)), (5, .int (xs 5))] [.int (1 : Int32)] m _
                        refine w_p h_m258 5 (pc' := 18) (L' := [(0, .ref 143), (1, .int (xs 1)), (2, .int (xs 2)), (3, .int (xs 3)), (4, .int (xs 4)), (5, .int (xs 5))]) (st' := [.int (xs 5), .int (xs 4), .int (xs 3), .int (xs 2)]) rfl ?_
                        refine w_cs (As := [.int (xs 2), .int (xs 3), .int (xs 4), .int (xs 5)]) (rest := []) (j := 164) (L0 := [(0, .int (xs 2)), (1, .int (xs 3)), (2, .int (xs 4)), (3, .int (xs 5))]) (pc' := 21) (L' := [(0, .ref 143), (1, .int (xs 1)), (2, .int (xs 2)), (3, .int (xs 3)), (4, .int (xs 4)), (5, .int (xs 5))]) h_m258 (z_at.mk 3 rfl rfl) (Or.inl ⟨rfl, rfl⟩) rfl rfl rfl rfl rfl ?_
                        refine w_p h_m164 3 (pc' := 4) (L' := [(0, .int (xs 2)), (1, .int (xs 3)), (2, .int (xs 4)), (3, .int (xs 5))]) (st' := [.int (31 : Int32), .int (0 : Int32), .int (xs 2)]) rfl ?_
                        refine w_cs (As := [.int (xs 2), .int (0 : Int32), .int (31 : Int32)]) (rest := []) (j := 159) (L0 := [(0, .int (xs 2)), (1, .int (0 : Int32)), (2, .int (31 : Int32))]) (pc' := 7) (L' := [(0, .int (xs 2)), (1, .int (xs 3)), (2, .int (xs 4)), (3, .int (xs 5))]) h_m164 (z_at.mk 3 rfl rfl) (Or.inl ⟨rfl, rfl⟩) rfl rfl rfl rfl rfl ?_
                        refine w_p h_m159 2 (pc' := 2) (L' := [(0, .int (xs 2)), (1, .int (0 : Int32)), (2, .int (31 : Int32))]) (st' := [.int (0 : Int32), .int (xs 2)]) rfl ?_
                        refine w_f2 (pc' := 5) (L' := [(0, .int (xs 2)), (1, .int (0 : Int32)), (2, .int (31 : Int32))]) h_m159 (z_at.mk 3 rfl rfl) rfl (zc (a := (xs 2).toInt) (b := 0) rfl rfl (decide_eq_false (by omega))) rfl rfl ?_
                        refine w_p h_m159 2 (pc' := 7) (L' := [(0, .int (xs 2)), (1, .int (0 : Int32)), (2, .int (31 : Int32))]) (st' := [.int (31 : Int32), .int (xs 2)]) rfl ?_
                        refine w_f2 (pc' := 10) (L' := [(0, .int (xs 2)), (1, .int (0 : Int32)), (2, .int (31 : Int32))]) h_m159 (z_at.mk 3 rfl rfl) rfl (zc (a := (xs 2).toInt) (b := 31) rfl rfl (decide_eq_false (by omega))) rfl rfl ?_
                        refine w_p h_m159 2 (pc' := 15) (L' := []) (st' := [.int (1 : Int32)]) rfl ?_
                        refine w_ri h_m159 (z_at.mk 1 rfl rfl) rfl rfl ?_
                        show z_W 998 164 7 [(0, .int (xs 2)), (1, .int (xs 3)), (2, .int (xs 4)), (3, .int (xs 5))] [.int (1 : Int32)] m _
                        refine w_p h_m164 4 (pc' := 14) (L' := [(0, .int (xs 2)), (1, .int (xs 3)), (2, .int (xs 4)), (3, .int (xs 5))]) (st' := [.int (31 : Int32), .int (xs 2), .int (xs 3)]) rfl ?_
                        refine w_cs (As := [.int (xs 3), .int (xs 2), .int (31 : Int32)]) (rest := []) (j := 159) (L0 := [(0, .int (xs 3)), (1, .int (xs 2)), (2, .int (31 : Int32))]) (pc' := 17) (L' := [(0, .int (xs 2)), (1, .int (xs 3)), (2, .int (xs 4)), (3, .int (xs 5))]) h_m164 (z_at.mk 3 rfl rfl) (Or.inl ⟨rfl, rfl⟩) rfl rfl rfl rfl rfl ?_
                        refine w_p h_m159 2 (pc' := 2) (L' := [(0, .int (xs 3)), (1, .int (xs 2)), (2, .int (31 : Int32))]) (st' := [.int (xs 2), .int (xs 3)]) rfl ?_
                        refine w_t2 (pc' := 14) (L' := []) h_m159 (z_at.mk 3 rfl rfl) rfl (zc (a := (xs 3).toInt) (b := (xs 2).toInt) rfl rfl (decide_eq_true (by omega))) rfl rfl ?_
                        refine w_p h_m159 1 (pc' := 15) (L' := []) (st' := [.int (0 : Int32)]) rfl ?_
                        refine w_ri h_m159 (z_at.mk 1 rfl rfl) rfl rfl ?_
                        show z_W 998 164 17 [(0, .int (xs 2)), (1, .int (xs 3)), (2, .int (xs 4)), (3, .int (xs 5))] [.int (0 : Int32)] m _
                        refine w_p h_m164 2 (pc' := 45) (L' := []) (st' := [.int (0 : Int32)]) rfl ?_
                        refine w_ri h_m164 (z_at.mk 1 rfl rfl) rfl rfl ?_
                        show z_W 999 258 21 [(0, .ref 143), (1, .int (xs 1)), (2, .int (xs 2)), (3, .int (xs 3)), (4, .int (xs 4)), (5, .int (xs 5))] [.int (0 : Int32)] m _
                        refine w_p h_m258 2 (pc' := 26) (L' := [(0, .ref 143), (1, .int (xs 1)), (2, .int (xs 2)), (3, .int (xs 3)), (4, .int (xs 4)), (5, .int (xs 5))]) (st' := [.int (-2 : Int32)]) rfl ?_
                        refine w_ri h_m258 (z_at.mk 1 rfl rfl) rfl rfl ?_
                        show z_W 1000 1000 1027 [(0, .ref 0), (1, .ref 39), (2, .ref 143), (3, .int (0 : Int32))] [.int (-2 : Int32), .int (-2 : Int32)] m _
                        refine w_p h_m1000 5 (pc' := 20) (L' := [(0, .ref 0), (1, .ref 39), (2, .ref 143), (3, .int (6 : Int32))]) (st' := [.ref 0, .int (6 : Int32)]) rfl ?_
                        refine w_lene H (x := (6 : Int32)) (pc' := 21) (L' := [(0, .ref 0), (1, .ref 39), (2, .ref 143), (3, .int (6 : Int32))]) h_m1000 (z_at.mk 1 rfl rfl) (by decide) rfl (by decide) rfl rfl rfl ?_
                        refine w_p h_m1000 4 (pc' := 1381) (L' := [(0, .ref 0), (1, .ref 39), (2, .ref 143), (3, .int (6 : Int32))]) (st' := [.int (1 : Int32)]) rfl ?_
                        refine w_ri h_m1000 (z_at.mk 1 rfl rfl) rfl rfl ?_
                        exact hQ _ _ _ _ H (by decide) (by decide)
                    · refine w_t2 (pc' := 24) (L' := []) h_m0 (z_at.mk 3 rfl rfl) rfl (zc (a := (xs 5).toInt) (b := 32) rfl rfl (decide_eq_true (by omega))) rfl rfl ?_
                      refine w_p h_m0 1 (pc' := 25) (L' := []) (st' := [.int (0 : Int32)]) rfl ?_
                      refine w_ri h_m0 (z_at.mk 1 rfl rfl) rfl rfl ?_
                      show z_W 998 1 13 [(0, .int (xs 2)), (1, .int (xs 3)), (2, .int (xs 4)), (3, .int (xs 5))] [.int (0 : Int32)] m _
                      refine w_p h_m1 2 (pc' := 31) (L' := []) (st' := [.int (0 : Int32)]) rfl ?_
                      refine w_ri h_m1 (z_at.mk 1 rfl rfl) rfl rfl ?_
                      show z_W 999 147 18 [(0, .ref 39), (1, .int (xs 1)), (2, .int (xs 2)), (3, .int (xs 3)), (4, .int (xs 4)), (5, .int (xs 5))] [.int (0 : Int32)] m _
                      refine w_p h_m147 2 (pc' := 23) (L' := [(0, .ref 39), (1, .int (xs 1)), (2, .int (xs 2)), (3, .int (xs 3)), (4, .int (xs 4)), (5, .int (xs 5))]) (st' := [.int (-2 : Int32)]) rfl ?_
                      refine w_ri h_m147 (z_at.mk 1 rfl rfl) rfl rfl ?_
                      show z_W 1000 1000 998 [(0, .ref 0), (1, .ref 39), (2, .ref 143), (3, .int (0 : Int32))] [.int (-2 : Int32)] m _
                      refine w_p h_m1000 5 (pc' := 1003) (L' := [(0, .ref 0), (1, .ref 39), (2, .ref 143), (3, .int (0 : Int32))]) (st' := [.int (1 : Int32), .ref 0, .ref 143, .int (-2 : Int32)]) rfl ?_
                      refine w_ae H (j := 1) (pc' := 1004) (L' := [(0, .ref 0), (1, .ref 39), (2, .ref 143), (3, .int (0 : Int32))]) h_m1000 (z_at.mk 1 rfl rfl) rfl rfl rfl (by decide) rfl (by decide) rfl rfl rfl ?_
                      refine w_p h_m1000 4 (pc' := 1008) (L' := [(0, .ref 0), (1, .ref 39), (2, .ref 143), (3, .int (0 : Int32))]) (st' := [.int (2 : Int32), .ref 0, .int (xs 1), .ref 143, .int (-2 : Int32)]) rfl ?_
                      refine w_ae H (j := 2) (pc' := 1009) (L' := [(0, .ref 0), (1, .ref 39), (2, .ref 143), (3, .int (0 : Int32))]) h_m1000 (z_at.mk 1 rfl rfl) rfl rfl rfl (by decide) rfl (by decide) rfl rfl rfl ?_
                      refine w_p h_m1000 4 (pc' := 1013) (L' := [(0, .ref 0), (1, .ref 39), (2, .ref 143), (3, .int (0 : Int32))]) (st' := [.int (3 : Int32), .ref 0, .int (xs 2), .int (xs 1), .ref 143, .int (-2 : Int32)]) rfl ?_
                      refine w_ae H (j := 3) (pc' := 1014) (L' := [(0, .ref 0), (1, .ref 39), (2, .ref 143), (3, .int (0 : Int32))]) h_m1000 (z_at.mk 1 rfl rfl) rfl rfl rfl (by decide) rfl (by decide) rfl rfl rfl ?_
                      refine w_p h_m1000 4 (pc' := 1018) (L' := [(0, .ref 0), (1, .ref 39), (2, .ref 143), (3, .int (0 : Int32))]) (st' := [.int (4 : Int32), .ref 0, .int (xs 3), .int (xs 2), .int (xs 1), .ref 143, .int (-2 : Int32)]) rfl ?_
                      refine w_ae H (j := 4) (pc' := 1019) (L' := [(0, .ref 0), (1, .ref 39), (2, .ref 143), (3, .int (0 : Int32))]) h_m1000 (z_at.mk 1 rfl rfl) rfl rfl rfl (by decide) rfl (by decide) rfl rfl rfl ?_
                      refine w_p h_m1000 4 (pc' := 1023) (L' := [(0, .ref 0), (1, .ref 39), (2, .ref 143), (3, .int (0 : Int32))]) (st' := [.int (5 : Int32), .ref 0, .int (xs 4), .int (xs 3), .int (xs 2), .int (xs 1), .ref 143, .int (-2 : Int32)]) rfl ?_
                      refine w_ae H (j := 5) (pc' := 1024) (L' := [(0, .ref 0), (1, .ref 39), (2, .ref 143), (3, .int (0 : Int32))]) h_m1000 (z_at.mk 1 rfl rfl) rfl rfl rfl (by decide) rfl (by decide) rfl rfl rfl ?_
                      refine w_cv (H.t rfl) (pc' := 1027) (L' := [(0, .ref 0), (1, .ref 39), (2, .ref 143), (3, .int (0 : Int32))]) (rest := [.int (-2 : Int32)]) (Ps := [.int (xs 1), .int (xs 2), .int (xs 3), .int (xs 4), .int (xs 5)]) (L0 := [(0, .ref 143), (1, .int (xs 1)), (2, .int (xs 2)), (3, .int (xs 3)), (4, .int (xs 4)), (5, .int (xs 5))]) h_m1000 (z_at.mk 3 rfl rfl) (Or.inl ⟨rfl, rfl⟩) rfl rfl (by decide) (by decide) rfl rfl rfl rfl rfl rfl (by decide) rfl rfl rfl ?_
                      refine w_p h_m258 3 (pc' := 4) (L' := [(0, .ref 143), (1, .int (xs 1)), (2, .int (xs 2)), (3, .int (xs 3)), (4, .int (xs 4)), (5, .int (xs 5))]) (st' := [.int (6 : Int32), .int (0 : Int32), .int (xs 1)]) rfl ?_
                      refine w_cs (As := [.int (xs 1), .int (0 : Int32), .int (6 : Int32)]) (rest := []) (j := 159) (L0 := [(0, .int (xs 1)), (1, .int (0 : Int32)), (2, .int (6 : Int32))]) (pc' := 7) (L' := [(0, .ref 143), (1, .int (xs 1)), (2, .int (xs 2)), (3, .int (xs 3)), (4, .int (xs 4)), (5, .int (xs 5))]) h_m258 (z_at.mk 3 rfl rfl) (Or.inl ⟨rfl, rfl⟩) rfl rfl rfl rfl rfl ?_
                      refine w_p h_m159 2 (pc' := 2) (L' := [(0, .int (xs 1)), (1, .int (0 : Int32)), (2, .int (6 : Int32))]) (st' := [.int (0 : Int32), .int (xs 1)]) rfl ?_
                      refine w_f2 (pc' := 5) (L' := [(0, .int (xs 1)), (1, .int (0 : Int32)), (2, .int (6 : Int32))]) h_m159 (z_at.mk 3 rfl rfl) rfl (zc (a := (xs 1).toInt) (b := 0) rfl rfl (decide_eq_false (by omega))) rfl rfl ?_
                      refine w_p h_m159 2 (pc' := 7) (L' := [(0, .int (xs 1)), (1, .int (0 : Int32)), (2, .int (6 : Int32))]) (st' := [.int (6 : Int32), .int (xs 1)]) rfl ?_
                      refine w_f2 (pc' := 10) (L' := [(0, .int (xs 1)), (1, .int (0 : Int32)), (2, .int (6 : Int32))]) h_m159 (z_at.mk 3 rfl rfl) rfl (zc (a := (xs 1).toInt) (b := 6) rfl rfl (decide_eq_false (by omega))) rfl rfl ?_
                      refine w_p h_m159 2 (pc' := 15) (L' := []) (st' := [.int (1 : Int32)]) rfl ?_
                      refine w_ri h_m159 (z_at.mk 1 rfl rfl) rfl rfl ?_
                      show z_W 999 258 7 [(0, .ref 143), (1, .int (xs 1)), (2, .int (xs 2)), (3, .int (xs 3)), (4, .int (xs 4)), (5, .int (xs 5))] [.int (1 : Int32)] m _
                      refine w_p h_m258 5 (pc' := 18) (L' := [(0, .ref 143), (1, .int (xs 1)), (2, .int (xs 2)), (3, .int (xs 3)), (4, .int (xs 4)), (5, .int (xs 5))]) (st' := [.int (xs 5), .int (xs 4), .int (xs 3), .int (xs 2)]) rfl ?_
                      refine w_cs (As := [.int (xs 2), .int (xs 3), .int (xs 4), .int (xs 5)]) (rest := []) (j := 164) (L0 := [(0, .int (xs 2)), (1, .int (xs 3)), (2, .int (xs 4)), (3, .int (xs 5))]) (pc' := 21) (L' := [(0, .ref 143), (1, .int (xs 1)), (2, .int (xs 2)), (3, .int (xs 3)), (4, .int (xs 4)), (5, .int (xs 5))]) h_m258 (z_at.mk 3 rfl rfl) (Or.inl ⟨rfl, rfl⟩) rfl rfl rfl rfl rfl ?_
                      refine w_p h_m164 3 (pc' := 4) (L' := [(0, .int (xs 2)), (1, .int (xs 3)), (2, .int (xs 4)), (3, .int (xs 5))]) (st' := [.int (31 : Int32), .int (0 : Int32), .int (xs 2)]) rfl ?_
                      refine w_cs (As := [.int (xs 2), .int (0 : Int32), .int (31 : Int32)]) (rest := []) (j := 159) (L0 := [(0, .int (xs 2)), (1, .int (0 : Int32)), (2, .int (31 : Int32))]) (pc' := 7) (L' := [(0, .int (xs 2)), (1, .int (xs 3)), (2, .int (xs 4)), (3, .int (xs 5))]) h_m164 (z_at.mk 3 rfl rfl) (Or.inl ⟨rfl, rfl⟩) rfl rfl rfl rfl rfl ?_
                      refine w_p h_m159 2 (pc' := 2) (L' := [(0, .int (xs 2)), (1, .int (0 : Int32)), (2, .int (31 : Int32))]) (st' := [.int (0 : Int32), .int (xs 2)]) rfl ?_
                      refine w_f2 (pc' := 5) (L' := [(0, .int (xs 2)), (1, .int (0 : Int32)), (2, .int (31 : Int32))]) h_m159 (z_at.mk 3 rfl rfl) rfl (zc (a := (xs 2).toInt) (b := 0) rfl rfl (decide_eq_false (by omega))) rfl rfl ?_
                      refine w_p h_m159 2 (pc' := 7) (L' := [(0, .int (xs 2)), (1, .int (0 : Int32)), (2, .int (31 : Int32))]) (st' := [.int (31 : Int32), .int (xs 2)]) rfl ?_
                      refine w_f2 (pc' := 10) (L' := [(0, .int (xs 2)), (1, .int (0 : Int32)), (2, .int (31 : Int32))]) h_m159 (z_at.mk 3 rfl rfl) rfl (zc (a := (xs 2).toInt) (b := 31) rfl rfl (decide_eq_false (by omega))) rfl rfl ?_
                      refine w_p h_m159 2 (pc' := 15) (L' := []) (st' := [.int (1 : Int32)]) rfl ?_
                      refine w_ri h_m159 (z_at.mk 1 rfl rfl) rfl rfl ?_
                      show z_W 998 164 7 [(0, .int (xs 2)), (1, .int (xs 3)), (2, .int (xs 4)), (3, .int (xs 5))] [.int (1 : Int32)] m _
                      refine w_p h_m164 4 (pc' := 14) (L' := [(0, .int (xs 2)), (1, .int (xs 3)), (2, .int (xs 4)), (3, .int (xs 5))]) (st' := [.int (31 : Int32), .int (xs 2), .int (xs 3)]) rfl ?_
                      refine w_cs (As := [.int (xs 3), .int (xs 2), .int (31 : Int32)]) (rest := []) (j := 159) (L0 := [(0, .int (xs 3)), (1, .int (xs 2)), (2, .int (31 : Int32))]) (pc' := 17) (L' := [(0, .int (xs 2)), (1, .int (xs 3)), (2, .int (xs 4)), (3, .int (xs 5))]) h_m164 (z_at.mk 3 rfl rfl) (Or.inl ⟨rfl, rfl⟩) rfl rfl rfl rfl rfl ?_
                      refine w_p h_m159 2 (pc' := 2) (L' := [(0, .int (xs 3)), (1, .int (xs 2)), (2, .int (31 : Int32))]) (st' := [.int (xs 2), .int (xs 3)]) rfl ?_
                      by_cases c_11 : (xs 3).toInt < (xs 2).toInt
                      · refine w_t2 (pc' := 14) (L' := []) h_m159 (z_at.mk 3 rfl rfl) rfl (zc (a := (xs 3).toInt) (b := (xs 2).toInt) rfl rfl (decide_eq_true (by omega))) rfl rfl ?_
                        refine w_p h_m159 1 (pc' := 15) (L' := []) (st' := [.int (0 : Int32)]) rfl ?_
                        refine w_ri h_m159 (z_at.mk 1 rfl rfl) rfl rfl ?_
                        show z_W 998 164 17 [(0, .int (xs 2)), (1, .int (xs 3)), (2, .int (xs 4)), (3, .int (xs 5))] [.int (0 : Int32)] m _
                        refine w_p h_m164 2 (pc' := 45) (L' := []) (st' := [.int (0 : Int32)]) rfl ?_
                        refine w_ri h_m164 (z_at.mk 1 rfl rfl) rfl rfl ?_
                        show z_W 999 258 21 [(0, .ref 143), (1, .int (xs 1)), (2, .int (xs 2)), (3, .int (xs 3)), (4, .int (xs 4)), (5, .int (xs 5))] [.int (0 : Int32)] m _
                        refine w_p h_m258 2 (pc' := 26) (L' := [(0, .ref 143), (1, .int (xs 1)), (2, .int (xs 2)), (3, .int (xs 3)), (4, .int (xs 4)), (5, .int (xs 5))]) (st' := [.int (-2 : Int32)]) rfl ?_
                        refine w_ri h_m258 (z_at.mk 1 rfl rfl) rfl rfl ?_
                        show z_W 1000 1000 1027 [(0, .ref 0), (1, .ref 39), (2, .ref 143), (3, .int (0 : Int32))] [.int (-2 : Int32), .int (-2 : Int32)] m _
                        refine w_p h_m1000 5 (pc' := 20) (L' := [(0, .ref 0), (1, .ref 39), (2, .ref 143), (3, .int (6 : Int32))]) (st' := [.ref 0, .int (6 : Int32)]) rfl ?_
                        refine w_lene H (x := (6 : Int32)) (pc' := 21) (L' := [(0, .ref 0), (1, .ref 39), (2, .ref 143), (3, .int (6 : Int32))]) h_m1000 (z_at.mk 1 rfl rfl) (by decide) rfl (by decide) rfl rfl rfl ?_
                        refine w_p h_m1000 4 (pc' := 1381) (L' := [(0, .ref 0), (1, .ref 39), (2, .ref 143), (3, .int (6 : Int32))]) (st' := [.int (1 : Int32)]) rfl ?_
                        refine w_ri h_m1000 (z_at.mk 1 rfl rfl) rfl rfl ?_
                        exact hQ _ _ _ _ H (by decide) (by decide)
                      · refine w_f2 (pc' := 5) (L' := [(0, .int (xs 3)), (1, .int (xs 2)), (2, .int (31 : Int32))]) h_m159 (z_at.mk 3 rfl rfl) rfl (zc (a := (xs 3).toInt) (b := (xs 2).toInt) rfl rfl (decide_eq_false (by omega))) rfl rfl ?_
                        refine w_p h_m159 2 (pc' := 7) (L' := [(0, .int (xs 3)), (1, .int (xs 2)), (2, .int (31 : Int32))]) (st' := [.int (31 : Int32), .int (xs 3)]) rfl ?_
                        refine w_f2 (pc' := 10) (L' := [(0, .int (xs 3)), (1, .int (xs 2)), (2, .int (31 : Int32))]) h_m159 (z_at.mk 3 rfl rfl) rfl (zc (a := (xs 3).toInt) (b := 31) rfl rfl (decide_eq_false (by omega))) rfl rfl ?_
                        refine w_p h_m159 2 (pc' := 15) (L' := []) (st' := [.int (1 : Int32)]) rfl ?_
                        refine w_ri h_m159 (z_at.mk 1 rfl rfl) rfl rfl ?_
                        show z_W 998 164 17 [(0, .int (xs 2)), (1, .int (xs 3)), (2, .int (xs 4)), (3, .int (xs 5))] [.int (1 : Int32)] m _
                        refine w_p h_m164 4 (pc' := 24) (L' := [(0, .int (xs 2)), (1, .int (xs 3)), (2, .int (xs 4)), (3, .int (xs 5))]) (st' := [.int (31 : Int32), .int (0 : Int32), .int (xs 4)]) rfl ?_
                        refine w_cs (As := [.int (xs 4), .int (0 : Int32), .int (31 : Int32)]) (rest := []) (j := 159) (L0 := [(0, .int (xs 4)), (1, .int (0 : Int32)), (2, .int (31 : Int32))]) (pc' := 27) (L' := [(0, .int (xs 2)), (1, .int (xs 3)), (2, .int (xs 4)), (3, .int (xs 5))]) h_m164 (z_at.mk 3 rfl rfl) (Or.inl ⟨rfl, rfl⟩) rfl rfl rfl rfl rfl ?_
                        refine w_p h_m159 2 (pc' := 2) (L' := [(0, .int (xs 4)), (1, .int (0 : Int32)), (2, .int (31 : Int32))]) (st' := [.int (0 : Int32), .int (xs 4)]) rfl ?_
                        refine w_f2 (pc' := 5) (L' := [(0, .int (xs 4)), (1, .int (0 : Int32)), (2, .int (31 : Int32))]) h_m159 (z_at.mk 3 rfl rfl) rfl (zc (a := (xs 4).toInt) (b := 0) rfl rfl (decide_eq_false (by omega))) rfl rfl ?_
                        refine w_p h_m159 2 (pc' := 7) (L' := [(0, .int (xs 4)), (1, .int (0 : Int32)), (2, .int (31 : Int32))]) (st' := [.int (31 : Int32), .int (xs 4)]) rfl ?_
                        refine w_f2 (pc' := 10) (L' := [(0, .int (xs 4)), (1, .int (0 : Int32)), (2, .int (31 : Int32))]) h_m159 (z_at.mk 3 rfl rfl) rfl (zc (a := (xs 4).toInt) (b := 31) rfl rfl (decide_eq_false (by omega))) rfl rfl ?_
                        refine w_p h_m159 2 (pc' := 15) (L' := []) (st' := [.int (1 : Int32)]) rfl ?_
                        refine w_ri h_m159 (z_at.mk 1 rfl rfl) rfl rfl ?_
                        show z_W 998 164 27 [(0, .int (xs 2)), (1, .int (xs 3)), (2, .int (xs 4)), (3, .int (xs 5))] [.int (1 : Int32)] m _
                        refine w_p h_m164 4 (pc' := 34) (L' := [(0, .int (xs 2)), (1, .int (xs 3)), (2, .int (xs 4)), (3, .int (xs 5))]) (st' := [.int (31 : Int32), .int (xs 4), .int (xs 5)]) rfl ?_
                        refine w_cs (As := [.int (xs 5), .int (xs 4), .int (31 : Int32)]) (rest := []) (j := 159) (L0 := [(0, .int (xs 5)), (1, .int (xs 4)), (2, .int (31 : Int32))]) (pc' := 37) (L' := [(0, .int (xs 2)), (1, .int (xs 3)), (2, .int (xs 4)), (3, .int (xs 5))]) h_m164 (z_at.mk 3 rfl rfl) (Or.inl ⟨rfl, rfl⟩) rfl rfl rfl rfl rfl ?_
                        refine w_p h_m159 2 (pc' := 2) (L' := [(0, .int (xs 5)), (1, .int (xs 4)), (2, .int (31 : Int32))]) (st' := [.int (xs 4), .int (xs 5)]) rfl ?_
                        refine w_f2 (pc' := 5) (L' := [(0, .int (xs 5)), (1, .int (xs 4)), (2, .int (31 : Int32))]) h_m159 (z_at.mk 3 rfl rfl) rfl (zc (a := (xs 5).toInt) (b := (xs 4).toInt) rfl rfl (decide_eq_false (by omega))) rfl rfl ?_
                        refine w_p h_m159 2 (pc' := 7) (L' := [(0, .int (xs 5)), (1, .int (xs 4)), (2, .int (31 : Int32))]) (st' := [.int (31 : Int32), .int (xs 5)]) rfl ?_
                        refine w_t2 (pc' := 14) (L' := []) h_m159 (z_at.mk 3 rfl rfl) rfl (zc (a := (xs 5).toInt) (b := 31) rfl rfl (decide_eq_true (by omega))) rfl rfl ?_
                        refine w_p h_m159 1 (pc' := 15) (L' := []) (st' := [.int (0 : Int32)]) rfl ?_
                        refine w_ri h_m159 (z_at.mk 1 rfl rfl) rfl rfl ?_
                        show z_W 998 164 37 [(0, .int (xs 2)), (1, .int (xs 3)), (2, .int (xs 4)), (3, .int (xs 5))] [.int (0 : Int32)] m _
                        refine w_p h_m164 2 (pc' := 45) (L' := []) (st' := [.int (0 : Int32)]) rfl ?_
                        refine w_ri h_m164 (z_at.mk 1 rfl rfl) rfl rfl ?_
                        show z_W 999 258 21 [(0, .ref 143), (1, .int (xs 1)), (2, .int (xs 2)), (3, .int (xs 3)), (4, .int (xs 4)), (5, .int (xs 5))] [.int (0 : Int32)] m _
                        refine w_p h_m258 2 (pc' := 26) (L' := [(0, .ref 143), (1, .int (xs 1)), (2, .int (xs 2)), (3, .int (xs 3)), (4, .int (xs 4)), (5, .int (xs 5))]) (st' := [.int (-2 : Int32)]) rfl ?_
                        refine w_ri h_m258 (z_at.mk 1 rfl rfl) rfl rfl ?_
                        show z_W 1000 1000 1027 [(0, .ref 0), (1, .ref 39), (2, .ref 143), (3, .int (0 : Int32))] [.int (-2 : Int32), .int (-2 : Int32)] m _
                        refine w_p h_m1000 5 (pc' := 20) (L' := [(0, .ref 0), (1, .ref 39), (2, .ref 143), (3, .int (6 : Int32))]) (st' := [.ref 0, .int (6 : Int32)]) rfl ?_
                        refine w_lene H (x := (6 : Int32)) (pc' := 21) (L' := [(0, .ref 0), (1, .ref 39), (2, .ref 143), (3, .int (6 : Int32))]) h_m1000 (z_at.mk 1 rfl rfl) (by decide) rfl (by decide) rfl rfl rfl ?_
                        refine w_p h_m1000 4 (pc' := 1381) (L' := [(0, .ref 0), (1, .ref 39), (2, .ref 143), (3, .int (6 : Int32))]) (st' := [.int (1 : Int32)]) rfl ?_
                        refine w_ri h_m1000 (z_at.mk 1 rfl rfl) rfl rfl ?_
                        exact hQ _ _ _ _ H (by decide) (by decide)
                · refine w_t2 (pc' := 24) (L' := []) h_m0 (z_at.mk 3 rfl rfl) rfl (zc (a := (xs 3).toInt) (b := 32) rfl rfl (decide_eq_true (by omega))) rfl rfl ?_
                  refine w_p h_m0 1 (pc' := 25) (L' := []) (st' := [.int (0 : Int32)]) rfl ?_
                  refine w_ri h_m0 (z_at.mk 1 rfl rfl) rfl rfl ?_
                  show z_W 998 1 13 [(0, .int (xs 2)), (1, .int (xs 3)), (2, .int (xs 4)), (3, .int (xs 5))] [.int (0 : Int32)] m _
                  refine w_p h_m1 2 (pc' := 31) (L' := []) (st' := [.int (0 : Int32)]) rfl ?_
                  refine w_ri h_m1 (z_at.mk 1 rfl rfl) rfl rfl ?_
                  show z_W 999 147 18 [(0, .ref 39), (1, .int (xs 1)), (2, .int (xs 2)), (3, .int (xs 3)), (4, .int (xs 4)), (5, .int (xs 5))] [.int (0 : Int32)] m _
                  refine w_p h_m147 2 (pc' := 23) (L' := [(0, .ref 39), (1, .int (xs 1)), (2, .int (xs 2)), (3, .int (xs 3)), (4, .int (xs 4)), (5, .int (xs 5))]) (st' := [.int (-2 : Int32)]) rfl ?_
                  refine w_ri h_m147 (z_at.mk 1 rfl rfl) rfl rfl ?_
                  show z_W 1000 1000 998 [(0, .ref 0), (1, .ref 39), (2, .ref 143), (3, .int (0 : Int32))] [.int (-2 : Int32)] m _
                  refine w_p h_m1000 5 (pc' := 1003) (L' := [(0, .ref 0), (1, .ref 39), (2, .ref 143), (3, .int (0 : Int32))]) (st' := [.int (1 : Int32), .ref 0, .ref 143, .int (-2 : Int32)]) rfl ?_
                  refine w_ae H (j := 1) (pc' := 1004) (L' := [(0, .ref 0), (1, .ref 39), (2, .ref 143), (3, .int (0 : Int32))]) h_m1000 (z_at.mk 1 rfl rfl) rfl rfl rfl (by decide) rfl (by decide) rfl rfl rfl ?_
                  refine w_p h_m1000 4 (pc' := 1008) (L' := [(0, .ref 0), (1, .ref 39), (2, .ref 143), (3, .int (0 : Int32))]) (st' := [.int (2 : Int32), .ref 0, .int (xs 1), .ref 143, .int (-2 : Int32)]) rfl ?_
                  refine w_ae H (j := 2) (pc' := 1009) (L' := [(0, .ref 0), (1, .ref 39), (2, .ref 143), (3, .int (0 : Int32))]) h_m1000 (z_at.mk 1 rfl rfl) rfl rfl rfl (by decide) rfl (by decide) rfl rfl rfl ?_
                  refine w_p h_m1000 4 (pc' := 1013) (L' := [(0, .ref 0), (1, .ref 39), (2, .ref 143), (3, .int (0 : Int32))]) (st' := [.int (3 : Int32), .ref 0, .int (xs 2), .int (xs 1), .ref 143, .int (-2 : Int32)]) rfl ?_
                  refine w_ae H (j := 3) (pc' := 1014) (L' := [(0, .ref 0), (1, .ref 39), (2, .ref 143), (3, .int (0 : Int32))]) h_m1000 (z_at.mk 1 rfl rfl) rfl rfl rfl (by decide) rfl (by decide) rfl rfl rfl ?_
                  refine w_p h_m1000 4 (pc' := 1018) (L' := [(0, .ref 0), (1, .ref 39), (2, .ref 143), (3, .int (0 : Int32))]) (st' := [.int (4 : Int32), .ref 0, .int (xs 3), .int (xs 2), .int (xs 1), .ref 143, .int (-2 : Int32)]) rfl ?_
                  refine w_ae H (j := 4) (pc' := 1019) (L' := [(0, .ref 0), (1, .ref 39), (2, .ref 143), (3, .int (0 : Int32))]) h_m1000 (z_at.mk 1 rfl rfl) rfl rfl rfl (by decide) rfl (by decide) rfl rfl rfl ?_
                  refine w_p h_m1000 4 (pc' := 1023) (L' := [(0, .ref 0), (1, .ref 39), (2, .ref 143), (3, .int (0 : Int32))]) (st' := [.int (5 : Int32), .ref 0, .int (xs 4), .int (xs 3), .int (xs 2), .int (xs 1), .ref 143, .int (-2 : Int32)]) rfl ?_
                  refine w_ae H (j := 5) (pc' := 1024) (L' := [(0, .ref 0), (1, .ref 39), (2, .ref 143), (3, .int (0 : Int32))]) h_m1000 (z_at.mk 1 rfl rfl) rfl rfl rfl (by decide) rfl (by decide) rfl rfl rfl ?_
                  refine w_cv (H.t rfl) (pc' := 1027) (L' := [(0, .ref 0), (1, .ref 39), (2, .ref 143), (3, .int (0 : Int32))]) (rest := [.int (-2 : Int32)]) (Ps := [.int (xs 1), .int (xs 2), .int (xs 3), .int (xs 4), .int (xs 5)]) (L0 := [(0, .ref 143), (1, .int (xs 1)), (2, .int (xs 2)), (3, .int (xs 3)), (4, .int (xs 4)), (5, .int (xs 5))]) h_m1000 (z_at.mk 3 rfl rfl) (Or.inl ⟨rfl, rfl⟩) rfl rfl (by decide) (by decide) rfl rfl rfl rfl rfl rfl (by decide) rfl rfl rfl ?_
                  refine w_p h_m258 3 (pc' := 4) (L' := [(0, .ref 143), (1, .int (xs 1)), (2, .int (xs 2)), (3, .int (xs 3)), (4, .int (xs 4)), (5, .int (xs 5))]) (st' := [.int (6 : Int32), .int (0 : Int32), .int (xs 1)]) rfl ?_
                  refine w_cs (As := [.int (xs 1), .int (0 : Int32), .int (6 : Int32)]) (rest := []) (j := 159) (L0 := [(0, .int (xs 1)), (1, .int (0 : Int32)), (2, .int (6 : Int32))]) (pc' := 7) (L' := [(0, .ref 143), (1, .int (xs 1)), (2, .int (xs 2)), (3, .int (xs 3)), (4, .int (xs 4)), (5, .int (xs 5))]) h_m258 (z_at.mk 3 rfl rfl) (Or.inl ⟨rfl, rfl⟩) rfl rfl rfl rfl rfl ?_
                  refine w_p h_m159 2 (pc' := 2) (L' := [(0, .int (xs 1)), (1, .int (0 : Int32)), (2, .int (6 : Int32))]) (st' := [.int (0 : Int32), .int (xs 1)]) rfl ?_
                  refine w_f2 (pc' := 5) (L' := [(0, .int (xs 1)), (1, .int (0 : Int32)), (2, .int (6 : Int32))]) h_m159 (z_at.mk 3 rfl rfl) rfl (zc (a := (xs 1).toInt) (b := 0) rfl rfl (decide_eq_false (by omega))) rfl rfl ?_
                  refine w_p h_m159 2 (pc' := 7) (L' := [(0, .int (xs 1)), (1, .int (0 : Int32)), (2, .int (6 : Int32))]) (st' := [.int (6 : Int32), .int (xs 1)]) rfl ?_
                  refine w_f2 (pc' := 10) (L' := [(0, .int (xs 1)), (1, .int (0 : Int32)), (2, .int (6 : Int32))]) h_m159 (z_at.mk 3 rfl rfl) rfl (zc (a := (xs 1).toInt) (b := 6) rfl rfl (decide_eq_false (by omega))) rfl rfl ?_
                  refine w_p h_m159 2 (pc' := 15) (L' := []) (st' := [.int (1 : Int32)]) rfl ?_
                  refine w_ri h_m159 (z_at.mk 1 rfl rfl) rfl rfl ?_
                  show z_W 999 258 7 [(0, .ref 143), (1, .int (xs 1)), (2, .int (xs 2)), (3, .int (xs 3)), (4, .int (xs 4)), (5, .int (xs 5))] [.int (1 : Int32)] m _
                  refine w_p h_m258 5 (pc' := 18) (L' := [(0, .ref 143), (1, .int (xs 1)), (2, .int (xs 2)), (3, .int (xs 3)), (4, .int (xs 4)), (5, .int (xs 5))]) (st' := [.int (xs 5), .int (xs 4), .int (xs 3), .int (xs 2)]) rfl ?_
                  refine w_cs (As := [.int (xs 2), .int (xs 3), .int (xs 4), .int (xs 5)]) (rest := []) (j := 164) (L0 := [(0, .int (xs 2)), (1, .int (xs 3)), (2, .int (xs 4)), (3, .int (xs 5))]) (pc' := 21) (L' := [(0, .ref 143), (1, .int (xs 1)), (2, .int (xs 2)), (3, .int (xs 3)), (4, .int (xs 4)), (5, .int (xs 5))]) h_m258 (z_at.mk 3 rfl rfl) (Or.inl ⟨rfl, rfl⟩) rfl rfl rfl rfl rfl ?_
                  refine w_p h_m164 3 (pc' := 4) (L' := [(0, .int (xs 2)), (1, .int (xs 3)), (2, .int (xs 4)), (3, .int (xs 5))]) (st' := [.int (31 : Int32), .int (0 : Int32), .int (xs 2)]) rfl ?_
                  refine w_cs (As := [.int (xs 2), .int (0 : Int32), .int (31 : Int32)]) (rest := []) (j := 159) (L0 := [(0, .int (xs 2)), (1, .int (0 : Int32)), (2, .int (31 : Int32))]) (pc' := 7) (L' := [(0, .int (xs 2)), (1, .int (xs 3)), (2, .int (xs 4)), (3, .int (xs 5))]) h_m164 (z_at.mk 3 rfl rfl) (Or.inl ⟨rfl, rfl⟩) rfl rfl rfl rfl rfl ?_
                  refine w_p h_m159 2 (pc' := 2) (L' := [(0, .int (xs 2)), (1, .int (0 : Int32)), (2, .int (31 : Int32))]) (st' := [.int (0 : Int32), .int (xs 2)]) rfl ?_
                  refine w_f2 (pc' := 5) (L' := [(0, .int (xs 2)), (1, .int (0 : Int32)), (2, .int (31 : Int32))]) h_m159 (z_at.mk 3 rfl rfl) rfl (zc (a := (xs 2).toInt) (b := 0) rfl rfl (decide_eq_false (by omega))) rfl rfl ?_
                  refine w_p h_m159 2 (pc' := 7) (L' := [(0, .int (xs 2)), (1, .int (0 : Int32)), (2, .int (31 : Int32))]) (st' := [.int (31 : Int32), .int (xs 2)]) rfl ?_
                  refine w_f2 (pc' := 10) (L' := [(0, .int (xs 2)), (1, .int (0 : Int32)), (2, .int (31 : Int32))]) h_m159 (z_at.mk 3 rfl rfl) rfl (zc (a := (xs 2).toInt) (b := 31) rfl rfl (decide_eq_false (by omega))) rfl rfl ?_
                  refine w_p h_m159 2 (pc' := 15) (L' := []) (st' := [.int (1 : Int32)]) rfl ?_
                  refine w_ri h_m159 (z_at.mk 1 rfl rfl) rfl rfl ?_
                  show z_W 998 164 7 [(0, .int (xs 2)), (1, .int (xs 3)), (2, .int (xs 4)), (3, .int (xs 5))] [.int (1 : Int32)] m _
                  refine w_p h_m164 4 (pc' := 14) (L' := [(0, .int (xs 2)), (1, .int (xs 3)), (2, .int (xs 4)), (3, .int (xs 5))]) (st' := [.int (31 : Int32), .int (xs 2), .int (xs 3)]) rfl ?_
                  refine w_cs (As := [.int (xs 3), .int (xs 2), .int (31 : Int32)]) (rest := []) (j := 159) (L0 := [(0, .int (xs 3)), (1, .int (xs 2)), (2, .int (31 : Int32))]) (pc' := 17) (L' := [(0, .int (xs 2)), (1, .int (xs 3)), (2, .int (xs 4)), (3, .int (xs 5))]) h_m164 (z_at.mk 3 rfl rfl) (Or.inl ⟨rfl, rfl⟩) rfl rfl rfl rfl rfl ?_
                  refine w_p h_m159 2 (pc' := 2) (L' := [(0, .int (xs 3)), (1, .int (xs 2)), (2, .int (31 : Int32))]) (st' := [.int (xs 2), .int (xs 3)]) rfl ?_
                  refine w_f2 (pc' := 5) (L' := [(0, .int (xs 3)), (1, .int (xs 2)), (2, .int (31 : Int32))]) h_m159 (z_at.mk 3 rfl rfl) rfl (zc (a := (xs 3).toInt) (b := (xs 2).toInt) rfl rfl (decide_eq_false (by omega))) rfl rfl ?_
                  refine w_p h_m159 2 (pc' := 7) (L' := [(0, .int (xs 3)), (1, .int (xs 2)), (2, .int (31 : Int32))]) (st' := [.int (31 : Int32), .int (xs 3)]) rfl ?_
                  refine w_t2 (pc' := 14) (L' := []) h_m159 (z_at.mk 3 rfl rfl) rfl (zc (a := (xs 3).toInt) (b := 31) rfl rfl (decide_eq_true (by omega))) rfl rfl ?_
                  refine w_p h_m159 1 (pc' := 15) (L' := []) (st' := [.int (0 : Int32)]) rfl ?_
                  refine w_ri h_m159 (z_at.mk 1 rfl rfl) rfl rfl ?_
                  show z_W 998 164 17 [(0, .int (xs 2)), (1, .int (xs 3)), (2, .int (xs 4)), (3, .int (xs 5))] [.int (0 : Int32)] m _
                  refine w_p h_m164 2 (pc' := 45) (L' := []) (st' := [.int (0 : Int32)]) rfl ?_
                  refine w_ri h_m164 (z_at.mk 1 rfl rfl) rfl rfl ?_
                  show z_W 999 258 21 [(0, .ref 143), (1, .int (xs 1)), (2, .int (xs 2)), (3, .int (xs 3)), (4, .int (xs 4)), (5, .int (xs 5))] [.int (0 : Int32)] m _
                  refine w_p h_m258 2 (pc' := 26) (L' := [(0, .ref 143), (1, .int (xs 1)), (2, .int (xs 2)), (3, .int (xs 3)), (4, .int (xs 4)), (5, .int (xs 5))]) (st' := [.int (-2 : Int32)]) rfl ?_
                  refine w_ri h_m258 (z_at.mk 1 rfl rfl) rfl rfl ?_
                  show z_W 1000 1000 1027 [(0, .ref 0), (1, .ref 39), (2, .ref 143), (3, .int (0 : Int32))] [.int (-2 : Int32), .int (-2 : Int32)] m _
                  refine w_p h_m1000 5 (pc' := 20) (L' := [(0, .ref 0), (1, .ref 39), (2, .ref 143), (3, .int (6 : Int32))]) (st' := [.ref 0, .int (6 : Int32)]) rfl ?_
                  refine w_lene H (x := (6 : Int32)) (pc' := 21) (L' := [(0, .ref 0), (1, .ref 39), (2, .ref 143), (3, .int (6 : Int32))]) h_m1000 (z_at.mk 1 rfl rfl) (by decide) rfl (by decide) rfl rfl rfl ?_
                  refine w_p h_m1000 4 (pc' := 1381) (L' := [(0, .ref 0), (1, .ref 39), (2, .ref 143), (3, .int (6 : Int32))]) (st' := [.int (1 : Int32)]) rfl ?_
                  refine w_ri h_m1000 (z_at.mk 1 rfl rfl) rfl rfl ?_
                  exact hQ _ _ _ _ H (by decide) (by decide)
            · refine w_t2 (pc' := 24) (L' := []) h_m0 (z_at.mk 3 rfl rfl) rfl (zc (a := (xs 4).toInt) (b := 32) rfl rfl (decide_eq_true (by omega))) rfl rfl ?_
              refine w_p h_m0 1 (pc' := 25) (L' := []) (st' := [.int (0 : Int32)]) rfl ?_
              refine w_ri h_m0 (z_at.mk 1 rfl rfl) rfl rfl ?_
              show z_W 998 1 5 [(0, .int (xs 2)), (1, .int (xs 3)), (2, .int (xs 4)), (3, .int (xs 5))] [.int (0 : Int32)] m _
              refine w_p h_m1 2 (pc' := 31) (L' := []) (st' := [.int (0 : Int32)]) rfl ?_
              refine w_ri h_m1 (z_at.mk 1 rfl rfl) rfl rfl ?_
              show z_W 999 147 18 [(0, .ref 39), (1, .int (xs 1)), (2, .int (xs 2)), (3, .int (xs 3)), (4, .int (xs 4)), (5, .int (xs 5))] [.int (0 : Int32)] m _
              refine w_p h_m147 2 (pc' := 23) (L' := [(0, .ref 39), (1, .int (xs 1)), (2, .int (xs 2)), (3, .int (xs 3)), (4, .int (xs 4)), (5, .int (xs 5))]) (st' := [.int (-2 : Int32)]) rfl ?_
              refine w_ri h_m147 (z_at.mk 1 rfl rfl) rfl rfl ?_
              show z_W 1000 1000 998 [(0, .ref 0), (1, .ref 39), (2, .ref 143), (3, .int (0 : Int32))] [.int (-2 : Int32)] m _
              refine w_p h_m1000 5 (pc' := 1003) (L' := [(0, .ref 0), (1, .ref 39), (2, .ref 143), (3, .int (0 : Int32))]) (st' := [.int (1 : Int32), .ref 0, .ref 143, .int (-2 : Int32)]) rfl ?_
              refine w_ae H (j := 1) (pc' := 1004) (L' := [(0, .ref 0), (1, .ref 39), (2, .ref 143), (3, .int (0 : Int32))]) h_m1000 (z_at.mk 1 rfl rfl) rfl rfl rfl (by decide) rfl (by decide) rfl rfl rfl ?_
              refine w_p h_m1000 4 (pc' := 1008) (L' := [(0, .ref 0), (1, .ref 39), (2, .ref 143), (3, .int (0 : Int32))]) (st' := [.int (2 : Int32), .ref 0, .int (xs 1), .ref 143, .int (-2 : Int32)]) rfl ?_
              refine w_ae H (j := 2) (pc' := 1009) (L' := [(0, .ref 0), (1, .ref 39), (2, .ref 143), (3, .int (0 : Int32))]) h_m1000 (z_at.mk 1 rfl rfl) rfl rfl rfl (by decide) rfl (by decide) rfl rfl rfl ?_
              refine w_p h_m1000 4 (pc' := 1013) (L' := [(0, .ref 0), (1, .ref 39), (2, .ref 143), (3, .int (0 : Int32))]) (st' := [.int (3 : Int32), .ref 0, .int (xs 2), .int (xs 1), .ref 143, .int (-2 : Int32)]) rfl ?_
              refine w_ae H (j := 3) (pc' := 1014) (L' := [(0, .ref 0), (1, .ref 39), (2, .ref 143), (3, .int (0 : Int32))]) h_m1000 (z_at.mk 1 rfl rfl) rfl rfl rfl (by decide) rfl (by decide) rfl rfl rfl ?_
              refine w_p h_m1000 4 (pc' := 1018) (L' := [(0, .ref 0), (1, .ref 39), (2, .ref 143), (3, .int (0 : Int32))]) (st' := [.int (4 : Int32), .ref 0, .int (xs 3), .int (xs 2), .int (xs 1), .ref 143, .int (-2 : Int32)]) rfl ?_
              refine w_ae H (j := 4) (pc' := 1019) (L' := [(0, .ref 0), (1, .ref 39), (2, .ref 143), (3, .int (0 : Int32))]) h_m1000 (z_at.mk 1 rfl rfl) rfl rfl rfl (by decide) rfl (by decide) rfl rfl rfl ?_
              refine w_p h_m1000 4 (pc' := 1023) (L' := [(0, .ref 0), (1, .ref 39), (2, .ref 143), (3, .int (0 : Int32))]) (st' := [.int (5 : Int32), .ref 0, .int (xs 4), .int (xs 3), .int (xs 2), .int (xs 1), .ref 143, .int (-2 : Int32)]) rfl ?_
              refine w_ae H (j := 5) (pc' := 1024) (L' := [(0, .ref 0), (1, .ref 39), (2, .ref 143), (3, .int (0 : Int32))]) h_m1000 (z_at.mk 1 rfl rfl) rfl rfl rfl (by decide) rfl (by decide) rfl rfl rfl ?_
              refine w_cv (H.t rfl) (pc' := 1027) (L' := [(0, .ref 0), (1, .ref 39), (2, .ref 143), (3, .int (0 : Int32))]) (rest := [.int (-2 : Int32)]) (Ps := [.int (xs 1), .int (xs 2), .int (xs 3), .int (xs 4), .int (xs 5)]) (L0 := [(0, .ref 143), (1, .int (xs 1)), (2, .int (xs 2)), (3, .int (xs 3)), (4, .int (xs 4)), (5, .int (xs 5))]) h_m1000 (z_at.mk 3 rfl rfl) (Or.inl ⟨rfl, rfl⟩) rfl rfl (by decide) (by decide) rfl rfl rfl rfl rfl rfl (by decide) rfl rfl rfl ?_
              refine w_p h_m258 3 (pc' := 4) (L' := [(0, .ref 143), (1, .int (xs 1)), (2, .int (xs 2)), (3, .int (xs 3)), (4, .int (xs 4)), (5, .int (xs 5))]) (st' := [.int (6 : Int32), .int (0 : Int32), .int (xs 1)]) rfl ?_
              refine w_cs (As := [.int (xs 1), .int (0 : Int32), .int (6 : Int32)]) (rest := []) (j := 159) (L0 := [(0, .int (xs 1)), (1, .int (0 : Int32)), (2, .int (6 : Int32))]) (pc' := 7) (L' := [(0, .ref 143), (1, .int (xs 1)), (2, .int (xs 2)), (3, .int (xs 3)), (4, .int (xs 4)), (5, .int (xs 5))]) h_m258 (z_at.mk 3 rfl rfl) (Or.inl ⟨rfl, rfl⟩) rfl rfl rfl rfl rfl ?_
              refine w_p h_m159 2 (pc' := 2) (L' := [(0, .int (xs 1)), (1, .int (0 : Int32)), (2, .int (6 : Int32))]) (st' := [.int (0 : Int32), .int (xs 1)]) rfl ?_
              refine w_f2 (pc' := 5) (L' := [(0, .int (xs 1)), (1, .int (0 : Int32)), (2, .int (6 : Int32))]) h_m159 (z_at.mk 3 rfl rfl) rfl (zc (a := (xs 1).toInt) (b := 0) rfl rfl (decide_eq_false (by omega))) rfl rfl ?_
              refine w_p h_m159 2 (pc' := 7) (L' := [(0, .int (xs 1)), (1, .int (0 : Int32)), (2, .int (6 : Int32))]) (st' := [.int (6 : Int32), .int (xs 1)]) rfl ?_
              refine w_f2 (pc' := 10) (L' := [(0, .int (xs 1)), (1, .int (0 : Int32)), (2, .int (6 : Int32))]) h_m159 (z_at.mk 3 rfl rfl) rfl (zc (a := (xs 1).toInt) (b := 6) rfl rfl (decide_eq_false (by omega))) rfl rfl ?_
              refine w_p h_m159 2 (pc' := 15) (L' := []) (st' := [.int (1 : Int32)]) rfl ?_
              refine w_ri h_m159 (z_at.mk 1 rfl rfl) rfl rfl ?_
              show z_W 999 258 7 [(0, .ref 143), (1, .int (xs 1)), (2, .int (xs 2)), (3, .int (xs 3)), (4, .int (xs 4)), (5, .int (xs 5))] [.int (1 : Int32)] m _
              refine w_p h_m258 5 (pc' := 18) (L' := [(0, .ref 143), (1, .int (xs 1)), (2, .int (xs 2)), (3, .int (xs 3)), (4, .int (xs 4)), (5, .int (xs 5))]) (st' := [.int (xs 5), .int (xs 4), .int (xs 3), .int (xs 2)]) rfl ?_
              refine w_cs (As := [.int (xs 2), .int (xs 3), .int (xs 4), .int (xs 5)]) (rest := []) (j := 164) (L0 := [(0, .int (xs 2)), (1, .int (xs 3)), (2, .int (xs 4)), (3, .int (xs 5))]) (pc' := 21) (L' := [(0, .ref 143), (1, .int (xs 1)), (2, .int (xs 2)), (3, .int (xs 3)), (4, .int (xs 4)), (5, .int (xs 5))]) h_m258 (z_at.mk 3 rfl rfl) (Or.inl ⟨rfl, rfl⟩) rfl rfl rfl rfl rfl ?_
              refine w_p h_m164 3 (pc' := 4) (L' := [(0, .int (xs 2)), (1, .int (xs 3)), (2, .int (xs 4)), (3, .int (xs 5))]) (st' := [.int (31 : Int32), .int (0 : Int32), .int (xs 2)]) rfl ?_
              refine w_cs (As := [.int (xs 2), .int (0 : Int32), .int (31 : Int32)]) (rest := []) (j := 159) (L0 := [(0, .int (xs 2)), (1, .int (0 : Int32)), (2, .int (31 : Int32))]) (pc' := 7) (L' := [(0, .int (xs 2)), (1, .int (xs 3)), (2, .int (xs 4)), (3, .int (xs 5))]) h_m164 (z_at.mk 3 rfl rfl) (Or.inl ⟨rfl, rfl⟩) rfl rfl rfl rfl rfl ?_
              refine w_p h_m159 2 (pc' := 2) (L' := [(0, .int (xs 2)), (1, .int (0 : Int32)), (2, .int (31 : Int32))]) (st' := [.int (0 : Int32), .int (xs 2)]) rfl ?_
              refine w_f2 (pc' := 5) (L' := [(0, .int (xs 2)), (1, .int (0 : Int32)), (2, .int (31 : Int32))]) h_m159 (z_at.mk 3 rfl rfl) rfl (zc (a := (xs 2).toInt) (b := 0) rfl rfl (decide_eq_false (by omega))) rfl rfl ?_
              refine w_p h_m159 2 (pc' := 7) (L' := [(0, .int (xs 2)), (1, .int (0 : Int32)), (2, .int (31 : Int32))]) (st' := [.int (31 : Int32), .int (xs 2)]) rfl ?_
              refine w_f2 (pc' := 10) (L' := [(0, .int (xs 2)), (1, .int (0 : Int32)), (2, .int (31 : Int32))]) h_m159 (z_at.mk 3 rfl rfl) rfl (zc (a := (xs 2).toInt) (b := 31) rfl rfl (decide_eq_false (by omega))) rfl rfl ?_
              refine w_p h_m159 2 (pc' := 15) (L' := []) (st' := [.int (1 : Int32)]) rfl ?_
              refine w_ri h_m159 (z_at.mk 1 rfl rfl) rfl rfl ?_
              show z_W 998 164 7 [(0, .int (xs 2)), (1, .int (xs 3)), (2, .int (xs 4)), (3, .int (xs 5))] [.int (1 : Int32)] m _
              refine w_p h_m164 4 (pc' := 14) (L' := [(0, .int (xs 2)), (1, .int (xs 3)), (2, .int (xs 4)), (3, .int (xs 5))]) (st' := [.int (31 : Int32), .int (xs 2), .int (xs 3)]) rfl ?_
              refine w_cs (As := [.int (xs 3), .int (xs 2), .int (31 : Int32)]) (rest := []) (j := 159) (L0 := [(0, .int (xs 3)), (1, .int (xs 2)), (2, .int (31 : Int32))]) (pc' := 17) (L' := [(0, .int (xs 2)), (1, .int (xs 3)), (2, .int (xs 4)), (3, .int (xs 5))]) h_m164 (z_at.mk 3 rfl rfl) (Or.inl ⟨rfl, rfl⟩) rfl rfl rfl rfl rfl ?_
              refine w_p h_m159 2 (pc' := 2) (L' := [(0, .int (xs 3)), (1, .int (xs 2)), (2, .int (31 : Int32))]) (st' := [.int (xs 2), .int (xs 3)]) rfl ?_
              by_cases c_7 : (xs 3).toInt < (xs 2).toInt
              · refine w_t2 (pc' := 14) (L' := []) h_m159 (z_at.mk 3 rfl rfl) rfl (zc (a := (xs 3).toInt) (b := (xs 2).toInt) rfl rfl (decide_eq_true (by omega))) rfl rfl ?_
                refine w_p h_m159 1 (pc' := 15) (L' := []) (st' := [.int (0 : Int32)]) rfl ?_
                refine w_ri h_m159 (z_at.mk 1 rfl rfl) rfl rfl ?_
                show z_W 998 164 17 [(0, .int (xs 2)), (1, .int (xs 3)), (2, .int (xs 4)), (3, .int (xs 5))] [.int (0 : Int32)] m _
                refine w_p h_m164 2 (pc' := 45) (L' := []) (st' := [.int (0 : Int32)]) rfl ?_
                refine w_ri h_m164 (z_at.mk 1 rfl rfl) rfl rfl ?_
                show z_W 999 258 21 [(0, .ref 143), (1, .int (xs 1)), (2, .int (xs 2)), (3, .int (xs 3)), (4, .int (xs 4)), (5, .int (xs 5))] [.int (0 : Int32)] m _
                refine w_p h_m258 2 (pc' := 26) (L' := [(0, .ref 143), (1, .int (xs 1)), (2, .int (xs 2)), (3, .int (xs 3)), (4, .int (xs 4)), (5, .int (xs 5))]) (st' := [.int (-2 : Int32)]) rfl ?_
                refine w_ri h_m258 (z_at.mk 1 rfl rfl) rfl rfl ?_
                show z_W 1000 1000 1027 [(0, .ref 0), (1, .ref 39), (2, .ref 143), (3, .int (0 : Int32))] [.int (-2 : Int32), .int (-2 : Int32)] m _
                refine w_p h_m1000 5 (pc' := 20) (L' := [(0, .ref 0), (1, .ref 39), (2, .ref 143), (3, .int (6 : Int32))]) (st' := [.ref 0, .int (6 : Int32)]) rfl ?_
                refine w_lene H (x := (6 : Int32)) (pc' := 21) (L' := [(0, .ref 0), (1, .ref 39), (2, .ref 143), (3, .int (6 : Int32))]) h_m1000 (z_at.mk 1 rfl rfl) (by decide) rfl (by decide) rfl rfl rfl ?_
                refine w_p h_m1000 4 (pc' := 1381) (L' := [(0, .ref 0), (1, .ref 39), (2, .ref 143), (3, .int (6 : Int32))]) (st' := [.int (1 : Int32)]) rfl ?_
                refine w_ri h_m1000 (z_at.mk 1 rfl rfl) rfl rfl ?_
                exact hQ _ _ _ _ H (by decide) (by decide)
              · refine w_f2 (pc' := 5) (L' := [(0, .int (xs 3)), (1, .int (xs 2)), (2, .int (31 : Int32))]) h_m159 (z_at.mk 3 rfl rfl) rfl (zc (a := (xs 3).toInt) (b := (xs 2).toInt) rfl rfl (decide_eq_false (by omega))) rfl rfl ?_
                refine w_p h_m159 2 (pc' := 7) (L' := [(0, .int (xs 3)), (1, .int (xs 2)), (2, .int (31 : Int32))]) (st' := [.int (31 : Int32), .int (xs 3)]) rfl ?_
                by_cases c_8 : (xs 3).toInt ≤ 31
                · refine w_f2 (pc' := 10) (L' := [(0, .int (xs 3)), (1, .int (xs 2)), (2, .int (31 : Int32))]) h_m159 (z_at.mk 3 rfl rfl) rfl (zc (a := (xs 3).toInt) (b := 31) rfl rfl (decide_eq_false (by omega))) rfl rfl ?_
                  refine w_p h_m159 2 (pc' := 15) (L' := []) (st' := [.int (1 : Int32)]) rfl ?_
                  refine w_ri h_m159 (z_at.mk 1 rfl rfl) rfl rfl ?_
                  show z_W 998 164 17 [(0, .int (xs 2)), (1, .int (xs 3)), (2, .int (xs 4)), (3, .int (xs 5))] [.int (1 : Int32)] m _
                  refine w_p h_m164 4 (pc' := 24) (L' := [(0, .int (xs 2)), (1, .int (xs 3)), (2, .int (xs 4)), (3, .int (xs 5))]) (st' := [.int (31 : Int32), .int (0 : Int32), .int (xs 4)]) rfl ?_
                  refine w_cs (As := [.int (xs 4), .int (0 : Int32), .int (31 : Int32)]) (rest := []) (j := 159) (L0 := [(0, .int (xs 4)), (1, .int (0 : Int32)), (2, .int (31 : Int32))]) (pc' := 27) (L' := [(0, .int (xs 2)), (1, .int (xs 3)), (2, .int (xs 4)), (3, .int (xs 5))]) h_m164 (z_at.mk 3 rfl rfl) (Or.inl ⟨rfl, rfl⟩) rfl rfl rfl rfl rfl ?_
                  refine w_p h_m159 2 (pc' := 2) (L' := [(0, .int (xs 4)), (1, .int (0 : Int32)), (2, .int (31 : Int32))]) (st' := [.int (0 : Int32), .int (xs 4)]) rfl ?_
                  refine w_f2 (pc' := 5) (L' := [(0, .int (xs 4)), (1, .int (0 : Int32)), (2, .int (31 : Int32))]) h_m159 (z_at.mk 3 rfl rfl) rfl (zc (a := (xs 4).toInt) (b := 0) rfl rfl (decide_eq_false (by omega))) rfl rfl ?_
                  refine w_p h_m159 2 (pc' := 7) (L' := [(0, .int (xs 4)), (1, .int (0 : Int32)), (2, .int (31 : Int32))]) (st' := [.int (31 : Int32), .int (xs 4)]) rfl ?_
                  refine w_t2 (pc' := 14) (L' := []) h_m159 (z_at.mk 3 rfl rfl) rfl (zc (a := (xs 4).toInt) (b := 31) rfl rfl (decide_eq_true (by omega))) rfl rfl ?_
                  refine w_p h_m159 1 (pc' := 15) (L' := []) (st' := [.int (0 : Int32)]) rfl ?_
                  refine w_ri h_m159 (z_at.mk 1 rfl rfl) rfl rfl ?_
                  show z_W 998 164 27 [(0, .int (xs 2)), (1, .int (xs 3)), (2, .int (xs 4)), (3, .int (xs 5))] [.int (0 : Int32)] m _
                  refine w_p h_m164 2 (pc' := 45) (L' := []) (st' := [.int (0 : Int32)]) rfl ?_
                  refine w_ri h_m164 (z_at.mk 1 rfl rfl) rfl rfl ?_
                  show z_W 999 258 21 [(0, .ref 143), (1, .int (xs 1)), (2, .int (xs 2)), (3, .int (xs 3)), (4, .int (xs 4)), (5, .int (xs 5))] [.int (0 : Int32)] m _
                  refine w_p h_m258 2 (pc' := 26) (L' := [(0, .ref 143), (1, .int (xs 1)), (2, .int (xs 2)), (3, .int (xs 3)), (4, .int (xs 4)), (5, .int (xs 5))]) (st' := [.int (-2 : Int32)]) rfl ?_
                  refine w_ri h_m258 (z_at.mk 1 rfl rfl) rfl rfl ?_
                  show z_W 1000 1000 1027 [(0, .ref 0), (1, .ref 39), (2, .ref 143), (3, .int (0 : Int32))] [.int (-2 : Int32), .int (-2 : Int32)] m _
                  refine w_p h_m1000 5 (pc' := 20) (L' := [(0, .ref 0), (1, .ref 39), (2, .ref 143), (3, .int (6 : Int32))]) (st' := [.ref 0, .int (6 : Int32)]) rfl ?_
                  refine w_lene H (x := (6 : Int32)) (pc' := 21) (L' := [(0, .ref 0), (1, .ref 39), (2, .ref 143), (3, .int (6 : Int32))]) h_m1000 (z_at.mk 1 rfl rfl) (by decide) rfl (by decide) rfl rfl rfl ?_
                  refine w_p h_m1000 4 (pc' := 1381) (L' := [(0, .ref 0), (1, .ref 39), (2, .ref 143), (3, .int (6 : Int32))]) (st' := [.int (1 : Int32)]) rfl ?_
                  refine w_ri h_m1000 (z_at.mk 1 rfl rfl) rfl rfl ?_
                  exact hQ _ _ _ _ H (by decide) (by decide)
                · refine w_t2 (pc' := 14) (L' := []) h_m159 (z_at.mk 3 rfl rfl) rfl (zc (a := (xs 3).toInt) (b := 31) rfl rfl (decide_eq_true (by omega))) rfl rfl ?_
                  refine w_p h_m159 1 (pc' := 15) (L' := []) (st' := [.int (0 : Int32)]) rfl ?_
                  refine w_ri h_m159 (z_at.mk 1 rfl rfl) rfl rfl ?_
                  show z_W 998 164 17 [(0, .int (xs 2)), (1, .int (xs 3)), (2, .int (xs 4)), (3, .int (xs 5))] [.int (0 : Int32)] m _
                  refine w_p h_m164 2 (pc' := 45) (L' := []) (st' := [.int (0 : Int32)]) rfl ?_
                  refine w_ri h_m164 (z_at.mk 1 rfl rfl) rfl rfl ?_
                  show z_W 999 258 21 [(0, .ref 143), (1, .int (xs 1)), (2, .int (xs 2)), (3, .int (xs 3)), (4, .int (xs 4)), (5, .int (xs 5))] [.int (0 : Int32)] m _
                  refine w_p h_m258 2 (pc' := 26) (L' := [(0, .ref 143), (1, .int (xs 1)), (2, .int (xs 2)), (3, .int (xs 3)), (4, .int (xs 4)), (5, .int (xs 5))]) (st' := [.int (-2 : Int32)]) rfl ?_
                  refine w_ri h_m258 (z_at.mk 1 rfl rfl) rfl rfl ?_
                  show z_W 1000 1000 1027 [(0, .ref 0), (1, .ref 39), (2, .ref 143), (3, .int (0 : Int32))] [.int (-2 : Int32), .int (-2 : Int32)] m _
                  refine w_p h_m1000 5 (pc' := 20) (L' := [(0, .ref 0), (1, .ref 39), (2, .ref 143), (3, .int (6 : Int32))]) (st' := [.ref 0, .int (6 : Int32)]) rfl ?_
                  refine w_lene H (x := (6 : Int32)) (pc' := 21) (L' := [(0, .ref 0), (1, .ref 39), (2, .ref 143), (3, .int (6 : Int32))]) h_m1000 (z_at.mk 1 rfl rfl) (by decide) rfl (by decide) rfl rfl rfl ?_
                  refine w_p h_m1000 4 (pc' := 1381) (L' := [(0, .ref 0), (1, .ref 39), (2, .ref 143), (3, .int (6 : Int32))]) (st' := [.int (1 : Int32)]) rfl ?_
                  refine w_ri h_m1000 (z_at.mk 1 rfl rfl) rfl rfl ?_
                  exact hQ _ _ _ _ H (by decide) (by decide)
        · refine w_t2 (pc' := 24) (L' := []) h_m0 (z_at.mk 3 rfl rfl) rfl (zc (a := (xs 2).toInt) (b := 32) rfl rfl (decide_eq_true (by omega))) rfl rfl ?_
          refine w_p h_m0 1 (pc' := 25) (L' := []) (st' := [.int (0 : Int32)]) rfl ?_
          refine w_ri h_m0 (z_at.mk 1 rfl rfl) rfl rfl ?_
          show z_W 998 1 5 [(0, .int (xs 2)), (1, .int (xs 3)), (2, .int (xs 4)), (3, .int (xs 5))] [.int (0 : Int32)] m _
          refine w_p h_m1 2 (pc' := 31) (L' := []) (st' := [.int (0 : Int32)]) rfl ?_
          refine w_ri h_m1 (z_at.mk 1 rfl rfl) rfl rfl ?_
          show z_W 999 147 18 [(0, .ref 39), (1, .int (xs 1)), (2, .int (xs 2)), (3, .int (xs 3)), (4, .int (xs 4)), (5, .int (xs 5))] [.int (0 : Int32)] m _
          refine w_p h_m147 2 (pc' := 23) (L' := [(0, .ref 39), (1, .int (xs 1)), (2, .int (xs 2)), (3, .int (xs 3)), (4, .int (xs 4)), (5, .int (xs 5))]) (st' := [.int (-2 : Int32)]) rfl ?_
          refine w_ri h_m147 (z_at.mk 1 rfl rfl) rfl rfl ?_
          show z_W 1000 1000 998 [(0, .ref 0), (1, .ref 39), (2, .ref 143), (3, .int (0 : Int32))] [.int (-2 : Int32)] m _
          refine w_p h_m1000 5 (pc' := 1003) (L' := [(0, .ref 0), (1, .ref 39), (2, .ref 143), (3, .int (0 : Int32))]) (st' := [.int (1 : Int32), .ref 0, .ref 143, .int (-2 : Int32)]) rfl ?_
          refine w_ae H (j := 1) (pc' := 1004) (L' := [(0, .ref 0), (1, .ref 39), (2, .ref 143), (3, .int (0 : Int32))]) h_m1000 (z_at.mk 1 rfl rfl) rfl rfl rfl (by decide) rfl (by decide) rfl rfl rfl ?_
          refine w_p h_m1000 4 (pc' := 1008) (L' := [(0, .ref 0), (1, .ref 39), (2, .ref 143), (3, .int (0 : Int32))]) (st' := [.int (2 : Int32), .ref 0, .int (xs 1), .ref 143, .int (-2 : Int32)]) rfl ?_
          refine w_ae H (j := 2) (pc' := 1009) (L' := [(0, .ref 0), (1, .ref 39), (2, .ref 143), (3, .int (0 : Int32))]) h_m1000 (z_at.mk 1 rfl rfl) rfl rfl rfl (by decide) rfl (by decide) rfl rfl rfl ?_
          refine w_p h_m1000 4 (pc' := 1013) (L' := [(0, .ref 0), (1, .ref 39), (2, .ref 143), (3, .int (0 : Int32))]) (st' := [.int (3 : Int32), .ref 0, .int (xs 2), .int (xs 1), .ref 143, .int (-2 : Int32)]) rfl ?_
          refine w_ae H (j := 3) (pc' := 1014) (L' := [(0, .ref 0), (1, .ref 39), (2, .ref 143), (3, .int (0 : Int32))]) h_m1000 (z_at.mk 1 rfl rfl) rfl rfl rfl (by decide) rfl (by decide) rfl rfl rfl ?_
          refine w_p h_m1000 4 (pc' := 1018) (L' := [(0, .ref 0), (1, .ref 39), (2, .ref 143), (3, .int (0 : Int32))]) (st' := [.int (4 : Int32), .ref 0, .int (xs 3), .int (xs 2), .int (xs 1), .ref 143, .int (-2 : Int32)]) rfl ?_
          refine w_ae H (j := 4) (pc' := 1019) (L' := [(0, .ref 0), (1, .ref 39), (2, .ref 143), (3, .int (0 : Int32))]) h_m1000 (z_at.mk 1 rfl rfl) rfl rfl rfl (by decide) rfl (by decide) rfl rfl rfl ?_
          refine w_p h_m1000 4 (pc' := 1023) (L' := [(0, .ref 0), (1, .ref 39), (2, .ref 143), (3, .int (0 : Int32))]) (st' := [.int (5 : Int32), .ref 0, .int (xs 4), .int (xs 3), .int (xs 2), .int (xs 1), .ref 143, .int (-2 : Int32)]) rfl ?_
          refine w_ae H (j := 5) (pc' := 1024) (L' := [(0, .ref 0), (1, .ref 39), (2, .ref 143), (3, .int (0 : Int32))]) h_m1000 (z_at.mk 1 rfl rfl) rfl rfl rfl (by decide) rfl (by decide) rfl rfl rfl ?_
          refine w_cv (H.t rfl) (pc' := 1027) (L' := [(0, .ref 0), (1, .ref 39), (2, .ref 143), (3, .int (0 : Int32))]) (rest := [.int (-2 : Int32)]) (Ps := [.int (xs 1), .int (xs 2), .int (xs 3), .int (xs 4), .int (xs 5)]) (L0 := [(0, .ref 143), (1, .int (xs 1)), (2, .int (xs 2)), (3, .int (xs 3)), (4, .int (xs 4)), (5, .int (xs 5))]) h_m1000 (z_at.mk 3 rfl rfl) (Or.inl ⟨rfl, rfl⟩) rfl rfl (by decide) (by decide) rfl rfl rfl rfl rfl rfl (by decide) rfl rfl rfl ?_
          refine w_p h_m258 3 (pc' := 4) (L' := [(0, .ref 143), (1, .int (xs 1)), (2, .int (xs 2)), (3, .int (xs 3)), (4, .int (xs 4)), (5, .int (xs 5))]) (st' := [.int (6 : Int32), .int (0 : Int32), .int (xs 1)]) rfl ?_
          refine w_cs (As := [.int (xs 1), .int (0 : Int32), .int (6 : Int32)]) (rest := []) (j := 159) (L0 := [(0, .int (xs 1)), (1, .int (0 : Int32)), (2, .int (6 : Int32))]) (pc' := 7) (L' := [(0, .ref 143), (1, .int (xs 1)), (2, .int (xs 2)), (3, .int (xs 3)), (4, .int (xs 4)), (5, .int (xs 5))]) h_m258 (z_at.mk 3 rfl rfl) (Or.inl ⟨rfl, rfl⟩) rfl rfl rfl rfl rfl ?_
          refine w_p h_m159 2 (pc' := 2) (L' := [(0, .int (xs 1)), (1, .int (0 : Int32)), (2, .int (6 : Int32))]) (st' := [.int (0 : Int32), .int (xs 1)]) rfl ?_
          refine w_f2 (pc' := 5) (L' := [(0, .int (xs 1)), (1, .int (0 : Int32)), (2, .int (6 : Int32))]) h_m159 (z_at.mk 3 rfl rfl) rfl (zc (a := (xs 1).toInt) (b := 0) rfl rfl (decide_eq_false (by omega))) rfl rfl ?_
          refine w_p h_m159 2 (pc' := 7) (L' := [(0, .int (xs 1)), (1, .int (0 : Int32)), (2, .int (6 : Int32))]) (st' := [.int (6 : Int32), .int (xs 1)]) rfl ?_
          refine w_f2 (pc' := 10) (L' := [(0, .int (xs 1)), (1, .int (0 : Int32)), (2, .int (6 : Int32))]) h_m159 (z_at.mk 3 rfl rfl) rfl (zc (a := (xs 1).toInt) (b := 6) rfl rfl (decide_eq_false (by omega))) rfl rfl ?_
          refine w_p h_m159 2 (pc' := 15) (L' := []) (st' := [.int (1 : Int32)]) rfl ?_
          refine w_ri h_m159 (z_at.mk 1 rfl rfl) rfl rfl ?_
          show z_W 999 258 7 [(0, .ref 143), (1, .int (xs 1)), (2, .int (xs 2)), (3, .int (xs 3)), (4, .int (xs 4)), (5, .int (xs 5))] [.int (1 : Int32)] m _
          refine w_p h_m258 5 (pc' := 18) (L' := [(0, .ref 143), (1, .int (xs 1)), (2, .int (xs 2)), (3, .int (xs 3)), (4, .int (xs 4)), (5, .int (xs 5))]) (st' := [.int (xs 5), .int (xs 4), .int (xs 3), .int (xs 2)]) rfl ?_
          refine w_cs (As := [.int (xs 2), .int (xs 3), .int (xs 4), .int (xs 5)]) (rest := []) (j := 164) (L0 := [(0, .int (xs 2)), (1, .int (xs 3)), (2, .int (xs 4)), (3, .int (xs 5))]) (pc' := 21) (L' := [(0, .ref 143), (1, .int (xs 1)), (2, .int (xs 2)), (3, .int (xs 3)), (4, .int (xs 4)), (5, .int (xs 5))]) h_m258 (z_at.mk 3 rfl rfl) (Or.inl ⟨rfl, rfl⟩) rfl rfl rfl rfl rfl ?_
          refine w_p h_m164 3 (pc' := 4) (L' := [(0, .int (xs 2)), (1, .int (xs 3)), (2, .int (xs 4)), (3, .int (xs 5))]) (st' := [.int (31 : Int32), .int (0 : Int32), .int (xs 2)]) rfl ?_
          refine w_cs (As := [.int (xs 2), .int (0 : Int32), .int (31 : Int32)]) (rest := []) (j := 159) (L0 := [(0, .int (xs 2)), (1, .int (0 : Int32)), (2, .int (31 : Int32))]) (pc' := 7) (L' := [(0, .int (xs 2)), (1, .int (xs 3)), (2, .int (xs 4)), (3, .int (xs 5))]) h_m164 (z_at.mk 3 rfl rfl) (Or.inl ⟨rfl, rfl⟩) rfl rfl rfl rfl rfl ?_
          refine w_p h_m159 2 (pc' := 2) (L' := [(0, .int (xs 2)), (1, .int (0 : Int32)), (2, .int (31 : Int32))]) (st' := [.int (0 : Int32), .int (xs 2)]) rfl ?_
          refine w_f2 (pc' := 5) (L' := [(0, .int (xs 2)), (1, .int (0 : Int32)), (2, .int (31 : Int32))]) h_m159 (z_at.mk 3 rfl rfl) rfl (zc (a := (xs 2).toInt) (b := 0) rfl rfl (decide_eq_false (by omega))) rfl rfl ?_
          refine w_p h_m159 2 (pc' := 7) (L' := [(0, .int (xs 2)), (1, .int (0 : Int32)), (2, .int (31 : Int32))]) (st' := [.int (31 : Int32), .int (xs 2)]) rfl ?_
          refine w_t2 (pc' := 14) (L' := []) h_m159 (z_at.mk 3 rfl rfl) rfl (zc (a := (xs 2).toInt) (b := 31) rfl rfl (decide_eq_true (by omega))) rfl rfl ?_
          refine w_p h_m159 1 (pc' := 15) (L' := []) (st' := [.int (0 : Int32)]) rfl ?_
          refine w_ri h_m159 (z_at.mk 1 rfl rfl) rfl rfl ?_
          show z_W 998 164 7 [(0, .int (xs 2)), (1, .int (xs 3)), (2, .int (xs 4)), (3, .int (xs 5))] [.int (0 : Int32)] m _
          refine w_p h_m164 2 (pc' := 45) (L' := []) (st' := [.int (0 : Int32)]) rfl ?_
          refine w_ri h_m164 (z_at.mk 1 rfl rfl) rfl rfl ?_
          show z_W 999 258 21 [(0, .ref 143), (1, .int (xs 1)), (2, .int (xs 2)), (3, .int (xs 3)), (4, .int (xs 4)), (5, .int (xs 5))] [.int (0 : Int32)] m _
          refine w_p h_m258 2 (pc' := 26) (L' := [(0, .ref 143), (1, .int (xs 1)), (2, .int (xs 2)), (3, .int (xs 3)), (4, .int (xs 4)), (5, .int (xs 5))]) (st' := [.int (-2 : Int32)]) rfl ?_
          refine w_ri h_m258 (z_at.mk 1 rfl rfl) rfl rfl ?_
          show z_W 1000 1000 1027 [(0, .ref 0), (1, .ref 39), (2, .ref 143), (3, .int (0 : Int32))] [.int (-2 : Int32), .int (-2 : Int32)] m _
          refine w_p h_m1000 5 (pc' := 20) (L' := [(0, .ref 0), (1, .ref 39), (2, .ref 143), (3, .int (6 : Int32))]) (st' := [.ref 0, .int (6 : Int32)]) rfl ?_
          refine w_lene H (x := (6 : Int32)) (pc' := 21) (L' := [(0, .ref 0), (1, .ref 39), (2, .ref 143), (3, .int (6 : Int32))]) h_m1000 (z_at.mk 1 rfl rfl) (by decide) rfl (by decide) rfl rfl rfl ?_
          refine w_p h_m1000 4 (pc' := 1381) (L' := [(0, .ref 0), (1, .ref 39), (2, .ref 143), (3, .int (6 : Int32))]) (st' := [.int (1 : Int32)]) rfl ?_
          refine w_ri h_m1000 (z_at.mk 1 rfl rfl) rfl rfl ?_
          exact hQ _ _ _ _ H (by decide) (by decide)
    · refine w_t2 (pc' := 14) (L' := []) h_m46 (z_at.mk 3 rfl rfl) rfl (zc (a := (xs 1).toInt) (b := 6) rfl rfl (decide_eq_true (by omega))) rfl rfl ?_
      refine w_p h_m46 1 (pc' := 15) (L' := []) (st' := [.int (0 : Int32)]) rfl ?_
      refine w_ri h_m46 (z_at.mk 1 rfl rfl) rfl rfl ?_
      show z_W 999 147 4 [(0, .ref 39), (1, .int (xs 1)), (2, .int (xs 2)), (3, .int (xs 3)), (4, .int (xs 4)), (5, .int (xs 5))] [.int (0 : Int32)] m _
      refine w_p h_m147 2 (pc' := 8) (L' := [(0, .ref 39), (1, .int (xs 1)), (2, .int (xs 2)), (3, .int (xs 3)), (4, .int (xs 4)), (5, .int (xs 5))]) (st' := [.int (-1 : Int32)]) rfl ?_
      refine w_ri h_m147 (z_at.mk 1 rfl rfl) rfl rfl ?_
      show z_W 1000 1000 998 [(0, .ref 0), (1, .ref 39), (2, .ref 143), (3, .int (0 : Int32))] [.int (-1 : Int32)] m _
      refine w_p h_m1000 5 (pc' := 1003) (L' := [(0, .ref 0), (1, .ref 39), (2, .ref 143), (3, .int (0 : Int32))]) (st' := [.int (1 : Int32), .ref 0, .ref 143, .int (-1 : Int32)]) rfl ?_
      refine w_ae H (j := 1) (pc' := 1004) (L' := [(0, .ref 0), (1, .ref 39), (2, .ref 143), (3, .int (0 : Int32))]) h_m1000 (z_at.mk 1 rfl rfl) rfl rfl rfl (by decide) rfl (by decide) rfl rfl rfl ?_
      refine w_p h_m1000 4 (pc' := 1008) (L' := [(0, .ref 0), (1, .ref 39), (2, .ref 143), (3, .int (0 : Int32))]) (st' := [.int (2 : Int32), .ref 0, .int (xs 1), .ref 143, .int (-1 : Int32)]) rfl ?_
      refine w_ae H (j := 2) (pc' := 1009) (L' := [(0, .ref 0), (1, .ref 39), (2, .ref 143), (3, .int (0 : Int32))]) h_m1000 (z_at.mk 1 rfl rfl) rfl rfl rfl (by decide) rfl (by decide) rfl rfl rfl ?_
      refine w_p h_m1000 4 (pc' := 1013) (L' := [(0, .ref 0), (1, .ref 39), (2, .ref 143), (3, .int (0 : Int32))]) (st' := [.int (3 : Int32), .ref 0, .int (xs 2), .int (xs 1), .ref 143, .int (-1 : Int32)]) rfl ?_
      refine w_ae H (j := 3) (pc' := 1014) (L' := [(0, .ref 0), (1, .ref 39), (2, .ref 143), (3, .int (0 : Int32))]) h_m1000 (z_at.mk 1 rfl rfl) rfl rfl rfl (by decide) rfl (by decide) rfl rfl rfl ?_
      refine w_p h_m1000 4 (pc' := 1018) (L' := [(0, .ref 0), (1, .ref 39), (2, .ref 143), (3, .int (0 : Int32))]) (st' := [.int (4 : Int32), .ref 0, .int (xs 3), .int (xs 2), .int (xs 1), .ref 143, .int (-1 : Int32)]) rfl ?_
      refine w_ae H (j := 4) (pc' := 1019) (L' := [(0, .ref 0), (1, .ref 39), (2, .ref 143), (3, .int (0 : Int32))]) h_m1000 (z_at.mk 1 rfl rfl) rfl rfl rfl (by decide) rfl (by decide) rfl rfl rfl ?_
      refine w_p h_m1000 4 (pc' := 1023) (L' := [(0, .ref 0), (1, .ref 39), (2, .ref 143), (3, .int (0 : Int32))]) (st' := [.int (5 : Int32), .ref 0, .int (xs 4), .int (xs 3), .int (xs 2), .int (xs 1), .ref 143, .int (-1 : Int32)]) rfl ?_
      refine w_ae H (j := 5) (pc' := 1024) (L' := [(0, .ref 0), (1, .ref 39), (2, .ref 143), (3, .int (0 : Int32))]) h_m1000 (z_at.mk 1 rfl rfl) rfl rfl rfl (by decide) rfl (by decide) rfl rfl rfl ?_
      refine w_cv (H.t rfl) (pc' := 1027) (L' := [(0, .ref 0), (1, .ref 39), (2, .ref 143), (3, .int (0 : Int32))]) (rest := [.int (-1 : Int32)]) (Ps := [.int (xs 1), .int (xs 2), .int (xs 3), .int (xs 4), .int (xs 5)]) (L0 := [(0, .ref 143), (1, .int (xs 1)), (2, .int (xs 2)), (3, .int (xs 3)), (4, .int (xs 4)), (5, .int (xs 5))]) h_m1000 (z_at.mk 3 rfl rfl) (Or.inl ⟨rfl, rfl⟩) rfl rfl (by decide) (by decide) rfl rfl rfl rfl rfl rfl (by decide) rfl rfl rfl ?_
      refine w_p h_m258 3 (pc' := 4) (L' := [(0, .ref 143), (1, .int (xs 1)), (2, .int (xs 2)), (3, .int (xs 3)), (4, .int (xs 4)), (5, .int (xs 5))]) (st' := [.int (6 : Int32), .int (0 : Int32), .int (xs 1)]) rfl ?_
      refine w_cs (As := [.int (xs 1), .int (0 : Int32), .int (6 : Int32)]) (rest := []) (j := 159) (L0 := [(0, .int (xs 1)), (1, .int (0 : Int32)), (2, .int (6 : Int32))]) (pc' := 7) (L' := [(0, .ref 143), (1, .int (xs 1)), (2, .int (xs 2)), (3, .int (xs 3)), (4, .int (xs 4)), (5, .int (xs 5))]) h_m258 (z_at.mk 3 rfl rfl) (Or.inl ⟨rfl, rfl⟩) rfl rfl rfl rfl rfl ?_
      refine w_p h_m159 2 (pc' := 2) (L' := [(0, .int (xs 1)), (1, .int (0 : Int32)), (2, .int (6 : Int32))]) (st' := [.int (0 : Int32), .int (xs 1)]) rfl ?_
      refine w_f2 (pc' := 5) (L' := [(0, .int (xs 1)), (1, .int (0 : Int32)), (2, .int (6 : Int32))]) h_m159 (z_at.mk 3 rfl rfl) rfl (zc (a := (xs 1).toInt) (b := 0) rfl rfl (decide_eq_false (by omega))) rfl rfl ?_
      refine w_p h_m159 2 (pc' := 7) (L' := [(0, .int (xs 1)), (1, .int (0 : Int32)), (2, .int (6 : Int32))]) (st' := [.int (6 : Int32), .int (xs 1)]) rfl ?_
      refine w_t2 (pc' := 14) (L' := []) h_m159 (z_at.mk 3 rfl rfl) rfl (zc (a := (xs 1).toInt) (b := 6) rfl rfl (decide_eq_true (by omega))) rfl rfl ?_
      refine w_p h_m159 1 (pc' := 15) (L' := []) (st' := [.int (0 : Int32)]) rfl ?_
      refine w_ri h_m159 (z_at.mk 1 rfl rfl) rfl rfl ?_
      show z_W 999 258 7 [(0, .ref 143), (1, .int (xs 1)), (2, .int (xs 2)), (3, .int (xs 3)), (4, .int (xs 4)), (5, .int (xs 5))] [.int (0 : Int32)] m _
      refine w_p h_m258 2 (pc' := 11) (L' := [(0, .ref 143), (1, .int (xs 1)), (2, .int (xs 2)), (3, .int (xs 3)), (4, .int (xs 4)), (5, .int (xs 5))]) (st' := [.int (-1 : Int32)]) rfl ?_
      refine w_ri h_m258 (z_at.mk 1 rfl rfl) rfl rfl ?_
      show z_W 1000 1000 1027 [(0, .ref 0), (1, .ref 39), (2, .ref 143), (3, .int (0 : Int32))] [.int (-1 : Int32), .int (-1 : Int32)] m _
      refine w_p h_m1000 5 (pc' := 20) (L' := [(0, .ref 0), (1, .ref 39), (2, .ref 143), (3, .int (6 : Int32))]) (st' := [.ref 0, .int (6 : Int32)]) rfl ?_
      refine w_lene H (x := (6 : Int32)) (pc' := 21) (L' := [(0, .ref 0), (1, .ref 39), (2, .ref 143), (3, .int (6 : Int32))]) h_m1000 (z_at.mk 1 rfl rfl) (by decide) rfl (by decide) rfl rfl rfl ?_
      refine w_p h_m1000 4 (pc' := 1381) (L' := [(0, .ref 0), (1, .ref 39), (2, .ref 143), (3, .int (6 : Int32))]) (st' := [.int (1 : Int32)]) rfl ?_
      refine w_ri h_m1000 (z_at.mk 1 rfl rfl) rfl rfl ?_
      exact hQ _ _ _ _ H (by decide) (by decide)
set_option maxHeartbeats 400000000 in
set_option maxRecDepth 20000 in
theorem w_c16 {xs : Nat → Int32} {m : zM} {Q : Option Value → zM → Prop} (H : w_ok 6 xs 168 63950 w_T0 m) (hQ : ∀ N S T m, w_ok 6 xs N S T m → N ≤ 600039 → S ≤ 7302250 → Q (some (.int 1)) m) : z_W 1000 1000 657 [(0, .ref 0), (1, .ref 39), (2, .ref 143), (3, .int (0 : Int32))] [] m Q := by
  have b1 := zi_bd (xs 1)
  have b2 := zi_bd (xs 2)
  have b3 := zi_bd (xs 3)
  have b4 := zi_bd (xs 4)
  have b5 := zi_bd (xs 5)
  refine w_p h_m1000 5 (pc' := 662) (L' := [(0, .ref 0), (1, .ref 39), (2, .ref 143), (3, .int (0 : Int32))]) (st' := [.int (1 : Int32), .ref 0, .ref 39]) rfl ?_
  refine w_ae H (j := 1) (pc' := 663) (L' := [(0, .ref 0), (1, .ref 39), (2, .ref 143), (3, .int (0 : Int32))]) h_m1000 (z_at.mk 1 rfl rfl) rfl rfl rfl (by decide) rfl (by decide) rfl rfl rfl ?_
  refine w_p h_m1000 4 (pc' := 667) (L' := [(0, .ref 0), (1, .ref 39), (2, .ref 143), (3, .int (0 : Int32))]) (st' := [.int (2 : Int32), .ref 0, .int (xs 1), .ref 39]) rfl ?_
  refine w_ae H (j := 2) (pc' := 668) (L' := [(0, .ref 0), (1, .ref 39), (2, .ref 143), (3, .int (0 : Int32))]) h_m1000 (z_at.mk 1 rfl rfl) rfl rfl rfl (by decide) rfl (by decide) rfl rfl rfl ?_
  refine w_p h_m1000 4 (pc' := 672) (L' := [(0, .ref 0), (1, .ref 39), (2, .ref 143), (3, .int (0 : Int32))]) (st' := [.int (3 : Int32), .ref 0, .int (xs 2), .int (xs 1), .ref 39]) rfl ?_
  refine w_ae H (j := 3) (pc' := 673) (L' := [(0, .ref 0), (1, .ref 39), (2, .ref 143), (3, .int (0 : Int32))]) h_m1000 (z_at.mk 1 rfl rfl) rfl rfl rfl (by decide) rfl (by decide) rfl rfl rfl ?_
  refine w_p h_m1000 4 (pc' := 677) (L' := [(0, .ref 0), (1, .ref 39), (2, .ref 143), (3, .int (0 : Int32))]) (st' := [.int (4 : Int32), .ref 0, .int (xs 3), .int (xs 2), .int (xs 1), .ref 39]) rfl ?_
  refine w_ae H (j := 4) (pc' := 678) (L' := [(0, .ref 0), (1, .ref 39), (2, .ref 143), (3, .int (0 : Int32))]) h_m1000 (z_at.mk 1 rfl rfl) rfl rfl rfl (by decide) rfl (by decide) rfl rfl rfl ?_
  refine w_cv (H.t rfl) (pc' := 681) (L' := [(0, .ref 0), (1, .ref 39), (2, .ref 143), (3, .int (0 : Int32))]) (rest := []) (Ps := [.int (xs 1), .int (xs 2), .int (xs 3), .int (xs 4)]) (L0 := [(0, .ref 39), (1, .int (xs 1)), (2, .int (xs 2)), (3, .int (xs 3)), (4, .int (xs 4))]) h_m1000 (z_at.mk 3 rfl rfl) (Or.inl ⟨rfl, rfl⟩) rfl rfl (by decide) (by decide) rfl rfl rfl rfl rfl rfl (by decide) rfl rfl rfl ?_
  refine w_p h_m135 4 (pc' := 5) (L' := [(0, .ref 39), (1, .int (xs 1)), (2, .int (xs 2)), (3, .int (xs 3)), (4, .int (xs 4))]) (st' := [.int (xs 4), .int (xs 3), .int (xs 2), .int (xs 1)]) rfl ?_
  refine w_cs (As := [.int (xs 1), .int (xs 2), .int (xs 3), .int (xs 4)]) (rest := []) (j := 1) (L0 := [(0, .int (xs 1)), (1, .int (xs 2)), (2, .int (xs 3)), (3, .int (xs 4))]) (pc' := 8) (L' := [(0, .ref 39), (1, .int (xs 1)), (2, .int (xs 2)), (3, .int (xs 3)), (4, .int (xs 4))]) h_m135 (z_at.mk 3 rfl rfl) (Or.inl ⟨rfl, rfl⟩) rfl rfl rfl rfl rfl ?_
  refine w_p h_m1 2 (pc' := 2) (L' := [(0, .int (xs 1)), (1, .int (xs 2)), (2, .int (xs 3)), (3, .int (xs 4))]) (st' := [.int (xs 3), .int (xs 1)]) rfl ?_
  refine w_cs (As := [.int (xs 1), .int (xs 3)]) (rest := []) (j := 0) (L0 := [(0, .int (xs 1)), (1, .int (xs 3))]) (pc' := 5) (L' := [(0, .int (xs 1)), (1, .int (xs 2)), (2, .int (xs 3)), (3, .int (xs 4))]) h_m1 (z_at.mk 3 rfl rfl) (Or.inl ⟨rfl, rfl⟩) rfl rfl rfl rfl rfl ?_
  refine w_p h_m0 1 (pc' := 1) (L' := [(0, .int (xs 1)), (1, .int (xs 3))]) (st' := [.int (xs 1)]) rfl ?_
  by_cases c_1 : (xs 1).toInt < 0
  · refine w_t1 (pc' := 24) (L' := []) h_m0 (z_at.mk 3 rfl rfl) rfl (zc (a := (xs 1).toInt) (b := 0) rfl rfl (decide_eq_true (by omega))) rfl rfl ?_
    refine w_p h_m0 1 (pc' := 25) (L' := []) (st' := [.int (0 : Int32)]) rfl ?_
    refine w_ri h_m0 (z_at.mk 1 rfl rfl) rfl rfl ?_
    show z_W 998 1 5 [(0, .int (xs 1)), (1, .int (xs 2)), (2, .int (xs 3)), (3, .int (xs 4))] [.int (0 : Int32)] m _
    refine w_p h_m1 2 (pc' := 31) (L' := []) (st' := [.int (0 : Int32)]) rfl ?_
    refine w_ri h_m1 (z_at.mk 1 rfl rfl) rfl rfl ?_
    show z_W 999 135 8 [(0, .ref 39), (1, .int (xs 1)), (2, .int (xs 2)), (3, .int (xs 3)), (4, .int (xs 4))] [.int (0 : Int32)] m _
    refine w_p h_m135 2 (pc' := 13) (L' := [(0, .ref 39), (1, .int (xs 1)), (2, .int (xs 2)), (3, .int (xs 3)), (4, .int (xs 4))]) (st' := [.int (-2 : Int32)]) rfl ?_
    refine w_ri h_m135 (z_at.mk 1 rfl rfl) rfl rfl ?_
    show z_W 1000 1000 681 [(0, .ref 0), (1, .ref 39), (2, .ref 143), (3, .int (0 : Int32))] [.int (-2 : Int32)] m _
    refine w_p h_m1000 5 (pc' := 686) (L' := [(0, .ref 0), (1, .ref 39), (2, .ref 143), (3, .int (0 : Int32))]) (st' := [.int (1 : Int32), .ref 0, .ref 143, .int (-2 : Int32)]) rfl ?_
    refine w_ae H (j := 1) (pc' := 687) (L' := [(0, .ref 0), (1, .ref 39), (2, .ref 143), (3, .int (0 : Int32))]) h_m1000 (z_at.mk 1 rfl rfl) rfl rfl rfl (by decide) rfl (by decide) rfl rfl rfl ?_
    refine w_p h_m1000 4 (pc' := 691) (L' := [(0, .ref 0), (1, .ref 39), (2, .ref 143), (3, .int (0 : Int32))]) (st' := [.int (2 : Int32), .ref 0, .int (xs 1), .ref 143, .int (-2 : Int32)]) rfl ?_
    refine w_ae H (j := 2) (pc' := 692) (L' := [(0, .ref 0), (1, .ref 39), (2, .ref 143), (3, .int (0 : Int32))]) h_m1000 (z_at.mk 1 rfl rfl) rfl rfl rfl (by decide) rfl (by decide) rfl rfl rfl ?_
    refine w_p h_m1000 4 (pc' := 696) (L' := [(0, .ref 0), (1, .ref 39), (2, .ref 143), (3, .int (0 : Int32))]) (st' := [.int (3 : Int32), .ref 0, .int (xs 2), .int (xs 1), .ref 143, .int (-2 : Int32)]) rfl ?_
    refine w_ae H (j := 3) (pc' := 697) (L' := [(0, .ref 0), (1, .ref 39), (2, .ref 143), (3, .int (0 : Int32))]) h_m1000 (z_at.mk 1 rfl rfl) rfl rfl rfl (by decide) rfl (by decide) rfl rfl rfl ?_
    refine w_p h_m1000 4 (pc' := 701) (L' := [(0, .ref 0), (1, .ref 39), (2, .ref 143), (3, .int (0 : Int32))]) (st' := [.int (4 : Int32), .ref 0, .int (xs 3), .int (xs 2), .int (xs 1), .ref 143, .int (-2 : Int32)]) rfl ?_
    refine w_ae H (j := 4) (pc' := 702) (L' := [(0, .ref 0), (1, .ref 39), (2, .ref 143), (3, .int (0 : Int32))]) h_m1000 (z_at.mk 1 rfl rfl) rfl rfl rfl (by decide) rfl (by decide) rfl rfl rfl ?_
    refine w_cv (H.t rfl) (pc' := 705) (L' := [(0, .ref 0), (1, .ref 39), (2, .ref 143), (3, .int (0 : Int32))]) (rest := [.int (-2 : Int32)]) (Ps := [.int (xs 1), .int (xs 2), .int (xs 3), .int (xs 4)]) (L0 := [(0, .ref 143), (1, .int (xs 1)), (2, .int (xs 2)), (3, .int (xs 3)), (4, .int (xs 4))]) h_m1000 (z_at.mk 3 rfl rfl) (Or.inl ⟨rfl, rfl⟩) rfl rfl (by decide) (by decide) rfl rfl rfl rfl rfl rfl (by decide) rfl rfl rfl ?_
    refine w_p h_m246 4 (pc' := 5) (L' := [(0, .ref 143), (1, .int (xs 1)), (2, .int (xs 2)), (3, .int (xs 3)), (4, .int (xs 4))]) (st' := [.int (xs 4), .int (xs 3), .int (xs 2), .int (xs 1)]) rfl ?_
    refine w_cs (As := [.int (xs 1), .int (xs 2), .int (xs 3), .int (xs 4)]) (rest := []) (j := 164) (L0 := [(0, .int (xs 1)), (1, .int (xs 2)), (2, .int (xs 3)), (3, .int (xs 4))]) (pc' := 8) (L' := [(0, .ref 143), (1, .int (xs 1)), (2, .int (xs 2)), (3, .int (xs 3)), (4, .int (xs 4))]) h_m246 (z_at.mk 3 rfl rfl) (Or.inl ⟨rfl, rfl⟩) rfl rfl rfl rfl rfl ?_
    refine w_p h_m164 3 (pc' := 4) (L' := [(0, .int (xs 1)), (1, .int (xs 2)), (2, .int (xs 3)), (3, .int (xs 4))]) (st' := [.int (31 : Int32), .int (0 : Int32), .int (xs 1)]) rfl ?_
    refine w_cs (As := [.int (xs 1), .int (0 : Int32), .int (31 : Int32)]) (rest := []) (j := 159) (L0 := [(0, .int (xs 1)), (1, .int (0 : Int32)), (2, .int (31 : Int32))]) (pc' := 7) (L' := [(0, .int (xs 1)), (1, .int (xs 2)), (2, .int (xs 3)), (3, .int (xs 4))]) h_m164 (z_at.mk 3 rfl rfl) (Or.inl ⟨rfl, rfl⟩) rfl rfl rfl rfl rfl ?_
    refine w_p h_m159 2 (pc' := 2) (L' := [(0, .int (xs 1)), (1, .int (0 : Int32)), (2, .int (31 : Int32))]) (st' := [.int (0 : Int32), .int (xs 1)]) rfl ?_
    refine w_t2 (pc' := 14) (L' := []) h_m159 (z_at.mk 3 rfl rfl) rfl (zc (a := (xs 1).toInt) (b := 0) rfl rfl (decide_eq_true (by omega))) rfl rfl ?_
    refine w_p h_m159 1 (pc' := 15) (L' := []) (st' := [.int (0 : Int32)]) rfl ?_
    refine w_ri h_m159 (z_at.mk 1 rfl rfl) rfl rfl ?_
    show z_W 998 164 7 [(0, .int (xs 1)), (1, .int (xs 2)), (2, .int (xs 3)), (3, .int (xs 4))] [.int (0 : Int32)] m _
    refine w_p h_m164 2 (pc' := 45) (L' := []) (st' := [.int (0 : Int32)]) rfl ?_
    refine w_ri h_m164 (z_at.mk 1 rfl rfl) rfl rfl ?_
    show z_W 999 246 8 [(0, .ref 143), (1, .int (xs 1)), (2, .int (xs 2)), (3, .int (xs 3)), (4, .int (xs 4))] [.int (0 : Int32)] m _
    refine w_p h_m246 2 (pc' := 13) (L' := [(0, .ref 143), (1, .int (xs 1)), (2, .int (xs 2)), (3, .int (xs 3)), (4, .int (xs 4))]) (st' := [.int (-2 : Int32)]) rfl ?_
    refine w_ri h_m246 (z_at.mk 1 rfl rfl) rfl rfl ?_
    show z_W 1000 1000 705 [(0, .ref 0), (1, .ref 39), (2, .ref 143), (3, .int (0 : Int32))] [.int (-2 : Int32), .int (-2 : Int32)] m _
    refine w_p h_m1000 5 (pc' := 20) (L' := [(0, .ref 0), (1, .ref 39), (2, .ref 143), (3, .int (6 : Int32))]) (st' := [.ref 0, .int (6 : Int32)]) rfl ?_
    refine w_lene H (x := (6 : Int32)) (pc' := 21) (L' := [(0, .ref 0), (1, .ref 39), (2, .ref 143), (3, .int (6 : Int32))]) h_m1000 (z_at.mk 1 rfl rfl) (by decide) rfl (by decide) rfl rfl rfl ?_
    refine w_p h_m1000 4 (pc' := 1381) (L' := [(0, .ref 0), (1, .ref 39), (2, .ref 143), (3, .int (6 : Int32))]) (st' := [.int (1 : Int32)]) rfl ?_
    refine w_ri h_m1000 (z_at.mk 1 rfl rfl) rfl rfl ?_
    exact hQ _ _ _ _ H (by decide) (by decide)
  · refine w_f1 (pc' := 4) (L' := [(0, .int (xs 1)), (1, .int (xs 3))]) h_m0 (z_at.mk 3 rfl rfl) rfl (zc (a := (xs 1).toInt) (b := 0) rfl rfl (decide_eq_false (by omega))) rfl rfl ?_
    refine w_p h_m0 2 (pc' := 7) (L' := [(0, .int (xs 1)), (1, .int (xs 3))]) (st' := [.int (32 : Int32), .int (xs 1)]) rfl ?_
    by_cases c_2 : (xs 1).toInt < 32
    · refine w_f2 (pc' := 10) (L' := [(0, .int (xs 1)), (1, .int (xs 3))]) h_m0 (z_at.mk 3 rfl rfl) rfl (zc (a := (xs 1).toInt) (b := 32) rfl rfl (decide_eq_false (by omega))) rfl rfl ?_
      refine w_p h_m0 1 (pc' := 11) (L' := [(0, .int (xs 1)), (1, .int (xs 3))]) (st' := [.int (xs 3)]) rfl ?_
      by_cases c_3 : (xs 3).toInt < 0
      · refine w_t1 (pc' := 24) (L' := []) h_m0 (z_at.mk 3 rfl rfl) rfl (zc (a := (xs 3).toInt) (b := 0) rfl rfl (decide_eq_true (by omega))) rfl rfl ?_
        refine w_p h_m0 1 (pc' := 25) (L' := []) (st' := [.int (0 : Int32)]) rfl ?_
        refine w_ri h_m0 (z_at.mk 1 rfl rfl) rfl rfl ?_
        show z_W 998 1 5 [(0, .int (xs 1)), (1, .int (xs 2)), (2, .int (xs 3)), (3, .int (xs 4))] [.int (0 : Int32)] m _
        refine w_p h_m1 2 (pc' := 31) (L' := []) (st' := [.int (0 : Int32)]) rfl ?_
        refine w_ri h_m1 (z_at.mk 1 rfl rfl) rfl rfl ?_
        show z_W 999 135 8 [(0, .ref 39), (1, .int (xs 1)), (2, .int (xs 2)), (3, .int (xs 3)), (4, .int (xs 4))] [.int (0 : Int32)] m _
        refine w_p h_m135 2 (pc' := 13) (L' := [(0, .ref 39), (1, .int (xs 1)), (2, .int (xs 2)), (3, .int (xs 3)), (4, .int (xs 4))]) (st' := [.int (-2 : Int32)]) rfl ?_
        refine w_ri h_m135 (z_at.mk 1 rfl rfl) rfl rfl ?_
        show z_W 1000 1000 681 [(0, .ref 0), (1, .ref 39), (2, .ref 143), (3, .int (0 : Int32))] [.int (-2 : Int32)] m _
        refine w_p h_m1000 5 (pc' := 686) (L' := [(0, .ref 0), (1, .ref 39), (2, .ref 143), (3, .int (0 : Int32))]) (st' := [.int (1 : Int32), .ref 0, .ref 143, .int (-2 : Int32)]) rfl ?_
        refine w_ae H (j := 1) (pc' := 687) (L' := [(0, .ref 0), (1, .ref 39), (2, .ref 143), (3, .int (0 : Int32))]) h_m1000 (z_at.mk 1 rfl rfl) rfl rfl rfl (by decide) rfl (by decide) rfl rfl rfl ?_
        refine w_p h_m1000 4 (pc' := 691) (L' := [(0, .ref 0), (1, .ref 39), (2, .ref 143), (3, .int (0 : Int32))]) (st' := [.int (2 : Int32), .ref 0, .int (xs 1), .ref 143, .int (-2 : Int32)]) rfl ?_
        refine w_ae H (j := 2) (pc' := 692) (L' := [(0, .ref 0), (1, .ref 39), (2, .ref 143), (3, .int (0 : Int32))]) h_m1000 (z_at.mk 1 rfl rfl) rfl rfl rfl (by decide) rfl (by decide) rfl rfl rfl ?_
        refine w_p h_m1000 4 (pc' := 696) (L' := [(0, .ref 0), (1, .ref 39), (2, .ref 143), (3, .int (0 : Int32))]) (st' := [.int (3 : Int32), .ref 0, .int (xs 2), .int (xs 1), .ref 143, .int (-2 : Int32)]) rfl ?_
        refine w_ae H (j := 3) (pc' := 697) (L' := [(0, .ref 0), (1, .ref 39), (2, .ref 143), (3, .int (0 : Int32))]) h_m1000 (z_at.mk 1 rfl rfl) rfl rfl rfl (by decide) rfl (by decide) rfl rfl rfl ?_
        refine w_p h_m1000 4 (pc' := 701) (L' := [(0, .ref 0), (1, .ref 39), (2, .ref 143), (3, .int (0 : Int32))]) (st' := [.int (4 : Int32), .ref 0, .int (xs 3), .int (xs 2), .int (xs 1), .ref 143, .int (-2 : Int32)]) rfl ?_
        refine w_ae H (j := 4) (pc' := 702) (L' := [(0, .ref 0), (1, .ref 39), (2, .ref 143), (3, .int (0 : Int32))]) h_m1000 (z_at.mk 1 rfl rfl) rfl rfl rfl (by decide) rfl (by decide) rfl rfl rfl ?_
        refine w_cv (H.t rfl) (pc' := 705) (L' := [(0, .ref 0), (1, .ref 39), (2, .ref 143), (3, .int (0 : Int32))]) (rest := [.int (-2 : Int32)]) (Ps := [.int (xs 1), .int (xs 2), .int (xs 3), .int (xs 4)]) (L0 := [(0, .ref 143), (1, .int (xs 1)), (2, .int (xs 2)), (3, .int (xs 3)), (4, .int (xs 4))]) h_m1000 (z_at.mk 3 rfl rfl) (Or.inl ⟨rfl, rfl⟩) rfl rfl (by decide) (by decide) rfl rfl rfl rfl rfl rfl (by decide) rfl rfl rfl ?_
        refine w_p h_m246 4 (pc' := 5) (L' := [(0, .ref 143), (1, .int (xs 1)), (2, .int (xs 2)), (3, .int (xs 3)), (4, .int (xs 4))]) (st' := [.int (xs 4), .int (xs 3), .int (xs 2), .int (xs 1)]) rfl ?_
        refine w_cs (As := [.int (xs 1), .int (xs 2), .int (xs 3), .int (xs 4)]) (rest := []) (j := 164) (L0 := [(0, .int (xs 1)), (1, .int (xs 2)), (2, .int (xs 3)), (3, .int (xs 4))]) (pc' := 8) (L' := [(0, .ref 143), (1, .int (xs 1)), (2, .int (xs 2)), (3, .int (xs 3)), (4, .int (xs 4))]) h_m246 (z_at.mk 3 rfl rfl) (Or.inl ⟨rfl, rfl⟩) rfl rfl rfl rfl rfl ?_
        refine w_p h_m164 3 (pc' := 4) (L' := [(0, .int (xs 1)), (1, .int (xs 2)), (2, .int (xs 3)), (3, .int (xs 4))]) (st' := [.int (31 : Int32), .int (0 : Int32), .int (xs 1)]) rfl ?_
        refine w_cs (As := [.int (xs 1), .int (0 : Int32), .int (31 : Int32)]) (rest := []) (j := 159) (L0 := [(0, .int (xs 1)), (1, .int (0 : Int32)), (2, .int (31 : Int32))]) (pc' := 7) (L' := [(0, .int (xs 1)), (1, .int (xs 2)), (2, .int (xs 3)), (3, .int (xs 4))]) h_m164 (z_at.mk 3 rfl rfl) (Or.inl ⟨rfl, rfl⟩) rfl rfl rfl rfl rfl ?_
        refine w_p h_m159 2 (pc' := 2) (L' := [(0, .int (xs 1)), (1, .int (0 : Int32)), (2, .int (31 : Int32))]) (st' := [.int (0 : Int32), .int (xs 1)]) rfl ?_
        refine w_f2 (pc' := 5) (L' := [(0, .int (xs 1)), (1, .int (0 : Int32)), (2, .int (31 : Int32))]) h_m159 (z_at.mk 3 rfl rfl) rfl (zc (a := (xs 1).toInt) (b := 0) rfl rfl (decide_eq_false (by omega))) rfl rfl ?_
        refine w_p h_m159 2 (pc' := 7) (L' := [(0, .int (xs 1)), (1, .int (0 : Int32)), (2, .int (31 : Int32))]) (st' := [.int (31 : Int32), .int (xs 1)]) rfl ?_
        refine w_f2 (pc' := 10) (L' := [(0, .int (xs 1)), (1, .int (0 : Int32)), (2, .int (31 : Int32))]) h_m159 (z_at.mk 3 rfl rfl) rfl (zc (a := (xs 1).toInt) (b := 31) rfl rfl (decide_eq_false (by omega))) rfl rfl ?_
        refine w_p h_m159 2 (pc' := 15) (L' := []) (st' := [.int (1 : Int32)]) rfl ?_
        refine w_ri h_m159 (z_at.mk 1 rfl rfl) rfl rfl ?_
        show z_W 998 164 7 [(0, .int (xs 1)), (1, .int (xs 2)), (2, .int (xs 3)), (3, .int (xs 4))] [.int (1 : Int32)] m _
        refine w_p h_m164 4 (pc' := 14) (L' := [(0, .int (xs 1)), (1, .int (xs 2)), (2, .int (xs 3)), (3, .int (xs 4))]) (st' := [.int (31 : Int32), .int (xs 1), .int (xs 2)]) rfl ?_
        refine w_cs (As := [.int (xs 2), .int (xs 1), .int (31 : Int32)]) (rest := []) (j := 159) (L0 := [(0, .int (xs 2)), (1, .int (xs 1)), (2, .int (31 : Int32))]) (pc' := 17) (L' := [(0, .int (xs 1)), (1, .int (xs 2)), (2, .int (xs 3)), (3, .int (xs 4))]) h_m164 (z_at.mk 3 rfl rfl) (Or.inl ⟨rfl, rfl⟩) rfl rfl rfl rfl rfl ?_
        refine w_p h_m159 2 (pc' := 2) (L' := [(0, .int (xs 2)), (1, .int (xs 1)), (2, .int (31 : Int32))]) (st' := [.int (xs 1), .int (xs 2)]) rfl ?_
        by_cases c_4 : (xs 2).toInt < (xs 1).toInt
        · refine w_t2 (pc' := 14) (L' := []) h_m159 (z_at.mk 3 rfl rfl) rfl (zc (a := (xs 2).toInt) (b := (xs 1).toInt) rfl rfl (decide_eq_true (by omega))) rfl rfl ?_
          refine w_p h_m159 1 (pc' := 15) (L' := []) (st' := [.int (0 : Int32)]) rfl ?_
          refine w_ri h_m159 (z_at.mk 1 rfl rfl) rfl rfl ?_
          show z_W 998 164 17 [(0, .int (xs 1)), (1, .int (xs 2)), (2, .int (xs 3)), (3, .int (xs 4))] [.int (0 : Int32)] m _
          refine w_p h_m164 2 (pc' := 45) (L' := []) (st' := [.int (0 : Int32)]) rfl ?_
          refine w_ri h_m164 (z_at.mk 1 rfl rfl) rfl rfl ?_
          show z_W 999 246 8 [(0, .ref 143), (1, .int (xs 1)), (2, .int (xs 2)), (3, .int (xs 3)), (4, .int (xs 4))] [.int (0 : Int32)] m _
          refine w_p h_m246 2 (pc' := 13) (L' := [(0, .ref 143), (1, .int (xs 1)), (2, .int (xs 2)), (3, .int (xs 3)), (4, .int (xs 4))]) (st' := [.int (-2 : Int32)]) rfl ?_
          refine w_ri h_m246 (z_at.mk 1 rfl rfl) rfl rfl ?_
          show z_W 1000 1000 705 [(0, .ref 0), (1, .ref 39), (2, .ref 143), (3, .int (0 : Int32))] [.int (-2 : Int32), .int (-2 : Int32)] m _
          refine w_p h_m1000 5 (pc' := 20) (L' := [(0, .ref 0), (1, .ref 39), (2, .ref 143), (3, .int (6 : Int32))]) (st' := [.ref 0, .int (6 : Int32)]) rfl ?_
          refine w_lene H (x := (6 : Int32)) (pc' := 21) (L' := [(0, .ref 0), (1, .ref 39), (2, .ref 143), (3, .int (6 : Int32))]) h_m1000 (z_at.mk 1 rfl rfl) (by decide) rfl (by decide) rfl rfl rfl ?_
          refine w_p h_m1000 4 (pc' := 1381) (L' := [(0, .ref 0), (1, .ref 39), (2, .ref 143), (3, .int (6 : Int32))]) (st' := [.int (1 : Int32)]) rfl ?_
          refine w_ri h_m1000 (z_at.mk 1 rfl rfl) rfl rfl ?_
          exact hQ _ _ _ _ H (by decide) (by decide)
        · refine w_f2 (pc' := 5) (L' := [(0, .int (xs 2)), (1, .int (xs 1)), (2, .int (31 : Int32))]) h_m159 (z_at.mk 3 rfl rfl) rfl (zc (a := (xs 2).toInt) (b := (xs 1).toInt) rfl rfl (decide_eq_false (by omega))) rfl rfl ?_
          refine w_p h_m159 2 (pc' := 7) (L' := [(0, .int (xs 2)), (1, .int (xs 1)), (2, .int (31 : Int32))]) (st' := [.int (31 : Int32), .int (xs 2)]) rfl ?_
          by_cases c_5 : (xs 2).toInt ≤ 31
          · refine w_f2 (pc' := 10) (L' := [(0, .int (xs 2)), (1, .int (xs 1)), (2, .int (31 : Int32))]) h_m159 (z_at.mk 3 rfl rfl) rfl (zc (a := (xs 2).toInt) (b := 31) rfl rfl (decide_eq_false (by omega))) rfl rfl ?_
            refine w_p h_m159 2 (pc' := 15) (L' := []) (st' := [.int (1 : Int32)]) rfl ?_
            refine w_ri h_m159 (z_at.mk 1 rfl rfl) rfl rfl ?_
            show z_W 998 164 17 [(0, .int (xs 1)), (1, .int (xs 2)), (2, .int (xs 3)), (3, .int (xs 4))] [.int (1 : Int32)] m _
            refine w_p h_m164 4 (pc' := 24) (L' := [(0, .int (xs 1)), (1, .int (xs 2)), (2, .int (xs 3)), (3, .int (xs 4))]) (st' := [.int (31 : Int32), .int (0 : Int32), .int (xs 3)]) rfl ?_
            refine w_cs (As := [.int (xs 3), .int (0 : Int32), .int (31 : Int32)]) (rest := []) (j := 159) (L0 := [(0, .int (xs 3)), (1, .int (0 : Int32)), (2, .int (31 : Int32))]) (pc' := 27) (L' := [(0, .int (xs 1)), (1, .int (xs 2)), (2, .int (xs 3)), (3, .int (xs 4))]) h_m164 (z_at.mk 3 rfl rfl) (Or.inl ⟨rfl, rfl⟩) rfl rfl rfl rfl rfl ?_
            refine w_p h_m159 2 (pc' := 2) (L' := [(0, .int (xs 3)), (1, .int (0 : Int32)), (2, .int (31 : Int32))]) (st' := [.int (0 : Int32), .int (xs 3)]) rfl ?_
            refine w_t2 (pc' := 14) (L' := []) h_m159 (z_at.mk 3 rfl rfl) rfl (zc (a := (xs 3).toInt) (b := 0) rfl rfl (decide_eq_true (by omega))) rfl rfl ?_
            refine w_p h_m159 1 (pc' := 15) (L' := []) (st' := [.int (0 : Int32)]) rfl ?_
            refine w_ri h_m159 (z_at.mk 1 rfl rfl) rfl rfl ?_
            show z_W 998 164 27 [(0, .int (xs 1)), (1, .int (xs 2)), (2, .int (xs 3)), (3, .int (xs 4))] [.int (0 : Int32)] m _
            refine w_p h_m164 2 (pc' := 45) (L' := []) (st' := [.int (0 : Int32)]) rfl ?_
            refine w_ri h_m164 (z_at.mk 1 rfl rfl) rfl rfl ?_
            show z_W 999 246 8 [(0, .ref 143), (1, .int (xs 1)), (2, .int (xs 2)), (3, .int (xs 3)), (4, .int (xs 4))] [.int (0 : Int32)] m _
            refine w_p h_m246 2 (pc' := 13) (L' := [(0, .ref 143), (1, .int (xs 1)), (2, .int (xs 2)), (3, .int (xs 3)), (4, .int (xs 4))]) (st' := [.int (-2 : Int32)]) rfl ?_
            refine w_ri h_m246 (z_at.mk 1 rfl rfl) rfl rfl ?_
            show z_W 1000 1000 705 [(0, .ref 0), (1, .ref 39), (2, .ref 143), (3, .int (0 : Int32))] [.int (-2 : Int32), .int (-2 : Int32)] m _
            refine w_p h_m1000 5 (pc' := 20) (L' := [(0, .ref 0), (1, .ref 39), (2, .ref 143), (3, .int (6 : Int32))]) (st' := [.ref 0, .int (6 : Int32)]) rfl ?_
            refine w_lene H (x := (6 : Int32)) (pc' := 21) (L' := [(0, .ref 0), (1, .ref 39), (2, .ref 143), (3, .int (6 : Int32))]) h_m1000 (z_at.mk 1 rfl rfl) (by decide) rfl (by decide) rfl rfl rfl ?_
            refine w_p h_m1000 4 (pc' := 1381) (L' := [(0, .ref 0), (1, .ref 39), (2, .ref 143), (3, .int (6 : Int32))]) (st' := [.int (1 : Int32)]) rfl ?_
            refine w_ri h_m1000 (z_at.mk 1 rfl rfl) rfl rfl ?_
            exact hQ _ _ _ _ H (by decide) (by decide)
          · refine w_t2 (pc' := 14) (L' := []) h_m159 (z_at.mk 3 rfl rfl) rfl (zc (a := (xs 2).toInt) (b := 31) rfl rfl (decide_eq_true (by omega))) rfl rfl ?_
            refine w_p h_m159 1 (pc' := 15) (L' := []) (st' := [.int (0 : Int32)]) rfl ?_
            refine w_ri h_m159 (z_at.mk 1 rfl rfl) rfl rfl ?_
            show z_W 998 164 17 [(0, .int (xs 1)), (1, .int (xs 2)), (2, .int (xs 3)), (3, .int (xs 4))] [.int (0 : Int32)] m _
            refine w_p h_m164 2 (pc' := 45) (L' := []) (st' := [.int (0 : Int32)]) rfl ?_
            refine w_ri h_m164 (z_at.mk 1 rfl rfl) rfl rfl ?_
            show z_W 999 246 8 [(0, .ref 143), (1, .int (xs 1)), (2, .int (xs 2)), (3, .int (xs 3)), (4, .int (xs 4))] [.int (0 : Int32)] m _
            refine w_p h_m246 2 (pc' := 13) (L' := [(0, .ref 143), (1, .int (xs 1)), (2, .int (xs 2)), (3, .int (xs 3)), (4, .int (xs 4))]) (st' := [.int (-2 : Int32)]) rfl ?_
            refine w_ri h_m246 (z_at.mk 1 rfl rfl) rfl rfl ?_
            show z_W 1000 1000 705 [(0, .ref 0), (1, .ref 39), (2, .ref 143), (3, .int (0 : Int32))] [.int (-2 : Int32), .int (-2 : Int32)] m _
            refine w_p h_m1000 5 (pc' := 20) (L' := [(0, .ref 0), (1, .ref 39), (2, .ref 143), (3, .int (6 : Int32))]) (st' := [.ref 0, .int (6 : Int32)]) rfl ?_
            refine w_lene H (x := (6 : Int32)) (pc' := 21) (L' := [(0, .ref 0), (1, .ref 39), (2, .ref 143), (3, .int (6 : Int32))]) h_m1000 (z_at.mk 1 rfl rfl) (by decide) rfl (by decide) rfl rfl rfl ?_
            refine w_p h_m1000 4 (pc' := 1381) (L' := [(0, .ref 0), (1, .ref 39), (2, .ref 143), (3, .int (6 : Int32))]) (st' := [.int (1 : Int32)]) rfl ?_
            refine w_ri h_m1000 (z_at.mk 1 rfl rfl) rfl rfl ?_
            exact hQ _ _ _ _ H (by decide) (by decide)
      · refine w_f1 (pc' := 14) (L' := [(0, .int (xs 1)), (1, .int (xs 3))]) h_m0 (z_at.mk 3 rfl rfl) rfl (zc (a := (xs 3).toInt) (b := 0) rfl rfl (decide_eq_false (by omega))) rfl rfl ?_
        refine w_p h_m0 2 (pc' := 17) (L' := [(0, .int (xs 1)), (1, .int (xs 3))]) (st' := [.int (32 : Int32), .int (xs 3)]) rfl ?_
        by_cases c_4 : (xs 3).toInt < 32
        · refine w_f2 (pc' := 20) (L' := [(0, .int (xs 1)), (1, .int (xs 3))]) h_m0 (z_at.mk 3 rfl rfl) rfl (zc (a := (xs 3).toInt) (b := 32) rfl rfl (decide_eq_false (by omega))) rfl rfl ?_
          refine w_p h_m0 2 (pc' := 25) (L' := []) (st' := [.int (1 : Int32)]) rfl ?_
          refine w_ri h_m0 (z_at.mk 1 rfl rfl) rfl rfl ?_
          show z_W 998 1 5 [(0, .int (xs 1)), (1, .int (xs 2)), (2, .int (xs 3)), (3, .int (xs 4))] [.int (1 : Int32)] m _
          refine w_p h_m1 3 (pc' := 10) (L' := [(0, .int (xs 1)), (1, .int (xs 2)), (2, .int (xs 3)), (3, .int (xs 4))]) (st' := [.int (xs 4), .int (xs 2)]) rfl ?_
          refine w_cs (As := [.int (xs 2), .int (xs 4)]) (rest := []) (j := 0) (L0 := [(0, .int (xs 2)), (1, .int (xs 4))]) (pc' := 13) (L' := [(0, .int (xs 1)), (1, .int (xs 2)), (2, .int (xs 3)), (3, .int (xs 4))]) h_m1 (z_at.mk 3 rfl rfl) (Or.inl ⟨rfl, rfl⟩) rfl rfl rfl rfl rfl ?_
          refine w_p h_m0 1 (pc' := 1) (L' := [(0, .int (xs 2)), (1, .int (xs 4))]) (st' := [.int (xs 2)]) rfl ?_
          by_cases c_5 : (xs 2).toInt < 0
          · refine w_t1 (pc' := 24) (L' := []) h_m0 (z_at.mk 3 rfl rfl) rfl (zc (a := (xs 2).toInt) (b := 0) rfl rfl (decide_eq_true (by omega))) rfl rfl ?_
            refine w_p h_m0 1 (pc' := 25) (L' := []) (st' := [.int (0 : Int32)]) rfl ?_
            refine w_ri h_m0 (z_at.mk 1 rfl rfl) rfl rfl ?_
            show z_W 998 1 13 [(0, .int (xs 1)), (1, .int (xs 2)), (2, .int (xs 3)), (3, .int (xs 4))] [.int (0 : Int32)] m _
            refine w_p h_m1 2 (pc' := 31) (L' := []) (st' := [.int (0 : Int32)]) rfl ?_
            refine w_ri h_m1 (z_at.mk 1 rfl rfl) rfl rfl ?_
            show z_W 999 135 8 [(0, .ref 39), (1, .int (xs 1)), (2, .int (xs 2)), (3, .int (xs 3)), (4, .int (xs 4))] [.int (0 : Int32)] m _
            refine w_p h_m135 2 (pc' := 13) (L' := [(0, .ref 39), (1, .int (xs 1)), (2, .int (xs 2)), (3, .int (xs 3)), (4, .int (xs 4))]) (st' := [.int (-2 : Int32)]) rfl ?_
            refine w_ri h_m135 (z_at.mk 1 rfl rfl) rfl rfl ?_
            show z_W 1000 1000 681 [(0, .ref 0), (1, .ref 39), (2, .ref 143), (3, .int (0 : Int32))] [.int (-2 : Int32)] m _
            refine w_p h_m1000 5 (pc' := 686) (L' := [(0, .ref 0), (1, .ref 39), (2, .ref 143), (3, .int (0 : Int32))]) (st' := [.int (1 : Int32), .ref 0, .ref 143, .int (-2 : Int32)]) rfl ?_
            refine w_ae H (j := 1) (pc' := 687) (L' := [(0, .ref 0), (1, .ref 39), (2, .ref 143), (3, .int (0 : Int32))]) h_m1000 (z_at.mk 1 rfl rfl) rfl rfl rfl (by decide) rfl (by decide) rfl rfl rfl ?_
            refine w_p h_m1000 4 (pc' := 691) (L' := [(0, .ref 0), (1, .ref 39), (2, .ref 143), (3, .int (0 : Int32))]) (st' := [.int (2 : Int32), .ref 0, .int (xs 1), .ref 143, .int (-2 : Int32)]) rfl ?_
            refine w_ae H (j := 2) (pc' := 692) (L' := [(0, .ref 0), (1, .ref 39), (2, .ref 143), (3, .int (0 : Int32))]) h_m1000 (z_at.mk 1 rfl rfl) rfl rfl rfl (by decide) rfl (by decide) rfl rfl rfl ?_
            refine w_p h_m1000 4 (pc' := 696) (L' := [(0, .ref 0), (1, .ref 39), (2, .ref 143), (3, .int (0 : Int32))]) (st' := [.int (3 : Int32), .ref 0, .int (xs 2), .int (xs 1), .ref 143, .int (-2 : Int32)]) rfl ?_
            refine w_ae H (j := 3) (pc' := 697) (L' := [(0, .ref 0), (1, .ref 39), (2, .ref 143), (3, .int (0 : Int32))]) h_m1000 (z_at.mk 1 rfl rfl) rfl rfl rfl (by decide) rfl (by decide) rfl rfl rfl ?_
            refine w_p h_m1000 4 (pc' := 701) (L' := [(0, .ref 0), (1, .ref 39), (2, .ref 143), (3, .int (0 : Int32))]) (st' := [.int (4 : Int32), .ref 0, .int (xs 3), .int (xs 2), .int (xs 1), .ref 143, .int (-2 : Int32)]) rfl ?_
            refine w_ae H (j := 4) (pc' := 702) (L' := [(0, .ref 0), (1, .ref 39), (2, .ref 143), (3, .int (0 : Int32))]) h_m1000 (z_at.mk 1 rfl rfl) rfl rfl rfl (by decide) rfl (by decide) rfl rfl rfl ?_
            refine w_cv (H.t rfl) (pc' := 705) (L' := [(0, .ref 0), (1, .ref 39), (2, .ref 143), (3, .int (0 : Int32))]) (rest := [.int (-2 : Int32)]) (Ps := [.int (xs 1), .int (xs 2), .int (xs 3), .int (xs 4)]) (L0 := [(0, .ref 143), (1, .int (xs 1)), (2, .int (xs 2)), (3, .int (xs 3)), (4, .int (xs 4))]) h_m1000 (z_at.mk 3 rfl rfl) (Or.inl ⟨rfl, rfl⟩) rfl rfl (by decide) (by decide) rfl rfl rfl rfl rfl rfl (by decide) rfl rfl rfl ?_
            refine w_p h_m246 4 (pc' := 5) (L' := [(0, .ref 143), (1, .int (xs 1)), (2, .int (xs 2)), (3, .int (xs 3)), (4, .int (xs 4))]) (st' := [.int (xs 4), .int (xs 3), .int (xs 2), .int (xs 1)]) rfl ?_
            refine w_cs (As := [.int (xs 1), .int (xs 2), .int (xs 3), .int (xs 4)]) (rest := []) (j := 164) (L0 := [(0, .int (xs 1)), (1, .int (xs 2)), (2, .int (xs 3)), (3, .int (xs 4))]) (pc' := 8) (L' := [(0, .ref 143), (1, .int (xs 1)), (2, .int (xs 2)), (3, .int (xs 3)), (4, .int (xs 4))]) h_m246 (z_at.mk 3 rfl rfl) (Or.inl ⟨rfl, rfl⟩) rfl rfl rfl rfl rfl ?_
            refine w_p h_m164 3 (pc' := 4) (L' := [(0, .int (xs 1)), (1, .int (xs 2)), (2, .int (xs 3)), (3, .int (xs 4))]) (st' := [.int (31 : Int32), .int (0 : Int32), .int (xs 1)]) rfl ?_
            refine w_cs (As := [.int (xs 1), .int (0 : Int32), .int (31 : Int32)]) (rest := []) (j := 159) (L0 := [(0, .int (xs 1)), (1, .int (0 : Int32)), (2, .int (31 : Int32))]) (pc' := 7) (L' := [(0, .int (xs 1)), (1, .int (xs 2)), (2, .int (xs 3)), (3, .int (xs 4))]) h_m164 (z_at.mk 3 rfl rfl) (Or.inl ⟨rfl, rfl⟩) rfl rfl rfl rfl rfl ?_
            refine w_p h_m159 2 (pc' := 2) (L' := [(0, .int (xs 1)), (1, .int (0 : Int32)), (2, .int (31 : Int32))]) (st' := [.int (0 : Int32), .int (xs 1)]) rfl ?_
            refine w_f2 (pc' := 5) (L' := [(0, .int (xs 1)), (1, .int (0 : Int32)), (2, .int (31 : Int32))]) h_m159 (z_at.mk 3 rfl rfl) rfl (zc (a := (xs 1).toInt) (b := 0) rfl rfl (decide_eq_false (by omega))) rfl rfl ?_
            refine w_p h_m159 2 (pc' := 7) (L' := [(0, .int (xs 1)), (1, .int (0 : Int32)), (2, .int (31 : Int32))]) (st' := [.int (31 : Int32), .int (xs 1)]) rfl ?_
            refine w_f2 (pc' := 10) (L' := [(0, .int (xs 1)), (1, .int (0 : Int32)), (2, .int (31 : Int32))]) h_m159 (z_at.mk 3 rfl rfl) rfl (zc (a := (xs 1).toInt) (b := 31) rfl rfl (decide_eq_false (by omega))) rfl rfl ?_
            refine w_p h_m159 2 (pc' := 15) (L' := []) (st' := [.int (1 : Int32)]) rfl ?_
            refine w_ri h_m159 (z_at.mk 1 rfl rfl) rfl rfl ?_
            show z_W 998 164 7 [(0, .int (xs 1)), (1, .int (xs 2)), (2, .int (xs 3)), (3, .int (xs 4))] [.int (1 : Int32)] m _
            refine w_p h_m164 4 (pc' := 14) (L' := [(0, .int (xs 1)), (1, .int (xs 2)), (2, .int (xs 3)), (3, .int (xs 4))]) (st' := [.int (31 : Int32), .int (xs 1), .int (xs 2)]) rfl ?_
            refine w_cs (As := [.int (xs 2), .int (xs 1), .int (31 : Int32)]) (rest := []) (j := 159) (L0 := [(0, .int (xs 2)), (1, .int (xs 1)), (2, .int (31 : Int32))]) (pc' := 17) (L' := [(0, .int (xs 1)), (1, .int (xs 2)), (2, .int (xs 3)), (3, .int (xs 4))]) h_m164 (z_at.mk 3 rfl rfl) (Or.inl ⟨rfl, rfl⟩) rfl rfl rfl rfl rfl ?_
            refine w_p h_m159 2 (pc' := 2) (L' := [(0, .int (xs 2)), (1, .int (xs 1)), (2, .int (31 : Int32))]) (st' := [.int (xs 1), .int (xs 2)]) rfl ?_
            refine w_t2 (pc' := 14) (L' := []) h_m159 (z_at.mk 3 rfl rfl) rfl (zc (a := (xs 2).toInt) (b := (xs 1).toInt) rfl rfl (decide_eq_true (by omega))) rfl rfl ?_
            refine w_p h_m159 1 (pc' := 15) (L' := []) (st' := [.int (0 : Int32)]) rfl ?_
            refine w_ri h_m159 (z_at.mk 1 rfl rfl) rfl rfl ?_
            show z_W 998 164 17 [(0, .int (xs 1)), (1, .int (xs 2)), (2, .int (xs 3)), (3, .int (xs 4))] [.int (0 : Int32)] m _
            refine w_p h_m164 2 (pc' := 45) (L' := []) (st' := [.int (0 : Int32)]) rfl ?_
            refine w_ri h_m164 (z_at.mk 1 rfl rfl) rfl rfl ?_
            show z_W 999 246 8 [(0, .ref 143), (1, .int (xs 1)), (2, .int (xs 2)), (3, .int (xs 3)), (4, .int (xs 4))] [.int (0 : Int32)] m _
            refine w_p h_m246 2 (pc' := 13) (L' := [(0, .ref 143), (1, .int (xs 1)), (2, .int (xs 2)), (3, .int (xs 3)), (4, .int (xs 4))]) (st' := [.int (-2 : Int32)]) rfl ?_
            refine w_ri h_m246 (z_at.mk 1 rfl rfl) rfl rfl ?_
            show z_W 1000 1000 705 [(0, .ref 0), (1, .ref 39), (2, .ref 143), (3, .int (0 : Int32))] [.int (-2 : Int32), .int (-2 : Int32)] m _
            refine w_p h_m1000 5 (pc' := 20) (L' := [(0, .ref 0), (1, .ref 39), (2, .ref 143), (3, .int (6 : Int32))]) (st' := [.ref 0, .int (6 : Int32)]) rfl ?_
            refine w_lene H (x := (6 : Int32)) (pc' := 21) (L' := [(0, .ref 0), (1, .ref 39), (2, .ref 143), (3, .int (6 : Int32))]) h_m1000 (z_at.mk 1 rfl rfl) (by decide) rfl (by decide) rfl rfl rfl ?_
            refine w_p h_m1000 4 (pc' := 1381) (L' := [(0, .ref 0), (1, .ref 39), (2, .ref 143), (3, .int (6 : Int32))]) (st' := [.int (1 : Int32)]) rfl ?_
            refine w_ri h_m1000 (z_at.mk 1 rfl rfl) rfl rfl ?_
            exact hQ _ _ _ _ H (by decide) (by decide)
          · refine w_f1 (pc' := 4) (L' := [(0, .int (xs 2)), (1, .int (xs 4))]) h_m0 (z_at.mk 3 rfl rfl) rfl (zc (a := (xs 2).toInt) (b := 0) rfl rfl (decide_eq_false (by omega))) rfl rfl ?_
            refine w_p h_m0 2 (pc' := 7) (L' := [(0, .int (xs 2)), (1, .int (xs 4))]) (st' := [.int (32 : Int32), .int (xs 2)]) rfl ?_
            by_cases c_6 : (xs 2).toInt < 32
            · refine w_f2 (pc' := 10) (L' := [(0, .int (xs 2)), (1, .int (xs 4))]) h_m0 (z_at.mk 3 rfl rfl) rfl (zc (a := (xs 2).toInt) (b := 32) rfl rfl (decide_eq_false (by omega))) rfl rfl ?_
              refine w_p h_m0 1 (pc' := 11) (L' := [(0, .int (xs 2)), (1, .int (xs 4))]) (st' := [.int (xs 4)]) rfl ?_
              by_cases c_7 : (xs 4).toInt < 0
              · refine w_t1 (pc' := 24) (L' := []) h_m0 (z_at.mk 3 rfl rfl) rfl (zc (a := (xs 4).toInt) (b := 0) rfl rfl (decide_eq_true (by omega))) rfl rfl ?_
                refine w_p h_m0 1 (pc' := 25) (L' := []) (st' := [.int (0 : Int32)]) rfl ?_
                refine w_ri h_m0 (z_at.mk 1 rfl rfl) rfl rfl ?_
                show z_W 998 1 13 [(0, .int (xs 1)), (1, .int (xs 2)), (2, .int (xs 3)), (3, .int (xs 4))] [.int (0 : Int32)] m _
                refine w_p h_m1 2 (pc' := 31) (L' := []) (st' := [.int (0 : Int32)]) rfl ?_
                refine w_ri h_m1 (z_at.mk 1 rfl rfl) rfl rfl ?_
                show z_W 999 135 8 [(0, .ref 39), (1, .int (xs 1)), (2, .int (xs 2)), (3, .int (xs 3)), (4, .int (xs 4))] [.int (0 : Int32)] m _
                refine w_p h_m135 2 (pc' := 13) (L' := [(0, .ref 39), (1, .int (xs 1)), (2, .int (xs 2)), (3, .int (xs 3)), (4, .int (xs 4))]) (st' := [.int (-2 : Int32)]) rfl ?_
                refine w_ri h_m135 (z_at.mk 1 rfl rfl) rfl rfl ?_
                show z_W 1000 1000 681 [(0, .ref 0), (1, .ref 39), (2, .ref 143), (3, .int (0 : Int32))] [.int (-2 : Int32)] m _
                refine w_p h_m1000 5 (pc' := 686) (L' := [(0, .ref 0), (1, .ref 39), (2, .ref 143), (3, .int (0 : Int32))]) (st' := [.int (1 : Int32), .ref 0, .ref 143, .int (-2 : Int32)]) rfl ?_
                refine w_ae H (j := 1) (pc' := 687) (L' := [(0, .ref 0), (1, .ref 39), (2, .ref 143), (3, .int (0 : Int32))]) h_m1000 (z_at.mk 1 rfl rfl) rfl rfl rfl (by decide) rfl (by decide) rfl rfl rfl ?_
                refine w_p h_m1000 4 (pc' := 691) (L' := [(0, .ref 0), (1, .ref 39), (2, .ref 143), (3, .int (0 : Int32))]) (st' := [.int (2 : Int32), .ref 0, .int (xs 1), .ref 143, .int (-2 : Int32)]) rfl ?_
                refine w_ae H (j := 2) (pc' := 692) (L' := [(0, .ref 0), (1, .ref 39), (2, .ref 143), (3, .int (0 : Int32))]) h_m1000 (z_at.mk 1 rfl rfl) rfl rfl rfl (by decide) rfl (by decide) rfl rfl rfl ?_
                refine w_p h_m1000 4 (pc' := 696) (L' := [(0, .ref 0), (1, .ref 39), (2, .ref 143), (3, .int (0 : Int32))]) (st' := [.int (3 : Int32), .ref 0, .int (xs 2), .int (xs 1), .ref 143, .int (-2 : Int32)]) rfl ?_
                refine w_ae H (j := 3) (pc' := 697) (L' := [(0, .ref 0), (1, .ref 39), (2, .ref 143), (3, .int (0 : Int32))]) h_m1000 (z_at.mk 1 rfl rfl) rfl rfl rfl (by decide) rfl (by decide) rfl rfl rfl ?_
                refine w_p h_m1000 4 (pc' := 701) (L' := [(0, .ref 0), (1, .ref 39), (2, .ref 143), (3, .int (0 : Int32))]) (st' := [.int (4 : Int32), .ref 0, .int (xs 3), .int (xs 2), .int (xs 1), .ref 143, .int (-2 : Int32)]) rfl ?_
                refine w_ae H (j := 4) (pc' := 702) (L' := [(0, .ref 0), (1, .ref 39), (2, .ref 143), (3, .int (0 : Int32))]) h_m1000 (z_at.mk 1 rfl rfl) rfl rfl rfl (by decide) rfl (by decide) rfl rfl rfl ?_
                refine w_cv (H.t rfl) (pc' := 705) (L' := [(0, .ref 0), (1, .ref 39), (2, .ref 143), (3, .int (0 : Int32))]) (rest := [.int (-2 : Int32)]) (Ps := [.int (xs 1), .int (xs 2), .int (xs 3), .int (xs 4)]) (L0 := [(0, .ref 143), (1, .int (xs 1)), (2, .int (xs 2)), (3, .int (xs 3)), (4, .int (xs 4))]) h_m1000 (z_at.mk 3 rfl rfl) (Or.inl ⟨rfl, rfl⟩) rfl rfl (by decide) (by decide) rfl rfl rfl rfl rfl rfl (by decide) rfl rfl rfl ?_
                refine w_p h_m246 4 (pc' := 5) (L' := [(0, .ref 143), (1, .int (xs 1)), (2, .int (xs 2)), (3, .int (xs 3)), (4, .int (xs 4))]) (st' := [.int (xs 4), .int (xs 3), .int (xs 2), .int (xs 1)]) rfl ?_
                refine w_cs (As := [.int (xs 1), .int (xs 2), .int (xs 3), .int (xs 4)]) (rest := []) (j := 164) (L0 := [(0, .int (xs 1)), (1, .int (xs 2)), (2, .int (xs 3)), (3, .int (xs 4))]) (pc' := 8) (L' := [(0, .ref 143), (1, .int (xs 1)), (2, .int (xs 2)), (3, .int (xs 3)), (4, .int (xs 4))]) h_m246 (z_at.mk 3 rfl rfl) (Or.inl ⟨rfl, rfl⟩) rfl rfl rfl rfl rfl ?_
                refine w_p h_m164 3 (pc' := 4) (L' := [(0, .int (xs 1)), (1, .int (xs 2)), (2, .int (xs 3)), (3, .int (xs 4))]) (st' := [.int (31 : Int32), .int (0 : Int32), .int (xs 1)]) rfl ?_
                refine w_cs (As := [.int (xs 1), .int (0 : Int32), .int (31 : Int32)]) (rest := []) (j := 159) (L0 := [(0, .int (xs 1)), (1, .int (0 : Int32)), (2, .int (31 : Int32))]) (pc' := 7) (L' := [(0, .int (xs 1)), (1, .int (xs 2)), (2, .int (xs 3)), (3, .int (xs 4))]) h_m164 (z_at.mk 3 rfl rfl) (Or.inl ⟨rfl, rfl⟩) rfl rfl rfl rfl rfl ?_
                refine w_p h_m159 2 (pc' := 2) (L' := [(0, .int (xs 1)), (1, .int (0 : Int32)), (2, .int (31 : Int32))]) (st' := [.int (0 : Int32), .int (xs 1)]) rfl ?_
                refine w_f2 (pc' := 5) (L' := [(0, .int (xs 1)), (1, .int (0 : Int32)), (2, .int (31 : Int32))]) h_m159 (z_at.mk 3 rfl rfl) rfl (zc (a := (xs 1).toInt) (b := 0) rfl rfl (decide_eq_false (by omega))) rfl rfl ?_
                refine w_p h_m159 2 (pc' := 7) (L' := [(0, .int (xs 1)), (1, .int (0 : Int32)), (2, .int (31 : Int32))]) (st' := [.int (31 : Int32), .int (xs 1)]) rfl ?_
                refine w_f2 (pc' := 10) (L' := [(0, .int (xs 1)), (1, .int (0 : Int32)), (2, .int (31 : Int32))]) h_m159 (z_at.mk 3 rfl rfl) rfl (zc (a := (xs 1).toInt) (b := 31) rfl rfl (decide_eq_false (by omega))) rfl rfl ?_
                refine w_p h_m159 2 (pc' := 15) (L' := []) (st' := [.int (1 : Int32)]) rfl ?_
                refine w_ri h_m159 (z_at.mk 1 rfl rfl) rfl rfl ?_
                show z_W 998 164 7 [(0, .int (xs 1)), (1, .int (xs 2)), (2, .int (xs 3)), (3, .int (xs 4))] [.int (1 : Int32)] m _
                refine w_p h_m164 4 (pc' := 14) (L' := [(0, .int (xs 1)), (1, .int (xs 2)), (2, .int (xs 3)), (3, .int (xs 4))]) (st' := [.int (31 : Int32), .int (xs 1), .int (xs 2)]) rfl ?_
                refine w_cs (As := [.int (xs 2), .int (xs 1), .int (31 : Int32)]) (rest := []) (j := 159) (L0 := [(0, .int (xs 2)), (1, .int (xs 1)), (2, .int (31 : Int32))]) (pc' := 17) (L' := [(0, .int (xs 1)), (1, .int (xs 2)), (2, .int (xs 3)), (3, .int (xs 4))]) h_m164 (z_at.mk 3 rfl rfl) (Or.inl ⟨rfl, rfl⟩) rfl rfl rfl rfl rfl ?_
                refine w_p h_m159 2 (pc' := 2) (L' := [(0, .int (xs 2)), (1, .int (xs 1)), (2, .int (31 : Int32))]) (st' := [.int (xs 1), .int (xs 2)]) rfl ?_
                by_cases c_8 : (xs 2).toInt < (xs 1).toInt
                · refine w_t2 (pc' := 14) (L' := []) h_m159 (z_at.mk 3 rfl rfl) rfl (zc (a := (xs 2).toInt) (b := (xs 1).toInt) rfl rfl (decide_eq_true (by omega))) rfl rfl ?_
                  refine w_p h_m159 1 (pc' := 15) (L' := []) (st' := [.int (0 : Int32)]) rfl ?_
                  refine w_ri h_m159 (z_at.mk 1 rfl rfl) rfl rfl ?_
                  show z_W 998 164 17 [(0, .int (xs 1)), (1, .int (xs 2)), (2, .int (xs 3)), (3, .int (xs 4))] [.int (0 : Int32)] m _
                  refine w_p h_m164 2 (pc' := 45) (L' := []) (st' := [.int (0 : Int32)]) rfl ?_
                  refine w_ri h_m164 (z_at.mk 1 rfl rfl) rfl rfl ?_
                  show z_W 999 246 8 [(0, .ref 143), (1, .int (xs 1)), (2, .int (xs 2)), (3, .int (xs 3)), (4, .int (xs 4))] [.int (0 : Int32)] m _
                  refine w_p h_m246 2 (pc' := 13) (L' := [(0, .ref 143), (1, .int (xs 1)), (2, .int (xs 2)), (3, .int (xs 3)), (4, .int (xs 4))]) (st' := [.int (-2 : Int32)]) rfl ?_
                  refine w_ri h_m246 (z_at.mk 1 rfl rfl) rfl rfl ?_
                  show z_W 1000 1000 705 [(0, .ref 0), (1, .ref 39), (2, .ref 143), (3, .int (0 : Int32))] [.int (-2 : Int32), .int (-2 : Int32)] m _
                  refine w_p h_m1000 5 (pc' := 20) (L' := [(0, .ref 0), (1, .ref 39), (2, .ref 143), (3, .int (6 : Int32))]) (st' := [.ref 0, .int (6 : Int32)]) rfl ?_
                  refine w_lene H (x := (6 : Int32)) (pc' := 21) (L' := [(0, .ref 0), (1, .ref 39), (2, .ref 143), (3, .int (6 : Int32))]) h_m1000 (z_at.mk 1 rfl rfl) (by decide) rfl (by decide) rfl rfl rfl ?_
                  refine w_p h_m1000 4 (pc' := 1381) (L' := [(0, .ref 0), (1, .ref 39), (2, .ref 143), (3, .int (6 : Int32))]) (st' := [.int (1 : Int32)]) rfl ?_
                  refine w_ri h_m1000 (z_at.mk 1 rfl rfl) rfl rfl ?_
                  exact hQ _ _ _ _ H (by decide) (by decide)
                · refine w_f2 (pc' := 5) (L' := [(0, .int (xs 2)), (1, .int (xs 1)), (2, .int (31 : Int32))]) h_m159 (z_at.mk 3 rfl rfl) rfl (zc (a := (xs 2).toInt) (b := (xs 1).toInt) rfl rfl (decide_eq_false (by omega))) rfl rfl ?_
                  refine w_p h_m159 2 (pc' := 7) (L' := [(0, .int (xs 2)), (1, .int (xs 1)), (2, .int (31 : Int32))]) (st' := [.int (31 : Int32), .int (xs 2)]) rfl ?_
                  refine w_f2 (pc' := 10) (L' := [(0, .int (xs 2)), (1, .int (xs 1)), (2, .int (31 : Int32))]) h_m159 (z_at.mk 3 rfl rfl) rfl (zc (a := (xs 2).toInt) (b := 31) rfl rfl (decide_eq_false (by omega))) rfl rfl ?_
                  refine w_p h_m159 2 (pc' := 15) (L' := []) (st' := [.int (1 : Int32)]) rfl ?_
                  refine w_ri h_m159 (z_at.mk 1 rfl rfl) rfl rfl ?_
                  show z_W 998 164 17 [(0, .int (xs 1)), (1, .int (xs 2)), (2, .int (xs 3)), (3, .int (xs 4))] [.int (1 : Int32)] m _
                  refine w_p h_m164 4 (pc' := 24) (L' := [(0, .int (xs 1)), (1, .int (xs 2)), (2, .int (xs 3)), (3, .int (xs 4))]) (st' := [.int (31 : Int32), .int (0 : Int32), .int (xs 3)]) rfl ?_
                  refine w_cs (As := [.int (xs 3), .int (0 : Int32), .int (31 : Int32)]) (rest := []) (j := 159) (L0 := [(0, .int (xs 3)), (1, .int (0 : Int32)), (2, .int (31 : Int32))]) (pc' := 27) (L' := [(0, .int (xs 1)), (1, .int (xs 2)), (2, .int (xs 3)), (3, .int (xs 4))]) h_m164 (z_at.mk 3 rfl rfl) (Or.inl ⟨rfl, rfl⟩) rfl rfl rfl rfl rfl ?_
                  refine w_p h_m159 2 (pc' := 2) (L' := [(0, .int (xs 3)), (1, .int (0 : Int32)), (2, .int (31 : Int32))]) (st' := [.int (0 : Int32), .int (xs 3)]) rfl ?_
                  refine w_f2 (pc' := 5) (L' := [(0, .int (xs 3)), (1, .int (0 : Int32)), (2, .int (31 : Int32))]) h_m159 (z_at.mk 3 rfl rfl) rfl (zc (a := (xs 3).toInt) (b := 0) rfl rfl (decide_eq_false (by omega))) rfl rfl ?_
                  refine w_p h_m159 2 (pc' := 7) (L' := [(0, .int (xs 3)), (1, .int (0 : Int32)), (2, .int (31 : Int32))]) (st' := [.int (31 : Int32), .int (xs 3)]) rfl ?_
                  refine w_f2 (pc' := 10) (L' := [(0, .int (xs 3)), (1, .int (0 : Int32)), (2, .int (31 : Int32))]) h_m159 (z_at.mk 3 rfl rfl) rfl (zc (a := (xs 3).toInt) (b := 31) rfl rfl (decide_eq_false (by omega))) rfl rfl ?_
                  refine w_p h_m159 2 (pc' := 15) (L' := []) (st' := [.int (1 : Int32)]) rfl ?_
                  refine w_ri h_m159 (z_at.mk 1 rfl rfl) rfl rfl ?_
                  show z_W 998 164 27 [(0, .int (xs 1)), (1, .int (xs 2)), (2, .int (xs 3)), (3, .int (xs 4))] [.int (1 : Int32)] m _
                  refine w_p h_m164 4 (pc' := 34) (L' := [(0, .int (xs 1)), (1, .int (xs 2)), (2, .int (xs 3)), (3, .int (xs 4))]) (st' := [.int (31 : Int32), .int (xs 3), .int (xs 4)]) rfl ?_
                  refine w_cs (As := [.int (xs 4), .int (xs 3), .int (31 : Int32)]) (rest := []) (j := 159) (L0 := [(0, .int (xs 4)), (1, .int (xs 3)), (2, .int (31 : Int32))]) (pc' := 37) (L' := [(0, .int (xs 1)), (1, .int (xs 2)), (2, .int (xs 3)), (3, .int (xs 4))]) h_m164 (z_at.mk 3 rfl rfl) (Or.inl ⟨rfl, rfl⟩) rfl rfl rfl rfl rfl ?_
                  refine w_p h_m159 2 (pc' := 2) (L' := [(0, .int (xs 4)), (1, .int (xs 3)), (2, .int (31 : Int32))]) (st' := [.int (xs 3), .int (xs 4)]) rfl ?_
                  refine w_t2 (pc' := 14) (L' := []) h_m159 (z_at.mk 3 rfl rfl) rfl (zc (a := (xs 4).toInt) (b := (xs 3).toInt) rfl rfl (decide_eq_true (by omega))) rfl rfl ?_
                  refine w_p h_m159 1 (pc' := 15) (L' := []) (st' := [.int (0 : Int32)]) rfl ?_
                  refine w_ri h_m159 (z_at.mk 1 rfl rfl) rfl rfl ?_
                  show z_W 998 164 37 [(0, .int (xs 1)), (1, .int (xs 2)), (2, .int (xs 3)), (3, .int (xs 4))] [.int (0 : Int32)] m _
                  refine w_p h_m164 2 (pc' := 45) (L' := []) (st' := [.int (0 : Int32)]) rfl ?_
                  refine w_ri h_m164 (z_at.mk 1 rfl rfl) rfl rfl ?_
                  show z_W 999 246 8 [(0, .ref 143), (1, .int (xs 1)), (2, .int (xs 2)), (3, .int (xs 3)), (4, .int (xs 4))] [.int (0 : Int32)] m _
                  refine w_p h_m246 2 (pc' := 13) (L' := [(0, .ref 143), (1, .int (xs 1)), (2, .int (xs 2)), (3, .int (xs 3)), (4, .int (xs 4))]) (st' := [.int (-2 : Int32)]) rfl ?_
                  refine w_ri h_m246 (z_at.mk 1 rfl rfl) rfl rfl ?_
                  show z_W 1000 1000 705 [(0, .ref 0), (1, .ref 39), (2, .ref 143), (3, .int (0 : Int32))] [.int (-2 : Int32), .int (-2 : Int32)] m _
                  refine w_p h_m1000 5 (pc' := 20) (L' := [(0, .ref 0), (1, .ref 39), (2, .ref 143), (3, .int (6 : Int32))]) (st' := [.ref 0, .int (6 : Int32)]) rfl ?_
                  refine w_lene H (x := (6 : Int32)) (pc' := 21) (L' := [(0, .ref 0), (1, .ref 39), (2, .ref 143), (3, .int (6 : Int32))]) h_m1000 (z_at.mk 1 rfl rfl) (by decide) rfl (by decide) rfl rfl rfl ?_
                  refine w_p h_m1000 4 (pc' := 1381) (L' := [(0, .ref 0), (1, .ref 39), (2, .ref 143), (3, .int (6 : Int32))]) (st' := [.int (1 : Int32)]) rfl ?_
                  refine w_ri h_m1000 (z_at.mk 1 rfl rfl) rfl rfl ?_
                  exact hQ _ _ _ _ H (by decide) (by decide)
              · refine w_f1 (pc' := 14) (L' := [(0, .int (xs 2)), (1, .int (xs 4))]) h_m0 (z_at.mk 3 rfl rfl) rfl (zc (a := (xs 4).toInt) (b := 0) rfl rfl (decide_eq_false (by omega))) rfl rfl ?_
                refine w_p h_m0 2 (pc' := 17) (L' := [(0, .int (xs 2)), (1, .int (xs 4))]) (st' := [.int (32 : Int32), .int (xs 4)]) rfl ?_
                by_cases c_8 : (xs 4).toInt < 32
                · refine w_f2 (pc' := 20) (L' := [(0, .int (xs 2)), (1, .int (xs 4))]) h_m0 (z_at.mk 3 rfl rfl) rfl (zc (a := (xs 4).toInt) (b := 32) rfl rfl (decide_eq_false (by omega))) rfl rfl ?_
                  refine w_p h_m0 2 (pc' := 25) (L' := []) (st' := [.int (1 : Int32)]) rfl ?_
                  refine w_ri h_m0 (z_at.mk 1 rfl rfl) rfl rfl ?_
                  show z_W 998 1 13 [(0, .int (xs 1)), (1, .int (xs 2)), (2, .int (xs 3)), (3, .int (xs 4))] [.int (1 : Int32)] m _
                  refine w_p h_m1 3 (pc' := 18) (L' := [(0, .int (xs 1)), (1, .int (xs 2)), (2, .int (xs 3)), (3, .int (xs 4))]) (st' := [.int (xs 2), .int (xs 1)]) rfl ?_
                  by_cases c_9 : (xs 1).toInt ≤ (xs 2).toInt
                  · refine w_f2 (pc' := 21) (L' := [(0, .int (xs 1)), (1, .int (xs 2)), (2, .int (xs 3)), (3, .int (xs 4))]) h_m1 (z_at.mk 3 rfl rfl) rfl (zc (a := (xs 1).toInt) (b := (xs 2).toInt) rfl rfl (decide_eq_false (by omega))) rfl rfl ?_
                    refine w_p h_m1 2 (pc' := 23) (L' := [(0, .int (xs 1)), (1, .int (xs 2)), (2, .int (xs 3)), (3, .int (xs 4))]) (st' := [.int (xs 4), .int (xs 3)]) rfl ?_
                    by_cases c_10 : (xs 3).toInt ≤ (xs 4).toInt
                    · refine w_f2 (pc' := 26) (L' := [(0, .int (xs 1)), (1, .int (xs 2)), (2, .int (xs 3)), (3, .int (xs 4))]) h_m1 (z_at.mk 3 rfl rfl) rfl (zc (a := (xs 3).toInt) (b := (xs 4).toInt) rfl rfl (decide_eq_false (by omega))) rfl rfl ?_
                      refine w_p h_m1 2 (pc' := 31) (L' := []) (st' := [.int (1 : Int32)]) rfl ?_
                      refine w_ri h_m1 (z_at.mk 1 rfl rfl) rfl rfl ?_
                      show z_W 999 135 8 [(0, .ref 39), (1, .int (xs 1)), (2, .int (xs 2)), (3, .int (xs 3)), (4, .int (xs 4))] [.int (1 : Int32)] m _
                      refine w_p h_m135 5 (pc' := 19) (L' := [(0, .ref 39), (1, .int (xs 1)), (2, .int (xs 2)), (3, .int (xs 3)), (4, .int (xs 4))]) (st' := [.int (xs 4), .int (xs 3), .int (xs 2), .int (xs 1)]) rfl ?_
                      refine w_cs (As := [.int (xs 1), .int (xs 2), .int (xs 3), .int (xs 4)]) (rest := []) (j := 2) (L0 := [(0, .int (xs 1)), (1, .int (xs 2)), (2, .int (xs 3)), (3, .int (xs 4))]) (pc' := 22) (L' := [(0, .ref 39), (1, .int (xs 1)), (2, .int (xs 2)), (3, .int (xs 3)), (4, .int (xs 4))]) h_m135 (z_at.mk 3 rfl rfl) (Or.inl ⟨rfl, rfl⟩) rfl rfl rfl rfl rfl ?_
                      refine w_p h_m2 13 (pc' := 15) (L' := [(0, .int (xs 1)), (1, .int (xs 2)), (2, .int (xs 3)), (3, .int (xs 4))]) (st' := [.int ((((xs 1) ||| ((xs 2) <<< ((5 : Int32) &&& 31))) ||| ((xs 3) <<< ((10 : Int32) &&& 31))) ||| ((xs 4) <<< ((15 : Int32) &&& 31)))]) rfl ?_
                      refine w_ri h_m2 (z_at.mk 1 rfl rfl) rfl rfl ?_
                      show z_W 999 135 22 [(0, .ref 39), (1, .int (xs 1)), (2, .int (xs 2)), (3, .int (xs 3)), (4, .int (xs 4))] [.int ((((xs 1) ||| ((xs 2) <<< ((5 : Int32) &&& 31))) ||| ((xs 3) <<< ((10 : Int32) &&& 31))) ||| ((xs 4) <<< ((15 : Int32) &&& 31)))] m _
                      refine w_p h_m135 2 (pc' := 25) (L' := [(5, .int ((((xs 1) ||| ((xs 2) <<< ((5 : Int32) &&& 31))) ||| ((xs 3) <<< ((10 : Int32) &&& 31))) ||| ((xs 4) <<< ((15 : Int32) &&& 31)))), (0, .ref 39), (1, .int (xs 1)), (2, .int (xs 2)), (3, .int (xs 3)), (4, .int (xs 4))]) (st' := [.ref 39]) rfl ?_
                      refine w_gf H (pc' := 28) (L' := [(5, .int ((((xs 1) ||| ((xs 2) <<< ((5 : Int32) &&& 31))) ||| ((xs 3) <<< ((10 : Int32) &&& 31))) ||| ((xs 4) <<< ((15 : Int32) &&& 31)))), (0, .ref 39), (1, .int (xs 1)), (2, .int (xs 2)), (3, .int (xs 3)), (4, .int (xs 4))]) h_m135 (z_at.mk 3 rfl rfl) rfl (u := .ref 131) rfl rfl rfl ?_
                      refine w_p h_m135 1 (pc' := 29) (L' := [(5, .int ((((xs 1) ||| ((xs 2) <<< ((5 : Int32) &&& 31))) ||| ((xs 3) <<< ((10 : Int32) &&& 31))) ||| ((xs 4) <<< ((15 : Int32) &&& 31)))), (0, .ref 39), (1, .int (xs 1)), (2, .int (xs 2)), (3, .int (xs 3)), (4, .int (xs 4))]) (st' := [.int (0 : Int32), .ref 131]) rfl ?_
                      refine w_pf H (11, 2, [(1, .int (0 : Int32)), (0, .ref 132)], none) (pc' := 32) (L' := [(5, .int ((((xs 1) ||| ((xs 2) <<< ((5 : Int32) &&& 31))) ||| ((xs 3) <<< ((10 : Int32) &&& 31))) ||| ((xs 4) <<< ((15 : Int32) &&& 31)))), (0, .ref 39), (1, .int (xs 1)), (2, .int (xs 2)), (3, .int (xs 3)), (4, .int (xs 4))]) h_m135 (z_at.mk 3 rfl rfl) rfl (by decide) rfl (Or.inl rfl) rfl rfl rfl ?_
                      clear H m; intro m H
                      refine w_p h_m135 4 (pc' := 38) (L' := [(0, .ref 39), (5, .int ((((xs 1) ||| ((xs 2) <<< ((5 : Int32) &&& 31))) ||| ((xs 3) <<< ((10 : Int32) &&& 31))) ||| ((xs 4) <<< ((15 : Int32) &&& 31)))), (6, .int (0 : Int32))]) (st' := [.ref 39, .int (0 : Int32)]) rfl ?_
                      refine w_gf H (pc' := 41) (L' := [(0, .ref 39), (5, .int ((((xs 1) ||| ((xs 2) <<< ((5 : Int32) &&& 31))) ||| ((xs 3) <<< ((10 : Int32) &&& 31))) ||| ((xs 4) <<< ((15 : Int32) &&& 31)))), (6, .int (0 : Int32))]) h_m135 (z_at.mk 3 rfl rfl) rfl (u := .ref 40) rfl rfl rfl ?_
                      refine w_gf H (pc' := 44) (L' := [(0, .ref 39), (5, .int ((((xs 1) ||| ((xs 2) <<< ((5 : Int32) &&& 31))) ||| ((xs 3) <<< ((10 : Int32) &&& 31))) ||| ((xs 4) <<< ((15 : Int32) &&& 31)))), (6, .int (0 : Int32))]) h_m135 (z_at.mk 3 rfl rfl) rfl (u := .ref 48) rfl rfl rfl ?_
                      refine w_gf H (pc' := 47) (L' := [(0, .ref 39), (5, .int ((((xs 1) ||| ((xs 2) <<< ((5 : Int32) &&& 31))) ||| ((xs 3) <<< ((10 : Int32) &&& 31))) ||| ((xs 4) <<< ((15 : Int32) &&& 31)))), (6, .int (0 : Int32))]) h_m135 (z_at.mk 3 rfl rfl) rfl (u := .int (0 : Int32)) rfl rfl rfl ?_
                      refine w_p h_m135 2 (pc' := 113) (L' := [(0, .ref 39), (5, .int ((((xs 1) ||| ((xs 2) <<< ((5 : Int32) &&& 31))) ||| ((xs 3) <<< ((10 : Int32) &&& 31))) ||| ((xs 4) <<< ((15 : Int32) &&& 31)))), (6, .int (0 : Int32))]) (st' := [.ref 39]) rfl ?_
                      refine w_gf H (pc' := 116) (L' := [(0, .ref 39), (5, .int ((((xs 1) ||| ((xs 2) <<< ((5 : Int32) &&& 31))) ||| ((xs 3) <<< ((10 : Int32) &&& 31))) ||| ((xs 4) <<< ((15 : Int32) &&& 31)))), (6, .int (0 : Int32))]) h_m135 (z_at.mk 3 rfl rfl) rfl (u := .ref 40) rfl rfl rfl ?_
                      refine w_gf H (pc' := 119) (L' := [(0, .ref 39), (5, .int ((((xs 1) ||| ((xs 2) <<< ((5 : Int32) &&& 31))) ||| ((xs 3) <<< ((10 : Int32) &&& 31))) ||| ((xs 4) <<< ((15 : Int32) &&& 31)))), (6, .int (0 : Int32))]) h_m135 (z_at.mk 3 rfl rfl) rfl (u := .ref 48) rfl rfl rfl ?_
                      refine w_p h_m135 1 (pc' := 121) (L' := [(0, .ref 39), (5, .int ((((xs 1) ||| ((xs 2) <<< ((5 : Int32) &&& 31))) ||| ((xs 3) <<< ((10 : Int32) &&& 31))) ||| ((xs 4) <<< ((15 : Int32) &&& 31)))), (6, .int (0 : Int32))]) (st' := [.int ((((xs 1) ||| ((xs 2) <<< ((5 : Int32) &&& 31))) ||| ((xs 3) <<< ((10 : Int32) &&& 31))) ||| ((xs 4) <<< ((15 : Int32) &&& 31))), .ref 48]) rfl ?_
                      refine w_cv (H.t rfl) (pc' := 124) (L' := [(0, .ref 39), (5, .int ((((xs 1) ||| ((xs 2) <<< ((5 : Int32) &&& 31))) ||| ((xs 3) <<< ((10 : Int32) &&& 31))) ||| ((xs 4) <<< ((15 : Int32) &&& 31)))), (6, .int (0 : Int32))]) (rest := []) (Ps := [.int ((((xs 1) ||| ((xs 2) <<< ((5 : Int32) &&& 31))) ||| ((xs 3) <<< ((10 : Int32) &&& 31))) ||| ((xs 4) <<< ((15 : Int32) &&& 31)))]) (L0 := [(0, .ref 48), (1, .int ((((xs 1) ||| ((xs 2) <<< ((5 : Int32) &&& 31))) ||| ((xs 3) <<< ((10 : Int32) &&& 31))) ||| ((xs 4) <<< ((15 : Int32) &&& 31))))]) h_m135 (z_at.mk 3 rfl rfl) (Or.inl ⟨rfl, rfl⟩) rfl rfl (by decide) (by decide) rfl rfl rfl rfl rfl rfl (by decide) rfl rfl rfl ?_
                      refine w_p h_m26 1 (pc' := 1) (L' := [(0, .ref 48), (1, .int ((((xs 1) ||| ((xs 2) <<< ((5 : Int32) &&& 31))) ||| ((xs 3) <<< ((10 : Int32) &&& 31))) ||| ((xs 4) <<< ((15 : Int32) &&& 31))))]) (st' := [.ref 48]) rfl ?_
                      refine w_gf H (pc' := 4) (L' := [(0, .ref 48), (1, .int ((((xs 1) ||| ((xs 2) <<< ((5 : Int32) &&& 31))) ||| ((xs 3) <<< ((10 : Int32) &&& 31))) ||| ((xs 4) <<< ((15 : Int32) &&& 31))))]) h_m26 (z_at.mk 3 rfl rfl) rfl (u := .ref 56) rfl rfl rfl ?_
                      refine w_p h_m26 1 (pc' := 5) (L' := [(0, .ref 48), (1, .int ((((xs 1) ||| ((xs 2) <<< ((5 : Int32) &&& 31))) ||| ((xs 3) <<< ((10 : Int32) &&& 31))) ||| ((xs 4) <<< ((15 : Int32) &&& 31))))]) (st' := [.int (0 : Int32), .ref 56]) rfl ?_
                      refine w_pf H (11, 2, [(1, .int (0 : Int32)), (0, .ref 57)], none) (pc' := 8) (L' := [(0, .ref 48), (1, .int ((((xs 1) ||| ((xs 2) <<< ((5 : Int32) &&& 31))) ||| ((xs 3) <<< ((10 : Int32) &&& 31))) ||| ((xs 4) <<< ((15 : Int32) &&& 31))))]) h_m26 (z_at.mk 3 rfl rfl) rfl (by decide) rfl (Or.inl rfl) rfl rfl rfl ?_
                      clear H m; intro m H
                      refine w_p h_m26 1 (pc' := 9) (L' := [(0, .ref 48), (1, .int ((((xs 1) ||| ((xs 2) <<< ((5 : Int32) &&& 31))) ||| ((xs 3) <<< ((10 : Int32) &&& 31))) ||| ((xs 4) <<< ((15 : Int32) &&& 31))))]) (st' := [.ref 48]) rfl ?_
                      refine w_gf H (pc' := 12) (L' := [(0, .ref 48), (1, .int ((((xs 1) ||| ((xs 2) <<< ((5 : Int32) &&& 31))) ||| ((xs 3) <<< ((10 : Int32) &&& 31))) ||| ((xs 4) <<< ((15 : Int32) &&& 31))))]) h_m26 (z_at.mk 3 rfl rfl) rfl (u := .ref 56) rfl rfl rfl ?_
                      refine w_p h_m26 1 (pc' := 13) (L' := [(0, .ref 48), (1, .int ((((xs 1) ||| ((xs 2) <<< ((5 : Int32) &&& 31))) ||| ((xs 3) <<< ((10 : Int32) &&& 31))) ||| ((xs 4) <<< ((15 : Int32) &&& 31))))]) (st' := [.int ((((xs 1) ||| ((xs 2) <<< ((5 : Int32) &&& 31))) ||| ((xs 3) <<< ((10 : Int32) &&& 31))) ||| ((xs 4) <<< ((15 : Int32) &&& 31))), .ref 56]) rfl ?_
                      refine w_cv (H.t rfl) (pc' := 16) (L' := [(0, .ref 48), (1, .int ((((xs 1) ||| ((xs 2) <<< ((5 : Int32) &&& 31))) ||| ((xs 3) <<< ((10 : Int32) &&& 31))) ||| ((xs 4) <<< ((15 : Int32) &&& 31))))]) (rest := []) (Ps := [.int ((((xs 1) ||| ((xs 2) <<< ((5 : Int32) &&& 31))) ||| ((xs 3) <<< ((10 : Int32) &&& 31))) ||| ((xs 4) <<< ((15 : Int32) &&& 31)))]) (L0 := [(0, .ref 56), (1, .int ((((xs 1) ||| ((xs 2) <<< ((5 : Int32) &&& 31))) ||| ((xs 3) <<< ((10 : Int32) &&& 31))) ||| ((xs 4) <<< ((15 : Int32) &&& 31))))]) h_m26 (z_at.mk 3 rfl rfl) (Or.inl ⟨rfl, rfl⟩) rfl rfl (by decide) (by decide) rfl rfl rfl rfl rfl rfl (by decide) rfl rfl rfl ?_
                      refine w_p h_m14 1 (pc' := 1) (L' := [(0, .ref 56), (1, .int ((((xs 1) ||| ((xs 2) <<< ((5 : Int32) &&& 31))) ||| ((xs 3) <<< ((10 : Int32) &&& 31))) ||| ((xs 4) <<< ((15 : Int32) &&& 31))))]) (st' := [.ref 56]) rfl ?_
                      refine w_gf H (pc' := 4) (L' := [(0, .ref 56), (1, .int ((((xs 1) ||| ((xs 2) <<< ((5 : Int32) &&& 31))) ||| ((xs 3) <<< ((10 : Int32) &&& 31))) ||| ((xs 4) <<< ((15 : Int32) &&& 31))))]) h_m14 (z_at.mk 3 rfl rfl) rfl (u := .int (0 : Int32)) rfl rfl rfl ?_
                      refine w_p h_m14 2 (pc' := 8) (L' := [(0, .ref 56), (1, .int ((((xs 1) ||| ((xs 2) <<< ((5 : Int32) &&& 31))) ||| ((xs 3) <<< ((10 : Int32) &&& 31))) ||| ((xs 4) <<< ((15 : Int32) &&& 31))))]) (st' := [.ref 56]) rfl ?_
                      refine w_gf H (pc' := 11) (L' := [(0, .ref 56), (1, .int ((((xs 1) ||| ((xs 2) <<< ((5 : Int32) &&& 31))) ||| ((xs 3) <<< ((10 : Int32) &&& 31))) ||| ((xs 4) <<< ((15 : Int32) &&& 31))))]) h_m14 (z_at.mk 3 rfl rfl) rfl (u := .int (0 : Int32)) rfl rfl rfl ?_
                      refine w_p h_m14 1 (pc' := 12) (L' := [(0, .ref 56), (1, .int ((((xs 1) ||| ((xs 2) <<< ((5 : Int32) &&& 31))) ||| ((xs 3) <<< ((10 : Int32) &&& 31))) ||| ((xs 4) <<< ((15 : Int32) &&& 31))))]) (st' := [.ref 56, .int (0 : Int32)]) rfl ?_
                      refine w_gf H (pc' := 15) (L' := [(0, .ref 56), (1, .int ((((xs 1) ||| ((xs 2) <<< ((5 : Int32) &&& 31))) ||| ((xs 3) <<< ((10 : Int32) &&& 31))) ||| ((xs 4) <<< ((15 : Int32) &&& 31))))]) h_m14 (z_at.mk 3 rfl rfl) rfl (u := .ref 57) rfl rfl rfl ?_
                      refine w_len H (t := 0) (n := 169) (x := (169 : Int32)) (pc' := 16) (L' := [(0, .ref 56), (1, .int ((((xs 1) ||| ((xs 2) <<< ((5 : Int32) &&& 31))) ||| ((xs 3) <<< ((10 : Int32) &&& 31))) ||| ((xs 4) <<< ((15 : Int32) &&& 31))))]) h_m14 (z_at.mk 1 rfl rfl) rfl (by decide) rfl rfl rfl ?_
                      refine w_p h_m14 2 (pc' := 22) (L' := [(0, .ref 56), (1, .int ((((xs 1) ||| ((xs 2) <<< ((5 : Int32) &&& 31))) ||| ((xs 3) <<< ((10 : Int32) &&& 31))) ||| ((xs 4) <<< ((15 : Int32) &&& 31))))]) (st' := [.ref 56]) rfl ?_
                      refine w_gf H (pc' := 25) (L' := [(0, .ref 56), (1, .int ((((xs 1) ||| ((xs 2) <<< ((5 : Int32) &&& 31))) ||| ((xs 3) <<< ((10 : Int32) &&& 31))) ||| ((xs 4) <<< ((15 : Int32) &&& 31))))]) h_m14 (z_at.mk 3 rfl rfl) rfl (u := .ref 57) rfl rfl rfl ?_
                      refine w_p h_m14 1 (pc' := 26) (L' := [(0, .ref 56), (1, .int ((((xs 1) ||| ((xs 2) <<< ((5 : Int32) &&& 31))) ||| ((xs 3) <<< ((10 : Int32) &&& 31))) ||| ((xs 4) <<< ((15 : Int32) &&& 31))))]) (st' := [.ref 56, .ref 57]) rfl ?_
                      refine w_gf H (pc' := 29) (L' := [(0, .ref 56), (1, .int ((((xs 1) ||| ((xs 2) <<< ((5 : Int32) &&& 31))) ||| ((xs 3) <<< ((10 : Int32) &&& 31))) ||| ((xs 4) <<< ((15 : Int32) &&& 31))))]) h_m14 (z_at.mk 3 rfl rfl) rfl (u := .int (0 : Int32)) rfl rfl rfl ?_
                      refine w_p h_m14 1 (pc' := 30) (L' := [(0, .ref 56), (1, .int ((((xs 1) ||| ((xs 2) <<< ((5 : Int32) &&& 31))) ||| ((xs 3) <<< ((10 : Int32) &&& 31))) ||| ((xs 4) <<< ((15 : Int32) &&& 31))))]) (st' := [.int ((((xs 1) ||| ((xs 2) <<< ((5 : Int32) &&& 31))) ||| ((xs 3) <<< ((10 : Int32) &&& 31))) ||| ((xs 4) <<< ((15 : Int32) &&& 31))), .int (0 : Int32), .ref 57]) rfl ?_
                      refine w_as H (t := 0) (j := 0) (u := .int ((((xs 1) ||| ((xs 2) <<< ((5 : Int32) &&& 31))) ||| ((xs 3) <<< ((10 : Int32) &&& 31))) ||| ((xs 4) <<< ((15 : Int32) &&& 31)))) (0, 169, [(0, .int ((((xs 1) ||| ((xs 2) <<< ((5 : Int32) &&& 31))) ||| ((xs 3) <<< ((10 : Int32) &&& 31))) ||| ((xs 4) <<< ((15 : Int32) &&& 31))))], some (.int (0 : Int32))) (pc' := 31) (L' := [(0, .ref 56), (1, .int ((((xs 1) ||| ((xs 2) <<< ((5 : Int32) &&& 31))) ||| ((xs 3) <<< ((10 : Int32) &&& 31))) ||| ((xs 4) <<< ((15 : Int32) &&& 31))))]) h_m14 (z_at.mk 1 rfl rfl) rfl rfl (w_ui _ _ (by decide)) rfl rfl rfl rfl ?_
                      clear H m; intro m H
                      refine w_p h_m14 2 (pc' := 33) (L' := [(0, .ref 56), (1, .int ((((xs 1) ||| ((xs 2) <<< ((5 : Int32) &&& 31))) ||| ((xs 3) <<< ((10 : Int32) &&& 31))) ||| ((xs 4) <<< ((15 : Int32) &&& 31))))]) (st' := [.ref 56, .ref 56]) rfl ?_
                      refine w_gf H (pc' := 36) (L' := [(0, .ref 56), (1, .int ((((xs 1) ||| ((xs 2) <<< ((5 : Int32) &&& 31))) ||| ((xs 3) <<< ((10 : Int32) &&& 31))) ||| ((xs 4) <<< ((15 : Int32) &&& 31))))]) h_m14 (z_at.mk 3 rfl rfl) rfl (u := .int (0 : Int32)) rfl rfl rfl ?_
                      refine w_p h_m14 2 (pc' := 38) (L' := [(0, .ref 56), (1, .int ((((xs 1) ||| ((xs 2) <<< ((5 : Int32) &&& 31))) ||| ((xs 3) <<< ((10 : Int32) &&& 31))) ||| ((xs 4) <<< ((15 : Int32) &&& 31))))]) (st' := [.int (1 : Int32), .ref 56]) rfl ?_
                      refine w_pf H (11, 2, [(1, .int (1 : Int32)), (0, .ref 57)], none) (pc' := 41) (L' := [(0, .ref 56), (1, .int ((((xs 1) ||| ((xs 2) <<< ((5 : Int32) &&& 31))) ||| ((xs 3) <<< ((10 : Int32) &&& 31))) ||| ((xs 4) <<< ((15 : Int32) &&& 31))))]) h_m14 (z_at.mk 3 rfl rfl) rfl (by decide) rfl (Or.inl rfl) rfl rfl rfl ?_
                      clear H m; intro m H
                      refine w_p h_m14 1 (pc' := 42) (L' := [(0, .ref 56), (1, .int ((((xs 1) ||| ((xs 2) <<< ((5 : Int32) &&& 31))) ||| ((xs 3) <<< ((10 : Int32) &&& 31))) ||| ((xs 4) <<< ((15 : Int32) &&& 31))))]) (st' := [.int (1 : Int32)]) rfl ?_
                      refine w_ri h_m14 (z_at.mk 1 rfl rfl) rfl rfl ?_
                      show z_W 998 26 16 [(0, .ref 48), (1, .int ((((xs 1) ||| ((xs 2) <<< ((5 : Int32) &&& 31))) ||| ((xs 3) <<< ((10 : Int32) &&& 31))) ||| ((xs 4) <<< ((15 : Int32) &&& 31))))] [.int (1 : Int32)] m _
                      refine w_p h_m26 5 (pc' := 21) (L' := [(0, .ref 48), (1, .int ((((xs 1) ||| ((xs 2) <<< ((5 : Int32) &&& 31))) ||| ((xs 3) <<< ((10 : Int32) &&& 31))) ||| ((xs 4) <<< ((15 : Int32) &&& 31)))), (2, .int (0 : Int32))]) (st' := [.ref 48, .int (0 : Int32)]) rfl ?_
                      refine w_gf H (pc' := 24) (L' := [(0, .ref 48), (1, .int ((((xs 1) ||| ((xs 2) <<< ((5 : Int32) &&& 31))) ||| ((xs 3) <<< ((10 : Int32) &&& 31))) ||| ((xs 4) <<< ((15 : Int32) &&& 31)))), (2, .int (0 : Int32))]) h_m26 (z_at.mk 3 rfl rfl) rfl (u := .int (0 : Int32)) rfl rfl rfl ?_
                      refine w_p h_m26 2 (pc' := 75) (L' := [(0, .ref 48), (1, .int ((((xs 1) ||| ((xs 2) <<< ((5 : Int32) &&& 31))) ||| ((xs 3) <<< ((10 : Int32) &&& 31))) ||| ((xs 4) <<< ((15 : Int32) &&& 31)))), (2, .int (0 : Int32))]) (st' := [.ref 48]) rfl ?_
                      refine w_gf H (pc' := 78) (L' := [(0, .ref 48), (1, .int ((((xs 1) ||| ((xs 2) <<< ((5 : Int32) &&& 31))) ||| ((xs 3) <<< ((10 : Int32) &&& 31))) ||| ((xs 4) <<< ((15 : Int32) &&& 31)))), (2, .int (0 : Int32))]) h_m26 (z_at.mk 3 rfl rfl) rfl (u := .ref 56) rfl rfl rfl ?_
                      refine w_ra h_m26 (z_at.mk 1 rfl rfl) rfl ?_
                      show z_W 999 135 124 [(0, .ref 39), (5, .int ((((xs 1) ||| ((xs 2) <<< ((5 : Int32) &&& 31))) ||| ((xs 3) <<< ((10 : Int32) &&& 31))) ||| ((xs 4) <<< ((15 : Int32) &&& 31)))), (6, .int (0 : Int32))] [.ref 56] m _
                      refine w_p h_m135 5 (pc' := 133) (L' := [(0, .ref 39), (6, .ref 56), (7, .int (0 : Int32))]) (st' := [.ref 56, .int (0 : Int32)]) rfl ?_
                      refine w_gf H (pc' := 136) (L' := [(0, .ref 39), (6, .ref 56), (7, .int (0 : Int32))]) h_m135 (z_at.mk 3 rfl rfl) rfl (u := .int (1 : Int32)) rfl rfl rfl ?_
                      refine w_p h_m135 4 (pc' := 144) (L' := [(0, .ref 39), (6, .ref 56), (7, .int (0 : Int32))]) (st' := [.int (0 : Int32), .ref 56, .ref 39]) rfl ?_
                      refine w_cv (H.t rfl) (pc' := 147) (L' := [(0, .ref 39), (6, .ref 56), (7, .int (0 : Int32))]) (rest := [.ref 39]) (Ps := [.int (0 : Int32)]) (L0 := [(0, .ref 56), (1, .int (0 : Int32))]) h_m135 (z_at.mk 3 rfl rfl) (Or.inl ⟨rfl, rfl⟩) rfl rfl (by decide) (by decide) rfl rfl rfl rfl rfl rfl (by decide) rfl rfl rfl ?_
                      refine w_p h_m15 4 (pc' := 6) (L' := [(0, .ref 56), (1, .int (0 : Int32))]) (st' := [.ref 56, .int (0 : Int32)]) rfl ?_
                      refine w_gf H (pc' := 9) (L' := [(0, .ref 56), (1, .int (0 : Int32))]) h_m15 (z_at.mk 3 rfl rfl) rfl (u := .int (1 : Int32)) rfl rfl rfl ?_
                      refine w_p h_m15 3 (pc' := 14) (L' := [(0, .ref 56), (1, .int (0 : Int32))]) (st' := [.ref 56, .int (0 : Int32)]) rfl ?_
                      refine w_gf H (pc' := 17) (L' := [(0, .ref 56), (1, .int (0 : Int32))]) h_m15 (z_at.mk 3 rfl rfl) rfl (u := .ref 57) rfl rfl rfl ?_
                      refine w_len H (t := 0) (n := 169) (x := (169 : Int32)) (pc' := 18) (L' := [(0, .ref 56), (1, .int (0 : Int32))]) h_m15 (z_at.mk 1 rfl rfl) rfl (by decide) rfl rfl rfl ?_
                      refine w_p h_m15 2 (pc' := 22) (L' := [(0, .ref 56), (1, .int (0 : Int32))]) (st' := [.ref 56]) rfl ?_
                      refine w_gf H (pc' := 25) (L' := [(0, .ref 56), (1, .int (0 : Int32))]) h_m15 (z_at.mk 3 rfl rfl) rfl (u := .ref 57) rfl rfl rfl ?_
                      refine w_p h_m15 1 (pc' := 26) (L' := [(0, .ref 56), (1, .int (0 : Int32))]) (st' := [.int (0 : Int32), .ref 57]) rfl ?_
                      refine w_al H (t := 0) (j := 0) (pc' := 27) (L' := [(0, .ref 56), (1, .int (0 : Int32))]) h_m15 (z_at.mk 1 rfl rfl) rfl rfl rfl (u := .int ((((xs 1) ||| ((xs 2) <<< ((5 : Int32) &&& 31))) ||| ((xs 3) <<< ((10 : Int32) &&& 31))) ||| ((xs 4) <<< ((15 : Int32) &&& 31)))) rfl rfl rfl ?_
                      refine w_p h_m15 1 (pc' := 31) (L' := []) (st' := [.int ((((xs 1) ||| ((xs 2) <<< ((5 : Int32) &&& 31))) ||| ((xs 3) <<< ((10 : Int32) &&& 31))) ||| ((xs 4) <<< ((15 : Int32) &&& 31)))]) rfl ?_
                      refine w_ri h_m15 (z_at.mk 1 rfl rfl) rfl rfl ?_
                      show z_W 999 135 147 [(0, .ref 39), (6, .ref 56), (7, .int (0 : Int32))] [.int ((((xs 1) ||| ((xs 2) <<< ((5 : Int32) &&& 31))) ||| ((xs 3) <<< ((10 : Int32) &&& 31))) ||| ((xs 4) <<< ((15 : Int32) &&& 31))), .ref 39] m _
                      refine w_p h_m135 1 (pc' := 149) (L' := [(0, .ref 39), (6, .ref 56), (7, .int (0 : Int32))]) (st' := [.int (-5 : Int32), .int ((((xs 1) ||| ((xs 2) <<< ((5 : Int32) &&& 31))) ||| ((xs 3) <<< ((10 : Int32) &&& 31))) ||| ((xs 4) <<< ((15 : Int32) &&& 31))), .ref 39]) rfl ?_
                      refine w_cv (H.t rfl) (pc' := 152) (L' := [(0, .ref 39), (6, .ref 56), (7, .int (0 : Int32))]) (rest := []) (Ps := [.int ((((xs 1) ||| ((xs 2) <<< ((5 : Int32) &&& 31))) ||| ((xs 3) <<< ((10 : Int32) &&& 31))) ||| ((xs 4) <<< ((15 : Int32) &&& 31))), .int (-5 : Int32)]) (L0 := [(0, .ref 39), (1, .int ((((xs 1) ||| ((xs 2) <<< ((5 : Int32) &&& 31))) ||| ((xs 3) <<< ((10 : Int32) &&& 31))) ||| ((xs 4) <<< ((15 : Int32) &&& 31)))), (2, .int (-5 : Int32))]) h_m135 (z_at.mk 3 rfl rfl) (Or.inl ⟨rfl, rfl⟩) rfl rfl (by decide) (by decide) rfl rfl rfl rfl rfl rfl (by decide) rfl rfl rfl ?_
                      refine w_p h_m136 1 (pc' := 1) (L' := [(0, .ref 39), (1, .int ((((xs 1) ||| ((xs 2) <<< ((5 : Int32) &&& 31))) ||| ((xs 3) <<< ((10 : Int32) &&& 31))) ||| ((xs 4) <<< ((15 : Int32) &&& 31)))), (2, .int (-5 : Int32))]) (st' := [.ref 39]) rfl ?_
                      refine w_gf H (pc' := 4) (L' := [(0, .ref 39), (1, .int ((((xs 1) ||| ((xs 2) <<< ((5 : Int32) &&& 31))) ||| ((xs 3) <<< ((10 : Int32) &&& 31))) ||| ((xs 4) <<< ((15 : Int32) &&& 31)))), (2, .int (-5 : Int32))]) h_m136 (z_at.mk 3 rfl rfl) rfl (u := .ref 131) rfl rfl rfl ?_
                      refine w_gf H (pc' := 7) (L' := [(0, .ref 39), (1, .int ((((xs 1) ||| ((xs 2) <<< ((5 : Int32) &&& 31))) ||| ((xs 3) <<< ((10 : Int32) &&& 31))) ||| ((xs 4) <<< ((15 : Int32) &&& 31)))), (2, .int (-5 : Int32))]) h_m136 (z_at.mk 3 rfl rfl) rfl (u := .int (0 : Int32)) rfl rfl rfl ?_
                      refine w_p h_m136 1 (pc' := 8) (L' := [(0, .ref 39), (1, .int ((((xs 1) ||| ((xs 2) <<< ((5 : Int32) &&& 31))) ||| ((xs 3) <<< ((10 : Int32) &&& 31))) ||| ((xs 4) <<< ((15 : Int32) &&& 31)))), (2, .int (-5 : Int32))]) (st' := [.ref 39, .int (0 : Int32)]) rfl ?_
                      refine w_gf H (pc' := 11) (L' := [(0, .ref 39), (1, .int ((((xs 1) ||| ((xs 2) <<< ((5 : Int32) &&& 31))) ||| ((xs 3) <<< ((10 : Int32) &&& 31))) ||| ((xs 4) <<< ((15 : Int32) &&& 31)))), (2, .int (-5 : Int32))]) h_m136 (z_at.mk 3 rfl rfl) rfl (u := .ref 133) rfl rfl rfl ?_
                      refine w_len H (t := 0) (n := 181) (x := (181 : Int32)) (pc' := 12) (L' := [(0, .ref 39), (1, .int ((((xs 1) ||| ((xs 2) <<< ((5 : Int32) &&& 31))) ||| ((xs 3) <<< ((10 : Int32) &&& 31))) ||| ((xs 4) <<< ((15 : Int32) &&& 31)))), (2, .int (-5 : Int32))]) h_m136 (z_at.mk 1 rfl rfl) rfl (by decide) rfl rfl rfl ?_
                      refine w_p h_m136 2 (pc' := 16) (L' := [(0, .ref 39), (1, .int ((((xs 1) ||| ((xs 2) <<< ((5 : Int32) &&& 31))) ||| ((xs 3) <<< ((10 : Int32) &&& 31))) ||| ((xs 4) <<< ((15 : Int32) &&& 31)))), (2, .int (-5 : Int32))]) (st' := [.ref 39]) rfl ?_
                      refine w_gf H (pc' := 19) (L' := [(0, .ref 39), (1, .int ((((xs 1) ||| ((xs 2) <<< ((5 : Int32) &&& 31))) ||| ((xs 3) <<< ((10 : Int32) &&& 31))) ||| ((xs 4) <<< ((15 : Int32) &&& 31)))), (2, .int (-5 : Int32))]) h_m136 (z_at.mk 3 rfl rfl) rfl (u := .ref 133) rfl rfl rfl ?_
                      refine w_p h_m136 1 (pc' := 20) (L' := [(0, .ref 39), (1, .int ((((xs 1) ||| ((xs 2) <<< ((5 : Int32) &&& 31))) ||| ((xs 3) <<< ((10 : Int32) &&& 31))) ||| ((xs 4) <<< ((15 : Int32) &&& 31)))), (2, .int (-5 : Int32))]) (st' := [.ref 39, .ref 133]) rfl ?_
                      refine w_gf H (pc' := 23) (L' := [(0, .ref 39), (1, .int ((((xs 1) ||| ((xs 2) <<< ((5 : Int32) &&& 31))) ||| ((xs 3) <<< ((10 : Int32) &&& 31))) ||| ((xs 4) <<< ((15 : Int32) &&& 31)))), (2, .int (-5 : Int32))]) h_m136 (z_at.mk 3 rfl rfl) rfl (u := .ref 131) rfl rfl rfl ?_
                      refine w_gf H (pc' := 26) (L' := [(0, .ref 39), (1, .int ((((xs 1) ||| ((xs 2) <<< ((5 : Int32) &&& 31))) ||| ((xs 3) <<< ((10 : Int32) &&& 31))) ||| ((xs 4) <<< ((15 : Int32) &&& 31)))), (2, .int (-5 : Int32))]) h_m136 (z_at.mk 3 rfl rfl) rfl (u := .int (0 : Int32)) rfl rfl rfl ?_
                      refine w_p h_m136 1 (pc' := 27) (L' := [(0, .ref 39), (1, .int ((((xs 1) ||| ((xs 2) <<< ((5 : Int32) &&& 31))) ||| ((xs 3) <<< ((10 : Int32) &&& 31))) ||| ((xs 4) <<< ((15 : Int32) &&& 31)))), (2, .int (-5 : Int32))]) (st' := [.int (-5 : Int32), .int (0 : Int32), .ref 133]) rfl ?_
                      refine w_as H (t := 0) (j := 0) (u := .int (-5 : Int32)) (0, 181, [(0, .int (-5 : Int32))], some (.int (0 : Int32))) (pc' := 28) (L' := [(0, .ref 39), (1, .int ((((xs 1) ||| ((xs 2) <<< ((5 : Int32) &&& 31))) ||| ((xs 3) <<< ((10 : Int32) &&& 31))) ||| ((xs 4) <<< ((15 : Int32) &&& 31))))]) h_m136 (z_at.mk 1 rfl rfl) rfl rfl (w_ui _ _ (by decide)) rfl rfl rfl rfl ?_
                      clear H m; intro m H
                      refine w_p h_m136 1 (pc' := 29) (L' := [(0, .ref 39), (1, .int ((((xs 1) ||| ((xs 2) <<< ((5 : Int32) &&& 31))) ||| ((xs 3) <<< ((10 : Int32) &&& 31))) ||| ((xs 4) <<< ((15 : Int32) &&& 31))))]) (st' := [.ref 39]) rfl ?_
                      refine w_gf H (pc' := 32) (L' := [(0, .ref 39), (1, .int ((((xs 1) ||| ((xs 2) <<< ((5 : Int32) &&& 31))) ||| ((xs 3) <<< ((10 : Int32) &&& 31))) ||| ((xs 4) <<< ((15 : Int32) &&& 31))))]) h_m136 (z_at.mk 3 rfl rfl) rfl (u := .ref 131) rfl rfl rfl ?_
                      refine w_p h_m136 1 (pc' := 33) (L' := [(0, .ref 39), (1, .int ((((xs 1) ||| ((xs 2) <<< ((5 : Int32) &&& 31))) ||| ((xs 3) <<< ((10 : Int32) &&& 31))) ||| ((xs 4) <<< ((15 : Int32) &&& 31))))]) (st' := [.int ((((xs 1) ||| ((xs 2) <<< ((5 : Int32) &&& 31))) ||| ((xs 3) <<< ((10 : Int32) &&& 31))) ||| ((xs 4) <<< ((15 : Int32) &&& 31))), .ref 131]) rfl ?_
                      refine w_cv (H.t rfl) (pc' := 36) (L' := [(0, .ref 39), (1, .int ((((xs 1) ||| ((xs 2) <<< ((5 : Int32) &&& 31))) ||| ((xs 3) <<< ((10 : Int32) &&& 31))) ||| ((xs 4) <<< ((15 : Int32) &&& 31))))]) (rest := []) (Ps := [.int ((((xs 1) ||| ((xs 2) <<< ((5 : Int32) &&& 31))) ||| ((xs 3) <<< ((10 : Int32) &&& 31))) ||| ((xs 4) <<< ((15 : Int32) &&& 31)))]) (L0 := [(0, .ref 131), (1, .int ((((xs 1) ||| ((xs 2) <<< ((5 : Int32) &&& 31))) ||| ((xs 3) <<< ((10 : Int32) &&& 31))) ||| ((xs 4) <<< ((15 : Int32) &&& 31))))]) h_m136 (z_at.mk 3 rfl rfl) (Or.inl ⟨rfl, rfl⟩) rfl rfl (by decide) (by decide) rfl rfl rfl rfl rfl rfl (by decide) rfl rfl rfl ?_
                      refine w_p h_m14 1 (pc' := 1) (L' := [(0, .ref 131), (1, .int ((((xs 1) ||| ((xs 2) <<< ((5 : Int32) &&& 31))) ||| ((xs 3) <<< ((10 : Int32) &&& 31))) ||| ((xs 4) <<< ((15 : Int32) &&& 31))))]) (st' := [.ref 131]) rfl ?_
                      refine w_gf H (pc' := 4) (L' := [(0, .ref 131), (1, .int ((((xs 1) ||| ((xs 2) <<< ((5 : Int32) &&& 31))) ||| ((xs 3) <<< ((10 : Int32) &&& 31))) ||| ((xs 4) <<< ((15 : Int32) &&& 31))))]) h_m14 (z_at.mk 3 rfl rfl) rfl (u := .int (0 : Int32)) rfl rfl rfl ?_
                      refine w_p h_m14 2 (pc' := 8) (L' := [(0, .ref 131), (1, .int ((((xs 1) ||| ((xs 2) <<< ((5 : Int32) &&& 31))) ||| ((xs 3) <<< ((10 : Int32) &&& 31))) ||| ((xs 4) <<< ((15 : Int32) &&& 31))))]) (st' := [.ref 131]) rfl ?_
                      refine w_gf H (pc' := 11) (L' := [(0, .ref 131), (1, .int ((((xs 1) ||| ((xs 2) <<< ((5 : Int32) &&& 31))) ||| ((xs 3) <<< ((10 : Int32) &&& 31))) ||| ((xs 4) <<< ((15 : Int32) &&& 31))))]) h_m14 (z_at.mk 3 rfl rfl) rfl (u := .int (0 : Int32)) rfl rfl rfl ?_
                      refine w_p h_m14 1 (pc' := 12) (L' := [(0, .ref 131), (1, .int ((((xs 1) ||| ((xs 2) <<< ((5 : Int32) &&& 31))) ||| ((xs 3) <<< ((10 : Int32) &&& 31))) ||| ((xs 4) <<< ((15 : Int32) &&& 31))))]) (st' := [.ref 131, .int (0 : Int32)]) rfl ?_
                      refine w_gf H (pc' := 15) (L' := [(0, .ref 131), (1, .int ((((xs 1) ||| ((xs 2) <<< ((5 : Int32) &&& 31))) ||| ((xs 3) <<< ((10 : Int32) &&& 31))) ||| ((xs 4) <<< ((15 : Int32) &&& 31))))]) h_m14 (z_at.mk 3 rfl rfl) rfl (u := .ref 132) rfl rfl rfl ?_
                      refine w_len H (t := 0) (n := 181) (x := (181 : Int32)) (pc' := 16) (L' := [(0, .ref 131), (1, .int ((((xs 1) ||| ((xs 2) <<< ((5 : Int32) &&& 31))) ||| ((xs 3) <<< ((10 : Int32) &&& 31))) ||| ((xs 4) <<< ((15 : Int32) &&& 31))))]) h_m14 (z_at.mk 1 rfl rfl) rfl (by decide) rfl rfl rfl ?_
                      refine w_p h_m14 2 (pc' := 22) (L' := [(0, .ref 131), (1, .int ((((xs 1) ||| ((xs 2) <<< ((5 : Int32) &&& 31))) ||| ((xs 3) <<< ((10 : Int32) &&& 31))) ||| ((xs 4) <<< ((15 : Int32) &&& 31))))]) (st' := [.ref 131]) rfl ?_
                      refine w_gf H (pc' := 25) (L' := [(0, .ref 131), (1, .int ((((xs 1) ||| ((xs 2) <<< ((5 : Int32) &&& 31))) ||| ((xs 3) <<< ((10 : Int32) &&& 31))) ||| ((xs 4) <<< ((15 : Int32) &&& 31))))]) h_m14 (z_at.mk 3 rfl rfl) rfl (u := .ref 132) rfl rfl rfl ?_
                      refine w_p h_m14 1 (pc' := 26) (L' := [(0, .ref 131), (1, .int ((((xs 1) ||| ((xs 2) <<< ((5 : Int32) &&& 31))) ||| ((xs 3) <<< ((10 : Int32) &&& 31))) ||| ((xs 4) <<< ((15 : Int32) &&& 31))))]) (st' := [.ref 131, .ref 132]) rfl ?_
                      refine w_gf H (pc' := 29) (L' := [(0, .ref 131), (1, .int ((((xs 1) ||| ((xs 2) <<< ((5 : Int32) &&& 31))) ||| ((xs 3) <<< ((10 : Int32) &&& 31))) ||| ((xs 4) <<< ((15 : Int32) &&& 31))))]) h_m14 (z_at.mk 3 rfl rfl) rfl (u := .int (0 : Int32)) rfl rfl rfl ?_
                      refine w_p h_m14 1 (pc' := 30) (L' := [(0, .ref 131), (1, .int ((((xs 1) ||| ((xs 2) <<< ((5 : Int32) &&& 31))) ||| ((xs 3) <<< ((10 : Int32) &&& 31))) ||| ((xs 4) <<< ((15 : Int32) &&& 31))))]) (st' := [.int ((((xs 1) ||| ((xs 2) <<< ((5 : Int32) &&& 31))) ||| ((xs 3) <<< ((10 : Int32) &&& 31))) ||| ((xs 4) <<< ((15 : Int32) &&& 31))), .int (0 : Int32), .ref 132]) rfl ?_
                      refine w_as H (t := 0) (j := 0) (u := .int ((((xs 1) ||| ((xs 2) <<< ((5 : Int32) &&& 31))) ||| ((xs 3) <<< ((10 : Int32) &&& 31))) ||| ((xs 4) <<< ((15 : Int32) &&& 31)))) (0, 181, [(0, .int ((((xs 1) ||| ((xs 2) <<< ((5 : Int32) &&& 31))) ||| ((xs 3) <<< ((10 : Int32) &&& 31))) ||| ((xs 4) <<< ((15 : Int32) &&& 31))))], some (.int (0 : Int32))) (pc' := 31) (L' := [(0, .ref 131), (1, .int ((((xs 1) ||| ((xs 2) <<< ((5 : Int32) &&& 31))) ||| ((xs 3) <<< ((10 : Int32) &&& 31))) ||| ((xs 4) <<< ((15 : Int32) &&& 31))))]) h_m14 (z_at.mk 1 rfl rfl) rfl rfl (w_ui _ _ (by decide)) rfl rfl rfl rfl ?_
                      clear H m; intro m H
                      refine w_p h_m14 2 (pc' := 33) (L' := [(0, .ref 131), (1, .int ((((xs 1) ||| ((xs 2) <<< ((5 : Int32) &&& 31))) ||| ((xs 3) <<< ((10 : Int32) &&& 31))) ||| ((xs 4) <<< ((15 : Int32) &&& 31))))]) (st' := [.ref 131, .ref 131]) rfl ?_
                      refine w_gf H (pc' := 36) (L' := [(0, .ref 131), (1, .int ((((xs 1) ||| ((xs 2) <<< ((5 : Int32) &&& 31))) ||| ((xs 3) <<< ((10 : Int32) &&& 31))) ||| ((xs 4) <<< ((15 : Int32) &&& 31))))]) h_m14 (z_at.mk 3 rfl rfl) rfl (u := .int (0 : Int32)) rfl rfl rfl ?_
                      refine w_p h_m14 2 (pc' := 38) (L' := [(0, .ref 131), (1, .int ((((xs 1) ||| ((xs 2) <<< ((5 : Int32) &&& 31))) ||| ((xs 3) <<< ((10 : Int32) &&& 31))) ||| ((xs 4) <<< ((15 : Int32) &&& 31))))]) (st' := [.int (1 : Int32), .ref 131]) rfl ?_
                      refine w_pf H (11, 2, [(1, .int (1 : Int32)), (0, .ref 132)], none) (pc' := 41) (L' := [(0, .ref 131), (1, .int ((((xs 1) ||| ((xs 2) <<< ((5 : Int32) &&& 31))) ||| ((xs 3) <<< ((10 : Int32) &&& 31))) ||| ((xs 4) <<< ((15 : Int32) &&& 31))))]) h_m14 (z_at.mk 3 rfl rfl) rfl (by decide) rfl (Or.inl rfl) rfl rfl rfl ?_
                      clear H m; intro m H
                      refine w_p h_m14 1 (pc' := 42) (L' := [(0, .ref 131), (1, .int ((((xs 1) ||| ((xs 2) <<< ((5 : Int32) &&& 31))) ||| ((xs 3) <<< ((10 : Int32) &&& 31))) ||| ((xs 4) <<< ((15 : Int32) &&& 31))))]) (st' := [.int (1 : Int32)]) rfl ?_
                      refine w_ri h_m14 (z_at.mk 1 rfl rfl) rfl rfl ?_
                      show z_W 998 136 36 [(0, .ref 39), (1, .int ((((xs 1) ||| ((xs 2) <<< ((5 : Int32) &&& 31))) ||| ((xs 3) <<< ((10 : Int32) &&& 31))) ||| ((xs 4) <<< ((15 : Int32) &&& 31))))] [.int (1 : Int32)] m _
                      refine w_p h_m136 1 (pc' := 37) (L' := [(0, .ref 39), (1, .int ((((xs 1) ||| ((xs 2) <<< ((5 : Int32) &&& 31))) ||| ((xs 3) <<< ((10 : Int32) &&& 31))) ||| ((xs 4) <<< ((15 : Int32) &&& 31))))]) (st' := []) rfl ?_
                      refine w_rv h_m136 (z_at.mk 1 rfl rfl) rfl ?_
                      show z_W 999 135 152 [(0, .ref 39), (6, .ref 56), (7, .int (0 : Int32))] [] m _
                      refine w_p h_m135 4 (pc' := 133) (L' := [(0, .ref 39), (6, .ref 56), (7, .int (1 : Int32))]) (st' := [.ref 56, .int (1 : Int32)]) rfl ?_
                      refine w_gf H (pc' := 136) (L' := [(0, .ref 39), (6, .ref 56), (7, .int (1 : Int32))]) h_m135 (z_at.mk 3 rfl rfl) rfl (u := .int (1 : Int32)) rfl rfl rfl ?_
                      refine w_p h_m135 2 (pc' := 159) (L' := [(0, .ref 39), (6, .ref 56), (7, .int (1 : Int32))]) (st' := [.ref 39]) rfl ?_
                      refine w_gf H (pc' := 162) (L' := [(0, .ref 39), (6, .ref 56), (7, .int (1 : Int32))]) h_m135 (z_at.mk 3 rfl rfl) rfl (u := .ref 131) rfl rfl rfl ?_
                      refine w_gf H (pc' := 165) (L' := [(0, .ref 39), (6, .ref 56), (7, .int (1 : Int32))]) h_m135 (z_at.mk 3 rfl rfl) rfl (u := .int (1 : Int32)) rfl rfl rfl ?_
                      refine w_ri h_m135 (z_at.mk 1 rfl rfl) rfl rfl ?_
                      show z_W 1000 1000 681 [(0, .ref 0), (1, .ref 39), (2, .ref 143), (3, .int (0 : Int32))] [.int (1 : Int32)] m _
                      refine w_p h_m1000 5 (pc' := 686) (L' := [(0, .ref 0), (1, .ref 39), (2, .ref 143), (3, .int (0 : Int32))]) (st' := [.int (1 : Int32), .ref 0, .ref 143, .int (1 : Int32)]) rfl ?_
                      refine w_ae H (j := 1) (pc' := 687) (L' := [(0, .ref 0), (1, .ref 39), (2, .ref 143), (3, .int (0 : Int32))]) h_m1000 (z_at.mk 1 rfl rfl) rfl rfl rfl (by decide) rfl (by decide) rfl rfl rfl ?_
                      refine w_p h_m1000 4 (pc' := 691) (L' := [(0, .ref 0), (1, .ref 39), (2, .ref 143), (3, .int (0 : Int32))]) (st' := [.int (2 : Int32), .ref 0, .int (xs 1), .ref 143, .int (1 : Int32)]) rfl ?_
                      refine w_ae H (j := 2) (pc' := 692) (L' := [(0, .ref 0), (1, .ref 39), (2, .ref 143), (3, .int (0 : Int32))]) h_m1000 (z_at.mk 1 rfl rfl) rfl rfl rfl (by decide) rfl (by decide) rfl rfl rfl ?_
                      refine w_p h_m1000 4 (pc' := 696) (L' := [(0, .ref 0), (1, .ref 39), (2, .ref 143), (3, .int (0 : Int32))]) (st' := [.int (3 : Int32), .ref 0, .int (xs 2), .int (xs 1), .ref 143, .int (1 : Int32)]) rfl ?_
                      refine w_ae H (j := 3) (pc' := 697) (L' := [(0, .ref 0), (1, .ref 39), (2, .ref 143), (3, .int (0 : Int32))]) h_m1000 (z_at.mk 1 rfl rfl) rfl rfl rfl (by decide) rfl (by decide) rfl rfl rfl ?_
                      refine w_p h_m1000 4 (pc' := 701) (L' := [(0, .ref 0), (1, .ref 39), (2, .ref 143), (3, .int (0 : Int32))]) (st' := [.int (4 : Int32), .ref 0, .int (xs 3), .int (xs 2), .int (xs 1), .ref 143, .int (1 : Int32)]) rfl ?_
                      refine w_ae H (j := 4) (pc' := 702) (L' := [(0, .ref 0), (1, .ref 39), (2, .ref 143), (3, .int (0 : Int32))]) h_m1000 (z_at.mk 1 rfl rfl) rfl rfl rfl (by decide) rfl (by decide) rfl rfl rfl ?_
                      refine w_cv (H.t rfl) (pc' := 705) (L' := [(0, .ref 0), (1, .ref 39), (2, .ref 143), (3, .int (0 : Int32))]) (rest := [.int (1 : Int32)]) (Ps := [.int (xs 1), .int (xs 2), .int (xs 3), .int (xs 4)]) (L0 := [(0, .ref 143), (1, .int (xs 1)), (2, .int (xs 2)), (3, .int (xs 3)), (4, .int (xs 4))]) h_m1000 (z_at.mk 3 rfl rfl) (Or.inl ⟨rfl, rfl⟩) rfl rfl (by decide) (by decide) rfl rfl rfl rfl rfl rfl (by decide) rfl rfl rfl ?_
                      refine w_p h_m246 4 (pc' := 5) (L' := [(0, .ref 143), (1, .int (xs 1)), (2, .int (xs 2)), (3, .int (xs 3)), (4, .int (xs 4))]) (st' := [.int (xs 4), .int (xs 3), .int (xs 2), .int (xs 1)]) rfl ?_
                      refine w_cs (As := [.int (xs 1), .int (xs 2), .int (xs 3), .int (xs 4)]) (rest := []) (j := 164) (L0 := [(0, .int (xs 1)), (1, .int (xs 2)), (2, .int (xs 3)), (3, .int (xs 4))]) (pc' := 8) (L' := [(0, .ref 143), (1, .int (xs 1)), (2, .int (xs 2)), (3, .int (xs 3)), (4, .int (xs 4))]) h_m246 (z_at.mk 3 rfl rfl) (Or.inl ⟨rfl, rfl⟩) rfl rfl rfl rfl rfl ?_
                      refine w_p h_m164 3 (pc' := 4) (L' := [(0, .int (xs 1)), (1, .int (xs 2)), (2, .int (xs 3)), (3, .int (xs 4))]) (st' := [.int (31 : Int32), .int (0 : Int32), .int (xs 1)]) rfl ?_
                      refine w_cs (As := [.int (xs 1), .int (0 : Int32), .int (31 : Int32)]) (rest := []) (j := 159) (L0 := [(0, .int (xs 1)), (1, .int (0 : Int32)), (2, .int (31 : Int32))]) (pc' := 7) (L' := [(0, .int (xs 1)), (1, .int (xs 2)), (2, .int (xs 3)), (3, .int (xs 4))]) h_m164 (z_at.mk 3 rfl rfl) (Or.inl ⟨rfl, rfl⟩) rfl rfl rfl rfl rfl ?_
                      refine w_p h_m159 2 (pc' := 2) (L' := [(0, .int (xs 1)), (1, .int (0 : Int32)), (2, .int (31 : Int32))]) (st' := [.int (0 : Int32), .int (xs 1)]) rfl ?_
                      refine w_f2 (pc' := 5) (L' := [(0, .int (xs 1)), (1, .int (0 : Int32)), (2, .int (31 : Int32))]) h_m159 (z_at.mk 3 rfl rfl) rfl (zc (a := (xs 1).toInt) (b := 0) rfl rfl (decide_eq_false (by omega))) rfl rfl ?_
                      refine w_p h_m159 2 (pc' := 7) (L' := [(0, .int (xs 1)), (1, .int (0 : Int32)), (2, .int (31 : Int32))]) (st' := [.int (31 : Int32), .int (xs 1)]) rfl ?_
                      refine w_f2 (pc' := 10) (L' := [(0, .int (xs 1)), (1, .int (0 : Int32)), (2, .int (31 : Int32))]) h_m159 (z_at.mk 3 rfl rfl) rfl (zc (a := (xs 1).toInt) (b := 31) rfl rfl (decide_eq_false (by omega))) rfl rfl ?_
                      refine w_p h_m159 2 (pc' := 15) (L' := []) (st' := [.int (1 : Int32)]) rfl ?_
                      refine w_ri h_m159 (z_at.mk 1 rfl rfl) rfl rfl ?_
                      show z_W 998 164 7 [(0, .int (xs 1)), (1, .int (xs 2)), (2, .int (xs 3)), (3, .int (xs 4))] [.int (1 : Int32)] m _
                      refine w_p h_m164 4 (pc' := 14) (L' := [(0, .int (xs 1)), (1, .int (xs 2)), (2, .int (xs 3)), (3, .int (xs 4))]) (st' := [.int (31 : Int32), .int (xs 1), .int (xs 2)]) rfl ?_
                      refine w_cs (As := [.int (xs 2), .int (xs 1), .int (31 : Int32)]) (rest := []) (j := 159) (L0 := [(0, .int (xs 2)), (1, .int (xs 1)), (2, .int (31 : Int32))]) (pc' := 17) (L' := [(0, .int (xs 1)), (1, .int (xs 2)), (2, .int (xs 3)), (3, .int (xs 4))]) h_m164 (z_at.mk 3 rfl rfl) (Or.inl ⟨rfl, rfl⟩) rfl rfl rfl rfl rfl ?_
                      refine w_p h_m159 2 (pc' := 2) (L' := [(0, .int (xs 2)), (1, .int (xs 1)), (2, .int (31 : Int32))]) (st' := [.int (xs 1), .int (xs 2)]) rfl ?_
                      refine w_f2 (pc' := 5) (L' := [(0, .int (xs 2)), (1, .int (xs 1)), (2, .int (31 : Int32))]) h_m159 (z_at.mk 3 rfl rfl) rfl (zc (a := (xs 2).toInt) (b := (xs 1).toInt) rfl rfl (decide_eq_false (by omega))) rfl rfl ?_
                      refine w_p h_m159 2 (pc' := 7) (L' := [(0, .int (xs 2)), (1, .int (xs 1)), (2, .int (31 : Int32))]) (st' := [.int (31 : Int32), .int (xs 2)]) rfl ?_
                      refine w_f2 (pc' := 10) (L' := [(0, .int (xs 2)), (1, .int (xs 1)), (2, .int (31 : Int32))]) h_m159 (z_at.mk 3 rfl rfl) rfl (zc (a := (xs 2).toInt) (b := 31) rfl rfl (decide_eq_false (by omega))) rfl rfl ?_
                      refine w_p h_m159 2 (pc' := 15) (L' := []) (st' := [.int (1 : Int32)]) rfl ?_
                      refine w_ri h_m159 (z_at.mk 1 rfl rfl) rfl rfl ?_
                      show z_W 998 164 17 [(0, .int (xs 1)), (1, .int (xs 2)), (2, .int (xs 3)), (3, .int (xs 4))] [.int (1 : Int32)] m _
                      refine w_p h_m164 4 (pc' := 24) (L' := [(0, .int (xs 1)), (1, .int (xs 2)), (2, .int (xs 3)), (3, .int (xs 4))]) (st' := [.int (31 : Int32), .int (0 : Int32), .int (xs 3)]) rfl ?_
                      refine w_cs (As := [.int (xs 3), .int (0 : Int32), .int (31 : Int32)]) (rest := []) (j := 159) (L0 := [(0, .int (xs 3)), (1, .int (0 : Int32)), (2, .int (31 : Int32))]) (pc' := 27) (L' := [(0, .int (xs 1)), (1, .int (xs 2)), (2, .int (xs 3)), (3, .int (xs 4))]) h_m164 (z_at.mk 3 rfl rfl) (Or.inl ⟨rfl, rfl⟩) rfl rfl rfl rfl rfl ?_
                      refine w_p h_m159 2 (pc' := 2) (L' := [(0, .int (xs 3)), (1, .int (0 : Int32)), (2, .int (31 : Int32))]) (st' := [.int (0 : Int32), .int (xs 3)]) rfl ?_
                      refine w_f2 (pc' := 5) (L' := [(0, .int (xs 3)), (1, .int (0 : Int32)), (2, .int (31 : Int32))]) h_m159 (z_at.mk 3 rfl rfl) rfl (zc (a := (xs 3).toInt) (b := 0) rfl rfl (decide_eq_false (by omega))) rfl rfl ?_
                      refine w_p h_m159 2 (pc' := 7) (L' := [(0, .int (xs 3)), (1, .int (0 : Int32)), (2, .int (31 : Int32))]) (st' := [.int (31 : Int32), .int (xs 3)]) rfl ?_
                      refine w_f2 (pc' := 10) (L' := [(0, .int (xs 3)), (1, .int (0 : Int32)), (2, .int (31 : Int32))]) h_m159 (z_at.mk 3 rfl rfl) rfl (zc (a := (xs 3).toInt) (b := 31) rfl rfl (decide_eq_false (by omega))) rfl rfl ?_
                      refine w_p h_m159 2 (pc' := 15) (L' := []) (st' := [.int (1 : Int32)]) rfl ?_
                      refine w_ri h_m159 (z_at.mk 1 rfl rfl) rfl rfl ?_
                      show z_W 998 164 27 [(0, .int (xs 1)), (1, .int (xs 2)), (2, .int (xs 3)), (3, .int (xs 4))] [.int (1 : Int32)] m _
                      refine w_p h_m164 4 (pc' := 34) (L' := [(0, .int (xs 1)), (1, .int (xs 2)), (2, .int (xs 3)), (3, .int (xs 4))]) (st' := [.int (31 : Int32), .int (xs 3), .int (xs 4)]) rfl ?_
                      refine w_cs (As := [.int (xs 4), .int (xs 3), .int (31 : Int32)]) (rest := []) (j := 159) (L0 := [(0, .int (xs 4)), (1, .int (xs 3)), (2, .int (31 : Int32))]) (pc' := 37) (L' := [(0, .int (xs 1)), (1, .int (xs 2)), (2, .int (xs 3)), (3, .int (xs 4))]) h_m164 (z_at.mk 3 rfl rfl) (Or.inl ⟨rfl, rfl⟩) rfl rfl rfl rfl rfl ?_
                      refine w_p h_m159 2 (pc' := 2) (L' := [(0, .int (xs 4)), (1, .int (xs 3)), (2, .int (31 : Int32))]) (st' := [.int (xs 3), .int (xs 4)]) rfl ?_
                      refine w_f2 (pc' := 5) (L' := [(0, .int (xs 4)), (1, .int (xs 3)), (2, .int (31 : Int32))]) h_m159 (z_at.mk 3 rfl rfl) rfl (zc (a := (xs 4).toInt) (b := (xs 3).toInt) rfl rfl (decide_eq_false (by omega))) rfl rfl ?_
                      refine w_p h_m159 2 (pc' := 7) (L' := [(0, .int (xs 4)), (1, .int (xs 3)), (2, .int (31 : Int32))]) (st' := [.int (31 : Int32), .int (xs 4)]) rfl ?_
                      refine w_f2 (pc' := 10) (L' := [(0, .int (xs 4)), (1, .int (xs 3)), (2, .int (31 : Int32))]) h_m159 (z_at.mk 3 rfl rfl) rfl (zc (a := (xs 4).toInt) (b := 31) rfl rfl (decide_eq_false (by omega))) rfl rfl ?_
                      refine w_p h_m159 2 (pc' := 15) (L' := []) (st' := [.int (1 : Int32)]) rfl ?_
                      refine w_ri h_m159 (z_at.mk 1 rfl rfl) rfl rfl ?_
                      show z_W 998 164 37 [(0, .int (xs 1)), (1, .int (xs 2)), (2, .int (xs 3)), (3, .int (xs 4))] [.int (1 : Int32)] m _
                      refine w_p h_m164 3 (pc' := 45) (L' := []) (st' := [.int (1 : Int32)]) rfl ?_
                      refine w_ri h_m164 (z_at.mk 1 rfl rfl) rfl rfl ?_
                      show z_W 999 246 8 [(0, .ref 143), (1, .int (xs 1)), (2, .int (xs 2)), (3, .int (xs 3)), (4, .int (xs 4))] [.int (1 : Int32)] m _
                      refine w_p h_m246 2 (pc' := 15) (L' := [(0, .ref 143), (1, .int (xs 1)), (2, .int (xs 2)), (3, .int (xs 3)), (4, .int (xs 4))]) (st' := [.ref 143]) rfl ?_
                      refine w_gf H (pc' := 18) (L' := [(0, .ref 143), (1, .int (xs 1)), (2, .int (xs 2)), (3, .int (xs 3)), (4, .int (xs 4))]) h_m246 (z_at.mk 3 rfl rfl) rfl (u := .ref 152) rfl rfl rfl ?_
                      refine w_p h_m246 5 (pc' := 24) (L' := [(0, .ref 143), (1, .int (xs 1)), (2, .int (xs 2)), (3, .int (xs 3)), (4, .int (xs 4))]) (st' := [.int (xs 4), .int (xs 3), .int (xs 2), .int (xs 1), .int (0 : Int32), .ref 152]) rfl ?_
                      refine w_cs (As := [.ref 152, .int (0 : Int32), .int (xs 1), .int (xs 2), .int (xs 3), .int (xs 4)]) (rest := []) (j := 165) (L0 := [(0, .ref 152), (1, .int (0 : Int32)), (2, .int (xs 1)), (3, .int (xs 2)), (4, .int (xs 3)), (5, .int (xs 4))]) (pc' := 27) (L' := [(0, .ref 143), (1, .int (xs 1)), (2, .int (xs 2)), (3, .int (xs 3)), (4, .int (xs 4))]) h_m246 (z_at.mk 3 rfl rfl) (Or.inl ⟨rfl, rfl⟩) rfl rfl rfl rfl rfl ?_
                      refine w_p h_m165 3 (pc' := 3) (L' := [(0, .ref 152), (1, .int (0 : Int32)), (2, .int (xs 1)), (3, .int (xs 2)), (4, .int (xs 3)), (5, .int (xs 4))]) (st' := [.int (xs 1), .int (0 : Int32), .ref 152]) rfl ?_
                      refine w_as H (t := 0) (j := 0) (u := .int (xs 1)) (0, 4, [(0, .int (xs 1))], some (.int (0 : Int32))) (pc' := 4) (L' := [(0, .ref 152), (1, .int (0 : Int32)), (2, .int (xs 1)), (3, .int (xs 2)), (4, .int (xs 3)), (5, .int (xs 4))]) h_m165 (z_at.mk 1 rfl rfl) rfl rfl (w_ui _ _ (by decide)) rfl rfl rfl rfl ?_
                      clear H m; intro m H
                      refine w_p h_m165 5 (pc' := 9) (L' := [(0, .ref 152), (1, .int (0 : Int32)), (2, .int (xs 1)), (3, .int (xs 2)), (4, .int (xs 3)), (5, .int (xs 4))]) (st' := [.int (xs 2), .int (1 : Int32), .ref 152]) rfl ?_
                      refine w_as H (t := 0) (j := 1) (u := .int (xs 2)) (0, 4, [(1, .int (xs 2)), (0, .int (xs 1))], some (.int (0 : Int32))) (pc' := 10) (L' := [(0, .ref 152), (1, .int (0 : Int32)), (2, .int (xs 1)), (3, .int (xs 2)), (4, .int (xs 3)), (5, .int (xs 4))]) h_m165 (z_at.mk 1 rfl rfl) rfl rfl (w_ui _ _ (by decide)) rfl rfl rfl rfl ?_
                      clear H m; intro m H
                      refine w_p h_m165 5 (pc' := 16) (L' := [(0, .ref 152), (1, .int (0 : Int32)), (2, .int (xs 1)), (3, .int (xs 2)), (4, .int (xs 3)), (5, .int (xs 4))]) (st' := [.int (xs 3), .int (2 : Int32), .ref 152]) rfl ?_
                      refine w_as H (t := 0) (j := 2) (u := .int (xs 3)) (0, 4, [(2, .int (xs 3)), (1, .int (xs 2)), (0, .int (xs 1))], some (.int (0 : Int32))) (pc' := 17) (L' := [(0, .ref 152), (1, .int (0 : Int32)), (2, .int (xs 1)), (3, .int (xs 2)), (4, .int (xs 3)), (5, .int (xs 4))]) h_m165 (z_at.mk 1 rfl rfl) rfl rfl (w_ui _ _ (by decide)) rfl rfl rfl rfl ?_
                      clear H m; intro m H
                      refine w_p h_m165 5 (pc' := 23) (L' := [(0, .ref 152), (1, .int (0 : Int32)), (2, .int (xs 1)), (3, .int (xs 2)), (4, .int (xs 3)), (5, .int (xs 4))]) (st' := [.int (xs 4), .int (3 : Int32), .ref 152]) rfl ?_
                      refine w_as H (t := 0) (j := 3) (u := .int (xs 4)) (0, 4, [(3, .int (xs 4)), (2, .int (xs 3)), (1, .int (xs 2)), (0, .int (xs 1))], some (.int (0 : Int32))) (pc' := 24) (L' := [(0, .ref 152), (1, .int (0 : Int32)), (2, .int (xs 1)), (3, .int (xs 2)), (4, .int (xs 3)), (5, .int (xs 4))]) h_m165 (z_at.mk 1 rfl rfl) rfl rfl (w_ui _ _ (by decide)) rfl rfl rfl rfl ?_
                      clear H m; intro m H
                      refine w_rv h_m165 (z_at.mk 1 rfl rfl) rfl ?_
                      show z_W 999 246 27 [(0, .ref 143), (1, .int (xs 1)), (2, .int (xs 2)), (3, .int (xs 3)), (4, .int (xs 4))] [] m _
                      refine w_p h_m246 1 (pc' := 28) (L' := [(0, .ref 143), (1, .int (xs 1)), (2, .int (xs 2)), (3, .int (xs 3)), (4, .int (xs 4))]) (st' := [.ref 143]) rfl ?_
                      refine w_cv (H.t rfl) (pc' := 31) (L' := [(0, .ref 143), (1, .int (xs 1)), (2, .int (xs 2)), (3, .int (xs 3)), (4, .int (xs 4))]) (rest := []) (Ps := []) (L0 := [(0, .ref 143)]) h_m246 (z_at.mk 3 rfl rfl) (Or.inl ⟨rfl, rfl⟩) rfl rfl (by decide) (by decide) rfl rfl rfl rfl rfl rfl (by decide) rfl rfl rfl ?_
                      refine w_p h_m181 1 (pc' := 1) (L' := [(0, .ref 143)]) (st' := [.ref 143]) rfl ?_
                      refine w_gf H (pc' := 4) (L' := [(0, .ref 143)]) h_m181 (z_at.mk 3 rfl rfl) rfl (u := .ref 152) rfl rfl rfl ?_
                      refine w_p h_m181 2 (pc' := 6) (L' := [(0, .ref 143)]) (st' := [.ref 143, .int (0 : Int32), .ref 152]) rfl ?_
                      refine w_gf H (pc' := 9) (L' := [(0, .ref 143)]) h_m181 (z_at.mk 3 rfl rfl) rfl (u := .ref 150) rfl rfl rfl ?_
                      refine w_p h_m181 1 (pc' := 10) (L' := [(0, .ref 143)]) (st' := [.int (0 : Int32), .ref 150, .int (0 : Int32), .ref 152]) rfl ?_
                      refine w_cs (As := [.ref 152, .int (0 : Int32), .ref 150, .int (0 : Int32)]) (rest := []) (j := 166) (L0 := [(0, .ref 152), (1, .int (0 : Int32)), (2, .ref 150), (3, .int (0 : Int32))]) (pc' := 13) (L' := [(0, .ref 143)]) h_m181 (z_at.mk 3 rfl rfl) (Or.inl ⟨rfl, rfl⟩) rfl rfl rfl rfl rfl ?_
                      refine w_p h_m166 4 (pc' := 4) (L' := [(0, .ref 152), (1, .int (0 : Int32)), (2, .ref 150), (3, .int (0 : Int32))]) (st' := [.int (0 : Int32), .ref 152, .int (0 : Int32), .ref 150]) rfl ?_
                      refine w_al H (t := 0) (j := 0) (pc' := 5) (L' := [(0, .ref 152), (1, .int (0 : Int32)), (2, .ref 150), (3, .int (0 : Int32))]) h_m166 (z_at.mk 1 rfl rfl) rfl rfl rfl (u := .int (xs 1)) rfl rfl rfl ?_
                      refine w_p h_m166 4 (pc' := 9) (L' := [(0, .ref 152), (1, .int (0 : Int32)), (2, .ref 150), (3, .int (0 : Int32))]) (st' := [.int (1 : Int32), .ref 152, .int (xs 1), .int (0 : Int32), .ref 150]) rfl ?_
                      refine w_al H (t := 0) (j := 1) (pc' := 10) (L' := [(0, .ref 152), (1, .int (0 : Int32)), (2, .ref 150), (3, .int (0 : Int32))]) h_m166 (z_at.mk 1 rfl rfl) rfl rfl rfl (u := .int (xs 2)) rfl rfl rfl ?_
                      refine w_p h_m166 4 (pc' := 14) (L' := [(0, .ref 152), (1, .int (0 : Int32)), (2, .ref 150), (3, .int (0 : Int32))]) (st' := [.int (2 : Int32), .ref 152, .int (xs 2), .int (xs 1), .int (0 : Int32), .ref 150]) rfl ?_
                      refine w_al H (t := 0) (j := 2) (pc' := 15) (L' := [(0, .ref 152), (1, .int (0 : Int32)), (2, .ref 150), (3, .int (0 : Int32))]) h_m166 (z_at.mk 1 rfl rfl) rfl rfl rfl (u := .int (xs 3)) rfl rfl rfl ?_
                      refine w_p h_m166 4 (pc' := 19) (L' := [(0, .ref 152), (1, .int (0 : Int32)), (2, .ref 150), (3, .int (0 : Int32))]) (st' := [.int (3 : Int32), .ref 152, .int (xs 3), .int (xs 2), .int (xs 1), .int (0 : Int32), .ref 150]) rfl ?_
                      refine w_al H (t := 0) (j := 3) (pc' := 20) (L' := [(0, .ref 152), (1, .int (0 : Int32)), (2, .ref 150), (3, .int (0 : Int32))]) h_m166 (z_at.mk 1 rfl rfl) rfl rfl rfl (u := .int (xs 4)) rfl rfl rfl ?_
                      refine w_cs (As := [.ref 150, .int (0 : Int32), .int (xs 1), .int (xs 2), .int (xs 3), .int (xs 4)]) (rest := []) (j := 165) (L0 := [(0, .ref 150), (1, .int (0 : Int32)), (2, .int (xs 1)), (3, .int (xs 2)), (4, .int (xs 3)), (5, .int (xs 4))]) (pc' := 23) (L' := [(0, .ref 152), (1, .int (0 : Int32)), (2, .ref 150), (3, .int (0 : Int32))]) h_m166 (z_at.mk 3 rfl rfl) (Or.inl ⟨rfl, rfl⟩) rfl rfl rfl rfl rfl ?_
                      refine w_p h_m165 3 (pc' := 3) (L' := [(0, .ref 150), (1, .int (0 : Int32)), (2, .int (xs 1)), (3, .int (xs 2)), (4, .int (xs 3)), (5, .int (xs 4))]) (st' := [.int (xs 1), .int (0 : Int32), .ref 150]) rfl ?_
                      refine w_as H (t := 0) (j := 0) (u := .int (xs 1)) (0, 2400, [(0, .int (xs 1))], some (.int (0 : Int32))) (pc' := 4) (L' := [(0, .ref 150), (1, .int (0 : Int32)), (2, .int (xs 1)), (3, .int (xs 2)), (4, .int (xs 3)), (5, .int (xs 4))]) h_m165 (z_at.mk 1 rfl rfl) rfl rfl (w_ui _ _ (by decide)) rfl rfl rfl rfl ?_
                      clear H m; intro m H
                      refine w_p h_m165 5 (pc' := 9) (L' := [(0, .ref 150), (1, .int (0 : Int32)), (2, .int (xs 1)), (3, .int (xs 2)), (4, .int (xs 3)), (5, .int (xs 4))]) (st' := [.int (xs 2), .int (1 : Int32), .ref 150]) rfl ?_
                      refine w_as H (t := 0) (j := 1) (u := .int (xs 2)) (0, 2400, [(1, .int (xs 2)), (0, .int (xs 1))], some (.int (0 : Int32))) (pc' := 10) (L' := [(0, .ref 150), (1, .int (0 : Int32)), (2, .int (xs 1)), (3, .int (xs 2)), (4, .int (xs 3)), (5, .int (xs 4))]) h_m165 (z_at.mk 1 rfl rfl) rfl rfl (w_ui _ _ (by decide)) rfl rfl rfl rfl ?_
                      clear H m; intro m H
                      refine w_p h_m165 5 (pc' := 16) (L' := [(0, .ref 150), (1, .int (0 : Int32)), (2, .int (xs 1)), (3, .int (xs 2)), (4, .int (xs 3)), (5, .int (xs 4))]) (st' := [.int (xs 3), .int (2 : Int32), .ref 150]) rfl ?_
                      refine w_as H (t := 0) (j := 2) (u := .int (xs 3)) (0, 2400, [(2, .int (xs 3)), (1, .int (xs 2)), (0, .int (xs 1))], some (.int (0 : Int32))) (pc' := 17) (L' := [(0, .ref 150), (1, .int (0 : Int32)), (2, .int (xs 1)), (3, .int (xs 2)), (4, .int (xs 3)), (5, .int (xs 4))]) h_m165 (z_at.mk 1 rfl rfl) rfl rfl (w_ui _ _ (by decide)) rfl rfl rfl rfl ?_
                      clear H m; intro m H
                      refine w_p h_m165 5 (pc' := 23) (L' := [(0, .ref 150), (1, .int (0 : Int32)), (2, .int (xs 1)), (3, .int (xs 2)), (4, .int (xs 3)), (5, .int (xs 4))]) (st' := [.int (xs 4), .int (3 : Int32), .ref 150]) rfl ?_
                      refine w_as H (t := 0) (j := 3) (u := .int (xs 4)) (0, 2400, [(3, .int (xs 4)), (2, .int (xs 3)), (1, .int (xs 2)), (0, .int (xs 1))], some (.int (0 : Int32))) (pc' := 24) (L' := [(0, .ref 150), (1, .int (0 : Int32)), (2, .int (xs 1)), (3, .int (xs 2)), (4, .int (xs 3)), (5, .int (xs 4))]) h_m165 (z_at.mk 1 rfl rfl) rfl rfl (w_ui _ _ (by decide)) rfl rfl rfl rfl ?_
                      clear H m; intro m H
                      refine w_rv h_m165 (z_at.mk 1 rfl rfl) rfl ?_
                      show z_W 997 166 23 [(0, .ref 152), (1, .int (0 : Int32)), (2, .ref 150), (3, .int (0 : Int32))] [] m _
                      refine w_rv h_m166 (z_at.mk 1 rfl rfl) rfl ?_
                      show z_W 998 181 13 [(0, .ref 143)] [] m _
                      refine w_p h_m181 2 (pc' := 15) (L' := [(0, .ref 143)]) (st' := [.int (1 : Int32), .ref 143]) rfl ?_
                      refine w_pf H (22, 35, [(10, .int (1 : Int32)), (34, .ref 167), (33, .ref 166), (31, .ref 165), (30, .ref 164), (28, .ref 163), (26, .ref 162), (25, .ref 161), (24, .ref 160), (19, .ref 159), (18, .ref 158), (17, .ref 157), (16, .ref 156), (13, .ref 155), (12, .ref 154), (11, .ref 153), (9, .ref 152), (8, .ref 151), (7, .ref 150), (5, .ref 149), (4, .ref 148), (3, .ref 147), (2, .ref 146), (1, .ref 145), (0, .ref 144), (6, .int (0 : Int32)), (14, .int (0 : Int32)), (15, .int (0 : Int32)), (20, .int (0 : Int32)), (21, .int (0 : Int32)), (22, .int (0 : Int32)), (23, .int (0 : Int32)), (27, .int (0 : Int32)), (29, .int (0 : Int32)), (32, .int (0 : Int32))], none) (pc' := 18) (L' := [(0, .ref 143)]) h_m181 (z_at.mk 3 rfl rfl) rfl (by decide) rfl (Or.inl rfl) rfl rfl rfl ?_
                      clear H m; intro m H
                      refine w_p h_m181 4 (pc' := 22) (L' := [(0, .ref 143), (1, .int (0 : Int32))]) (st' := [.ref 143, .int (0 : Int32)]) rfl ?_
                      refine w_gf H (pc' := 25) (L' := [(0, .ref 143), (1, .int (0 : Int32))]) h_m181 (z_at.mk 3 rfl rfl) rfl (u := .ref 144) rfl rfl rfl ?_
                      refine w_p h_m181 1 (pc' := 26) (L' := [(0, .ref 143), (1, .int (0 : Int32))]) (st' := [.int (0 : Int32), .ref 144, .int (0 : Int32)]) rfl ?_
                      refine w_al H (t := 0) (j := 0) (pc' := 27) (L' := [(0, .ref 143), (1, .int (0 : Int32))]) h_m181 (z_at.mk 1 rfl rfl) rfl rfl rfl (u := .int (0 : Int32)) rfl rfl rfl ?_
                      refine w_p h_m181 1 (pc' := 114) (L' := [(0, .ref 143), (1, .int (0 : Int32))]) (st' := []) rfl ?_
                      refine w_rv h_m181 (z_at.mk 1 rfl rfl) rfl ?_
                      show z_W 999 246 31 [(0, .ref 143), (1, .int (xs 1)), (2, .int (xs 2)), (3, .int (xs 3)), (4, .int (xs 4))] [] m _
                      refine w_p h_m246 2 (pc' := 33) (L' := [(0, .ref 143), (1, .int (xs 1)), (2, .int (xs 2)), (3, .int (xs 3)), (4, .int (xs 4))]) (st' := [.int (0 : Int32), .ref 143]) rfl ?_
                      refine w_pf H (22, 35, [(32, .int (0 : Int32)), (10, .int (1 : Int32)), (34, .ref 167), (33, .ref 166), (31, .ref 165), (30, .ref 164), (28, .ref 163), (26, .ref 162), (25, .ref 161), (24, .ref 160), (19, .ref 159), (18, .ref 158), (17, .ref 157), (16, .ref 156), (13, .ref 155), (12, .ref 154), (11, .ref 153), (9, .ref 152), (8, .ref 151), (7, .ref 150), (5, .ref 149), (4, .ref 148), (3, .ref 147), (2, .ref 146), (1, .ref 145), (0, .ref 144), (6, .int (0 : Int32)), (14, .int (0 : Int32)), (15, .int (0 : Int32)), (20, .int (0 : Int32)), (21, .int (0 : Int32)), (22, .int (0 : Int32)), (23, .int (0 : Int32)), (27, .int (0 : Int32)), (29, .int (0 : Int32))], none) (pc' := 36) (L' := [(0, .ref 143), (1, .int (xs 1)), (2, .int (xs 2)), (3, .int (xs 3)), (4, .int (xs 4))]) h_m246 (z_at.mk 3 rfl rfl) rfl (by decide) rfl (Or.inl rfl) rfl rfl rfl ?_
                      clear H m; intro m H
                      refine w_p h_m246 4 (pc' := 42) (L' := [(0, .ref 143), (5, .int (0 : Int32))]) (st' := [.ref 143, .int (0 : Int32)]) rfl ?_
                      refine w_gf H (pc' := 45) (L' := [(0, .ref 143), (5, .int (0 : Int32))]) h_m246 (z_at.mk 3 rfl rfl) rfl (u := .ref 144) rfl rfl rfl ?_
                      refine w_p h_m246 1 (pc' := 46) (L' := [(0, .ref 143), (5, .int (0 : Int32))]) (st' := [.int (0 : Int32), .ref 144, .int (0 : Int32)]) rfl ?_
                      refine w_al H (t := 0) (j := 0) (pc' := 47) (L' := [(0, .ref 143), (5, .int (0 : Int32))]) h_m246 (z_at.mk 1 rfl rfl) rfl rfl rfl (u := .int (0 : Int32)) rfl rfl rfl ?_
                      refine w_p h_m246 5 (pc' := 148) (L' := [(0, .ref 143), (5, .int (0 : Int32))]) (st' := [.ref 143, .int (0 : Int32)]) rfl ?_
                      refine w_gf H (pc' := 151) (L' := [(0, .ref 143), (5, .int (0 : Int32))]) h_m246 (z_at.mk 3 rfl rfl) rfl (u := .int (1 : Int32)) rfl rfl rfl ?_
                      refine w_p h_m246 2 (pc' := 155) (L' := [(0, .ref 143), (5, .int (0 : Int32))]) (st' := [.ref 143]) rfl ?_
                      refine w_gf H (pc' := 158) (L' := [(0, .ref 143), (5, .int (0 : Int32))]) h_m246 (z_at.mk 3 rfl rfl) rfl (u := .ref 150) rfl rfl rfl ?_
                      refine w_p h_m246 4 (pc' := 163) (L' := [(0, .ref 143), (5, .int (0 : Int32))]) (st' := [.ref 143, .int (0 : Int32), .ref 150]) rfl ?_
                      refine w_gf H (pc' := 166) (L' := [(0, .ref 143), (5, .int (0 : Int32))]) h_m246 (z_at.mk 3 rfl rfl) rfl (u := .ref 165) rfl rfl rfl ?_
                      refine w_p h_m246 2 (pc' := 168) (L' := [(0, .ref 143), (5, .int (0 : Int32))]) (st' := [.ref 143, .int (5 : Int32), .ref 165, .int (0 : Int32), .ref 150]) rfl ?_
                      refine w_gf H (pc' := 171) (L' := [(0, .ref 143), (5, .int (0 : Int32))]) h_m246 (z_at.mk 3 rfl rfl) rfl (u := .int (0 : Int32)) rfl rfl rfl ?_
                      refine w_p h_m246 1 (pc' := 172) (L' := [(0, .ref 143), (5, .int (0 : Int32))]) (st' := [.int (0 : Int32), .ref 165, .int (0 : Int32), .ref 150]) rfl ?_
                      refine w_cs (As := [.ref 150, .int (0 : Int32), .ref 165, .int (0 : Int32)]) (rest := []) (j := 166) (L0 := [(0, .ref 150), (1, .int (0 : Int32)), (2, .ref 165), (3, .int (0 : Int32))]) (pc' := 175) (L' := [(0, .ref 143), (5, .int (0 : Int32))]) h_m246 (z_at.mk 3 rfl rfl) (Or.inl ⟨rfl, rfl⟩) rfl rfl rfl rfl rfl ?_
                      refine w_p h_m166 4 (pc' := 4) (L' := [(0, .ref 150), (1, .int (0 : Int32)), (2, .ref 165), (3, .int (0 : Int32))]) (st' := [.int (0 : Int32), .ref 150, .int (0 : Int32), .ref 165]) rfl ?_
                      refine w_al H (t := 0) (j := 0) (pc' := 5) (L' := [(0, .ref 150), (1, .int (0 : Int32)), (2, .ref 165), (3, .int (0 : Int32))]) h_m166 (z_at.mk 1 rfl rfl) rfl rfl rfl (u := .int (xs 1)) rfl rfl rfl ?_
                      refine w_p h_m166 4 (pc' := 9) (L' := [(0, .ref 150), (1, .int (0 : Int32)), (2, .ref 165), (3, .int (0 : Int32))]) (st' := [.int (1 : Int32), .ref 150, .int (xs 1), .int (0 : Int32), .ref 165]) rfl ?_
                      refine w_al H (t := 0) (j := 1) (pc' := 10) (L' := [(0, .ref 150), (1, .int (0 : Int32)), (2, .ref 165), (3, .int (0 : Int32))]) h_m166 (z_at.mk 1 rfl rfl) rfl rfl rfl (u := .int (xs 2)) rfl rfl rfl ?_
                      refine w_p h_m166 4 (pc' := 14) (L' := [(0, .ref 150), (1, .int (0 : Int32)), (2, .ref 165), (3, .int (0 : Int32))]) (st' := [.int (2 : Int32), .ref 150, .int (xs 2), .int (xs 1), .int (0 : Int32), .ref 165]) rfl ?_
                      refine w_al H (t := 0) (j := 2) (pc' := 15) (L' := [(0, .ref 150), (1, .int (0 : Int32)), (2, .ref 165), (3, .int (0 : Int32))]) h_m166 (z_at.mk 1 rfl rfl) rfl rfl rfl (u := .int (xs 3)) rfl rfl rfl ?_
                      refine w_p h_m166 4 (pc' := 19) (L' := [(0, .ref 150), (1, .int (0 : Int32)), (2, .ref 165), (3, .int (0 : Int32))]) (st' := [.int (3 : Int32), .ref 150, .int (xs 3), .int (xs 2), .int (xs 1), .int (0 : Int32), .ref 165]) rfl ?_
                      refine w_al H (t := 0) (j := 3) (pc' := 20) (L' := [(0, .ref 150), (1, .int (0 : Int32)), (2, .ref 165), (3, .int (0 : Int32))]) h_m166 (z_at.mk 1 rfl rfl) rfl rfl rfl (u := .int (xs 4)) rfl rfl rfl ?_
                      refine w_cs (As := [.ref 165, .int (0 : Int32), .int (xs 1), .int (xs 2), .int (xs 3), .int (xs 4)]) (rest := []) (j := 165) (L0 := [(0, .ref 165), (1, .int (0 : Int32)), (2, .int (xs 1)), (3, .int (xs 2)), (4, .int (xs 3)), (5, .int (xs 4))]) (pc' := 23) (L' := [(0, .ref 150), (1, .int (0 : Int32)), (2, .ref 165), (3, .int (0 : Int32))]) h_m166 (z_at.mk 3 rfl rfl) (Or.inl ⟨rfl, rfl⟩) rfl rfl rfl rfl rfl ?_
                      refine w_p h_m165 3 (pc' := 3) (L' := [(0, .ref 165), (1, .int (0 : Int32)), (2, .int (xs 1)), (3, .int (xs 2)), (4, .int (xs 3)), (5, .int (xs 4))]) (st' := [.int (xs 1), .int (0 : Int32), .ref 165]) rfl ?_
                      refine w_as H (t := 0) (j := 0) (u := .int (xs 1)) (0, 3000, [(0, .int (xs 1))], some (.int (0 : Int32))) (pc' := 4) (L' := [(0, .ref 165), (1, .int (0 : Int32)), (2, .int (xs 1)), (3, .int (xs 2)), (4, .int (xs 3)), (5, .int (xs 4))]) h_m165 (z_at.mk 1 rfl rfl) rfl rfl (w_ui _ _ (by decide)) rfl rfl rfl rfl ?_
                      clear H m; intro m H
                      refine w_p h_m165 5 (pc' := 9) (L' := [(0, .ref 165), (1, .int (0 : Int32)), (2, .int (xs 1)), (3, .int (xs 2)), (4, .int (xs 3)), (5, .int (xs 4))]) (st' := [.int (xs 2), .int (1 : Int32), .ref 165]) rfl ?_
                      refine w_as H (t := 0) (j := 1) (u := .int (xs 2)) (0, 3000, [(1, .int (xs 2)), (0, .int (xs 1))], some (.int (0 : Int32))) (pc' := 10) (L' := [(0, .ref 165), (1, .int (0 : Int32)), (2, .int (xs 1)), (3, .int (xs 2)), (4, .int (xs 3)), (5, .int (xs 4))]) h_m165 (z_at.mk 1 rfl rfl) rfl rfl (w_ui _ _ (by decide)) rfl rfl rfl rfl ?_
                      clear H m; intro m H
                      refine w_p h_m165 5 (pc' := 16) (L' := [(0, .ref 165), (1, .int (0 : Int32)), (2, .int (xs 1)), (3, .int (xs 2)), (4, .int (xs 3)), (5, .int (xs 4))]) (st' := [.int (xs 3), .int (2 : Int32), .ref 165]) rfl ?_
                      refine w_as H (t := 0) (j := 2) (u := .int (xs 3)) (0, 3000, [(2, .int (xs 3)), (1, .int (xs 2)), (0, .int (xs 1))], some (.int (0 : Int32))) (pc' := 17) (L' := [(0, .ref 165), (1, .int (0 : Int32)), (2, .int (xs 1)), (3, .int (xs 2)), (4, .int (xs 3)), (5, .int (xs 4))]) h_m165 (z_at.mk 1 rfl rfl) rfl rfl (w_ui _ _ (by decide)) rfl rfl rfl rfl ?_
                      clear H m; intro m H
                      refine w_p h_m165 5 (pc' := 23) (L' := [(0, .ref 165), (1, .int (0 : Int32)), (2, .int (xs 1)), (3, .int (xs 2)), (4, .int (xs 3)), (5, .int (xs 4))]) (st' := [.int (xs 4), .int (3 : Int32), .ref 165]) rfl ?_
                      refine w_as H (t := 0) (j := 3) (u := .int (xs 4)) (0, 3000, [(3, .int (xs 4)), (2, .int (xs 3)), (1, .int (xs 2)), (0, .int (xs 1))], some (.int (0 : Int32))) (pc' := 24) (L' := [(0, .ref 165), (1, .int (0 : Int32)), (2, .int (xs 1)), (3, .int (xs 2)), (4, .int (xs 3)), (5, .int (xs 4))]) h_m165 (z_at.mk 1 rfl rfl) rfl rfl (w_ui _ _ (by decide)) rfl rfl rfl rfl ?_
                      clear H m; intro m H
                      refine w_rv h_m165 (z_at.mk 1 rfl rfl) rfl ?_
                      show z_W 998 166 23 [(0, .ref 150), (1, .int (0 : Int32)), (2, .ref 165), (3, .int (0 : Int32))] [] m _
                      refine w_rv h_m166 (z_at.mk 1 rfl rfl) rfl ?_
                      show z_W 999 246 175 [(0, .ref 143), (5, .int (0 : Int32))] [] m _
                      refine w_p h_m246 1 (pc' := 176) (L' := [(0, .ref 143), (5, .int (0 : Int32))]) (st' := [.ref 143]) rfl ?_
                      refine w_gf H (pc' := 179) (L' := [(0, .ref 143), (5, .int (0 : Int32))]) h_m246 (z_at.mk 3 rfl rfl) rfl (u := .ref 165) rfl rfl rfl ?_
                      refine w_p h_m246 2 (pc' := 181) (L' := [(0, .ref 143), (5, .int (0 : Int32))]) (st' := [.ref 143, .int (5 : Int32), .ref 165]) rfl ?_
                      refine w_gf H (pc' := 184) (L' := [(0, .ref 143), (5, .int (0 : Int32))]) h_m246 (z_at.mk 3 rfl rfl) rfl (u := .int (0 : Int32)) rfl rfl rfl ?_
                      refine w_p h_m246 4 (pc' := 189) (L' := [(0, .ref 143), (5, .int (0 : Int32))]) (st' := [.int (-5 : Int32), .int (4 : Int32), .ref 165]) rfl ?_
                      refine w_as H (t := 0) (j := 4) (u := .int (-5 : Int32)) (0, 3000, [(4, .int (-5 : Int32)), (3, .int (xs 4)), (2, .int (xs 3)), (1, .int (xs 2)), (0, .int (xs 1))], some (.int (0 : Int32))) (pc' := 190) (L' := [(0, .ref 143), (5, .int (0 : Int32))]) h_m246 (z_at.mk 1 rfl rfl) rfl rfl (w_ui _ _ (by decide)) rfl rfl rfl rfl ?_
                      clear H m; intro m H
                      refine w_p h_m246 2 (pc' := 192) (L' := [(0, .ref 143), (5, .int (0 : Int32))]) (st' := [.ref 143, .ref 143]) rfl ?_
                      refine w_gf H (pc' := 195) (L' := [(0, .ref 143), (5, .int (0 : Int32))]) h_m246 (z_at.mk 3 rfl rfl) rfl (u := .int (0 : Int32)) rfl rfl rfl ?_
                      refine w_p h_m246 2 (pc' := 197) (L' := [(0, .ref 143), (5, .int (0 : Int32))]) (st' := [.int (1 : Int32), .ref 143]) rfl ?_
                      refine w_pf H (22, 35, [(32, .int (1 : Int32)), (10, .int (1 : Int32)), (34, .ref 167), (33, .ref 166), (31, .ref 165), (30, .ref 164), (28, .ref 163), (26, .ref 162), (25, .ref 161), (24, .ref 160), (19, .ref 159), (18, .ref 158), (17, .ref 157), (16, .ref 156), (13, .ref 155), (12, .ref 154), (11, .ref 153), (9, .ref 152), (8, .ref 151), (7, .ref 150), (5, .ref 149), (4, .ref 148), (3, .ref 147), (2, .ref 146), (1, .ref 145), (0, .ref 144), (6, .int (0 : Int32)), (14, .int (0 : Int32)), (15, .int (0 : Int32)), (20, .int (0 : Int32)), (21, .int (0 : Int32)), (22, .int (0 : Int32)), (23, .int (0 : Int32)), (27, .int (0 : Int32)), (29, .int (0 : Int32))], none) (pc' := 200) (L' := [(0, .ref 143), (5, .int (0 : Int32))]) h_m246 (z_at.mk 3 rfl rfl) rfl (by decide) rfl (Or.inl rfl) rfl rfl rfl ?_
                      clear H m; intro m H
                      refine w_p h_m246 4 (pc' := 148) (L' := [(0, .ref 143), (5, .int (1 : Int32))]) (st' := [.ref 143, .int (1 : Int32)]) rfl ?_
                      refine w_gf H (pc' := 151) (L' := [(0, .ref 143), (5, .int (1 : Int32))]) h_m246 (z_at.mk 3 rfl rfl) rfl (u := .int (1 : Int32)) rfl rfl rfl ?_
                      refine w_p h_m246 2 (pc' := 207) (L' := [(0, .ref 143), (5, .int (1 : Int32))]) (st' := [.ref 143]) rfl ?_
                      refine w_gf H (pc' := 210) (L' := [(0, .ref 143), (5, .int (1 : Int32))]) h_m246 (z_at.mk 3 rfl rfl) rfl (u := .int (1 : Int32)) rfl rfl rfl ?_
                      refine w_ri h_m246 (z_at.mk 1 rfl rfl) rfl rfl ?_
                      show z_W 1000 1000 705 [(0, .ref 0), (1, .ref 39), (2, .ref 143), (3, .int (0 : Int32))] [.int (1 : Int32), .int (1 : Int32)] m _
                      refine w_p h_m1000 5 (pc' := 20) (L' := [(0, .ref 0), (1, .ref 39), (2, .ref 143), (3, .int (6 : Int32))]) (st' := [.ref 0, .int (6 : Int32)]) rfl ?_
                      refine w_lene H (x := (6 : Int32)) (pc' := 21) (L' := [(0, .ref 0), (1, .ref 39), (2, .ref 143), (3, .int (6 : Int32))]) h_m1000 (z_at.mk 1 rfl rfl) (by decide) rfl (by decide) rfl rfl rfl ?_
                      refine w_p h_m1000 4 (pc' := 1381) (L' := [(0, .ref 0), (1, .ref 39), (2, .ref 143), (3, .int (6 : Int32))]) (st' := [.int (1 : Int32)]) rfl ?_
                      refine w_ri h_m1000 (z_at.mk 1 rfl rfl) rfl rfl ?_
                      exact hQ _ _ _ _ H (by decide) (by decide)
                    · refine w_t2 (pc' := 30) (L' := []) h_m1 (z_at.mk 3 rfl rfl) rfl (zc (a := (xs 3).toInt) (b := (xs 4).toInt) rfl rfl (decide_eq_true (by omega))) rfl rfl ?_
                      refine w_p h_m1 1 (pc' := 31) (L' := []) (st' := [.int (0 : Int32)]) rfl ?_
                      refine w_ri h_m1 (z_at.mk 1 rfl rfl) rfl rfl ?_
                      show z_W 999 135 8 [(0, .ref 39), (1, .int (xs 1)), (2, .int (xs 2)), (3, .int (xs 3)), (4, .int (xs 4))] [.int (0 : Int32)] m _
                      refine w_p h_m135 2 (pc' := 13) (L' := [(0, .ref 39), (1, .int (xs 1)), (2, .int (xs 2)), (3, .int (xs 3)), (4, .int (xs 4))]) (st' := [.int (-2 : Int32)]) rfl ?_
                      refine w_ri h_m135 (z_at.mk 1 rfl rfl) rfl rfl ?_
                      show z_W 1000 1000 681 [(0, .ref 0), (1, .ref 39), (2, .ref 143), (3, .int (0 : Int32))] [.int (-2 : Int32)] m _
                      refine w_p h_m1000 5 (pc' := 686) (L' := [(0, .ref 0), (1, .ref 39), (2, .ref 143), (3, .int (0 : Int32))]) (st' := [.int (1 : Int32), .ref 0, .ref 143, .int (-2 : Int32)]) rfl ?_
                      refine w_ae H (j := 1) (pc' := 687) (L' := [(0, .ref 0), (1, .ref 39), (2, .ref 143), (3, .int (0 : Int32))]) h_m1000 (z_at.mk 1 rfl rfl) rfl rfl rfl (by decide) rfl (by decide) rfl rfl rfl ?_
                      refine w_p h_m1000 4 (pc' := 691) (L' := [(0, .ref 0), (1, .ref 39), (2, .ref 143), (3, .int (0 : Int32))]) (st' := [.int (2 : Int32), .ref 0, .int (xs 1), .ref 143, .int (-2 : Int32)]) rfl ?_
                      refine w_ae H (j := 2) (pc' := 692) (L' := [(0, .ref 0), (1, .ref 39), (2, .ref 143), (3, .int (0 : Int32))]) h_m1000 (z_at.mk 1 rfl rfl) rfl rfl rfl (by decide) rfl (by decide) rfl rfl rfl ?_
                      refine w_p h_m1000 4 (pc' := 696) (L' := [(0, .ref 0), (1, .ref 39), (2, .ref 143), (3, .int (0 : Int32))]) (st' := [.int (3 : Int32), .ref 0, .int (xs 2), .int (xs 1), .ref 143, .int (-2 : Int32)]) rfl ?_
                      refine w_ae H (j := 3) (pc' := 697) (L' := [(0, .ref 0), (1, .ref 39), (2, .ref 143), (3, .int (0 : Int32))]) h_m1000 (z_at.mk 1 rfl rfl) rfl rfl rfl (by decide) rfl (by decide) rfl rfl rfl ?_
                      refine w_p h_m1000 4 (pc' := 701) (L' := [(0, .ref 0), (1, .ref 39), (2, .ref 143), (3, .int (0 : Int32))]) (st' := [.int (4 : Int32), .ref 0, .int (xs 3), .int (xs 2), .int (xs 1), .ref 143, .int (-2 : Int32)]) rfl ?_
                      refine w_ae H (j := 4) (pc' := 702) (L' := [(0, .ref 0), (1, .ref 39), (2, .ref 143), (3, .int (0 : Int32))]) h_m1000 (z_at.mk 1 rfl rfl) rfl rfl rfl (by decide) rfl (by decide) rfl rfl rfl ?_
                      refine w_cv (H.t rfl) (pc' := 705) (L' := [(0, .ref 0), (1, .ref 39), (2, .ref 143), (3, .int (0 : Int32))]) (rest := [.int (-2 : Int32)]) (Ps := [.int (xs 1), .int (xs 2), .int (xs 3), .int (xs 4)]) (L0 := [(0, .ref 143), (1, .int (xs 1)), (2, .int (xs 2)), (3, .int (xs 3)), (4, .int (xs 4))]) h_m1000 (z_at.mk 3 rfl rfl) (Or.inl ⟨rfl, rfl⟩) rfl rfl (by decide) (by decide) rfl rfl rfl rfl rfl rfl (by decide) rfl rfl rfl ?_
                      refine w_p h_m246 4 (pc' := 5) (L' := [(0, .ref 143), (1, .int (xs 1)), (2, .int (xs 2)), (3, .int (xs 3)), (4, .int (xs 4))]) (st' := [.int (xs 4), .int (xs 3), .int (xs 2), .int (xs 1)]) rfl ?_
                      refine w_cs (As := [.int (xs 1), .int (xs 2), .int (xs 3), .int (xs 4)]) (rest := []) (j := 164) (L0 := [(0, .int (xs 1)), (1, .int (xs 2)), (2, .int (xs 3)), (3, .int (xs 4))]) (pc' := 8) (L' := [(0, .ref 143), (1, .int (xs 1)), (2, .int (xs 2)), (3, .int (xs 3)), (4, .int (xs 4))]) h_m246 (z_at.mk 3 rfl rfl) (Or.inl ⟨rfl, rfl⟩) rfl rfl rfl rfl rfl ?_
                      refine w_p h_m164 3 (pc' := 4) (L' := [(0, .int (xs 1)), (1, .int (xs 2)), (2, .int (xs 3)), (3, .int (xs 4))]) (st' := [.int (31 : Int32), .int (0 : Int32), .int (xs 1)]) rfl ?_
                      refine w_cs (As := [.int (xs 1), .int (0 : Int32), .int (31 : Int32)]) (rest := []) (j := 159) (L0 := [(0, .int (xs 1)), (1, .int (0 : Int32)), (2, .int (31 : Int32))]) (pc' := 7) (L' := [(0, .int (xs 1)), (1, .int (xs 2)), (2, .int (xs 3)), (3, .int (xs 4))]) h_m164 (z_at.mk 3 rfl rfl) (Or.inl ⟨rfl, rfl⟩) rfl rfl rfl rfl rfl ?_
                      refine w_p h_m159 2 (pc' := 2) (L' := [(0, .int (xs 1)), (1, .int (0 : Int32)), (2, .int (31 : Int32))]) (st' := [.int (0 : Int32), .int (xs 1)]) rfl ?_
                      refine w_f2 (pc' := 5) (L' := [(0, .int (xs 1)), (1, .int (0 : Int32)), (2, .int (31 : Int32))]) h_m159 (z_at.mk 3 rfl rfl) rfl (zc (a := (xs 1).toInt) (b := 0) rfl rfl (decide_eq_false (by omega))) rfl rfl ?_
                      refine w_p h_m159 2 (pc' := 7) (L' := [(0, .int (xs 1)), (1, .int (0 : Int32)), (2, .int (31 : Int32))]) (st' := [.int (31 : Int32), .int (xs 1)]) rfl ?_
                      refine w_f2 (pc' := 10) (L' := [(0, .int (xs 1)), (1, .int (0 : Int32)), (2, .int (31 : Int32))]) h_m159 (z_at.mk 3 rfl rfl) rfl (zc (a := (xs 1).toInt) (b := 31) rfl rfl (decide_eq_false (by omega))) rfl rfl ?_
                      refine w_p h_m159 2 (pc' := 15) (L' := []) (st' := [.int (1 : Int32)]) rfl ?_
                      refine w_ri h_m159 (z_at.mk 1 rfl rfl) rfl rfl ?_
                      show z_W 998 164 7 [(0, .int (xs 1)), (1, .int (xs 2)), (2, .int (xs 3)), (3, .int (xs 4))] [.int (1 : Int32)] m _
                      refine w_p h_m164 4 (pc' := 14) (L' := [(0, .int (xs 1)), (1, .int (xs 2)), (2, .int (xs 3)), (3, .int (xs 4))]) (st' := [.int (31 : Int32), .int (xs 1), .int (xs 2)]) rfl ?_
                      refine w_cs (As := [.int (xs 2), .int (xs 1), .int (31 : Int32)]) (rest := []) (j := 159) (L0 := [(0, .int (xs 2)), (1, .int (xs 1)), (2, .int (31 : Int32))]) (pc' := 17) (L' := [(0, .int (xs 1)), (1, .int (xs 2)), (2, .int (xs 3)), (3, .int (xs 4))]) h_m164 (z_at.mk 3 rfl rfl) (Or.inl ⟨rfl, rfl⟩) rfl rfl rfl rfl rfl ?_
                      refine w_p h_m159 2 (pc' := 2) (L' := [(0, .int (xs 2)), (1, .int (xs 1)), (2, .int (31 : Int32))]) (st' := [.int (xs 1), .int (xs 2)]) rfl ?_
                      refine w_f2 (pc' := 5) (L' := [(0, .int (xs 2)), (1, .int (xs 1)), (2, .int (31 : Int32))]) h_m159 (z_at.mk 3 rfl rfl) rfl (zc (a := (xs 2).toInt) (b := (xs 1).toInt) rfl rfl (decide_eq_false (by omega))) rfl rfl ?_
                      refine w_p h_m159 2 (pc' := 7) (L' := [(0, .int (xs 2)), (1, .int (xs 1)), (2, .int (31 : Int32))]) (st' := [.int (31 : Int32), .int (xs 2)]) rfl ?_
                      refine w_f2 (pc' := 10) (L' := [(0, .int (xs 2)), (1, .int (xs 1)), (2, .int (31 : Int32))]) h_m159 (z_at.mk 3 rfl rfl) rfl (zc (a := (xs 2).toInt) (b := 31) rfl rfl (decide_eq_false (by omega))) rfl rfl ?_
                      refine w_p h_m159 2 (pc' := 15) (L' := []) (st' := [.int (1 : Int32)]) rfl ?_
                      refine w_ri h_m159 (z_at.mk 1 rfl rfl) rfl rfl ?_
                      show z_W 998 164 17 [(0, .int (xs 1)), (1, .int (xs 2)), (2, .int (xs 3)), (3, .int (xs 4))] [.int (1 : Int32)] m _
                      refine w_p h_m164 4 (pc' := 24) (L' := [(0, .int (xs 1)), (1, .int (xs 2)), (2, .int (xs 3)), (3, .int (xs 4))]) (st' := [.int (31 : Int32), .int (0 : Int32), .int (xs 3)]) rfl ?_
                      refine w_cs (As := [.int (xs 3), .int (0 : Int32), .int (31 : Int32)]) (rest := []) (j := 159) (L0 := [(0, .int (xs 3)), (1, .int (0 : Int32)), (2, .int (31 : Int32))]) (pc' := 27) (L' := [(0, .int (xs 1)), (1, .int (xs 2)), (2, .int (xs 3)), (3, .int (xs 4))]) h_m164 (z_at.mk 3 rfl rfl) (Or.inl ⟨rfl, rfl⟩) rfl rfl rfl rfl rfl ?_
                      refine w_p h_m159 2 (pc' := 2) (L' := [(0, .int (xs 3)), (1, .int (0 : Int32)), (2, .int (31 : Int32))]) (st' := [.int (0 : Int32), .int (xs 3)]) rfl ?_
                      refine w_f2 (pc' := 5) (L' := [(0, .int (xs 3)), (1, .int (0 : Int32)), (2, .int (31 : Int32))]) h_m159 (z_at.mk 3 rfl rfl) rfl (zc (a := (xs 3).toInt) (b := 0) rfl rfl (decide_eq_false (by omega))) rfl rfl ?_
                      refine w_p h_m159 2 (pc' := 7) (L' := [(0, .int (xs 3)), (1, .int (0 : Int32)), (2, .int (31 : Int32))]) (st' := [.int (31 : Int32), .int (xs 3)]) rfl ?_
                      refine w_f2 (pc' := 10) (L' := [(0, .int (xs 3)), (1, .int (0 : Int32)), (2, .int (31 : Int32))]) h_m159 (z_at.mk 3 rfl rfl) rfl (zc (a := (xs 3).toInt) (b := 31) rfl rfl (decide_eq_false (by omega))) rfl rfl ?_
                      refine w_p h_m159 2 (pc' := 15) (L' := []) (st' := [.int (1 : Int32)]) rfl ?_
                      refine w_ri h_m159 (z_at.mk 1 rfl rfl) rfl rfl ?_
                      show z_W 998 164 27 [(0, .int (xs 1)), (1, .int (xs 2)), (2, .int (xs 3)), (3, .int (xs 4))] [.int (1 : Int32)] m _
                      refine w_p h_m164 4 (pc' := 34) (L' := [(0, .int (xs 1)), (1, .int (xs 2)), (2, .int (xs 3)), (3, .int (xs 4))]) (st' := [.int (31 : Int32), .int (xs 3), .int (xs 4)]) rfl ?_
                      refine w_cs (As := [.int (xs 4), .int (xs 3), .int (31 : Int32)]) (rest := []) (j := 159) (L0 := [(0, .int (xs 4)), (1, .int (xs 3)), (2, .int (31 : Int32))]) (pc' := 37) (L' := [(0, .int (xs 1)), (1, .int (xs 2)), (2, .int (xs 3)), (3, .int (xs 4))]) h_m164 (z_at.mk 3 rfl rfl) (Or.inl ⟨rfl, rfl⟩) rfl rfl rfl rfl rfl ?_
                      refine w_p h_m159 2 (pc' := 2) (L' := [(0, .int (xs 4)), (1, .int (xs 3)), (2, .int (31 : Int32))]) (st' := [.int (xs 3), .int (xs 4)]) rfl ?_
                      refine w_t2 (pc' := 14) (L' := []) h_m159 (z_at.mk 3 rfl rfl) rfl (zc (a := (xs 4).toInt) (b := (xs 3).toInt) rfl rfl (decide_eq_true (by omega))) rfl rfl ?_
                      refine w_p h_m159 1 (pc' := 15) (L' := []) (st' := [.int (0 : Int32)]) rfl ?_
                      refine w_ri h_m159 (z_at.mk 1 rfl rfl) rfl rfl ?_
                      show z_W 998 164 37 [(0, .int (xs 1)), (1, .int (xs 2)), (2, .int (xs 3)), (3, .int (xs 4))] [.int (0 : Int32)] m _
                      refine w_p h_m164 2 (pc' := 45) (L' := []) (st' := [.int (0 : Int32)]) rfl ?_
                      refine w_ri h_m164 (z_at.mk 1 rfl rfl) rfl rfl ?_
                      show z_W 999 246 8 [(0, .ref 143), (1, .int (xs 1)), (2, .int (xs 2)), (3, .int (xs 3)), (4, .int (xs 4))] [.int (0 : Int32)] m _
                      refine w_p h_m246 2 (pc' := 13) (L' := [(0, .ref 143), (1, .int (xs 1)), (2, .int (xs 2)), (3, .int (xs 3)), (4, .int (xs 4))]) (st' := [.int (-2 : Int32)]) rfl ?_
                      refine w_ri h_m246 (z_at.mk 1 rfl rfl) rfl rfl ?_
                      show z_W 1000 1000 705 [(0, .ref 0), (1, .ref 39), (2, .ref 143), (3, .int (0 : Int32))] [.int (-2 : Int32), .int (-2 : Int32)] m _
                      refine w_p h_m1000 5 (pc' := 20) (L' := [(0, .ref 0), (1, .ref 39), (2, .ref 143), (3, .int (6 : Int32))]) (st' := [.ref 0, .int (6 : Int32)]) rfl ?_
                      refine w_lene H (x := (6 : Int32)) (pc' := 21) (L' := [(0, .ref 0), (1, .ref 39), (2, .ref 143), (3, .int (6 : Int32))]) h_m1000 (z_at.mk 1 rfl rfl) (by decide) rfl (by decide) rfl rfl rfl ?_
                      refine w_p h_m1000 4 (pc' := 1381) (L' := [(0, .ref 0), (1, .ref 39), (2, .ref 143), (3, .int (6 : Int32))]) (st' := [.int (1 : Int32)]) rfl ?_
                      refine w_ri h_m1000 (z_at.mk 1 rfl rfl) rfl rfl ?_
                      exact hQ _ _ _ _ H (by decide) (by decide)
                  · refine w_t2 (pc' := 30) (L' := []) h_m1 (z_at.mk 3 rfl rfl) rfl (zc (a := (xs 1).toInt) (b := (xs 2).toInt) rfl rfl (decide_eq_true (by omega))) rfl rfl ?_
                    refine w_p h_m1 1 (pc' := 31) (L' := []) (st' := [.int (0 : Int32)]) rfl ?_
                    refine w_ri h_m1 (z_at.mk 1 rfl rfl) rfl rfl ?_
                    show z_W 999 135 8 [(0, .ref 39), (1, .int (xs 1)), (2, .int (xs 2)), (3, .int (xs 3)), (4, .int (xs 4))] [.int (0 : Int32)] m _
                    refine w_p h_m135 2 (pc' := 13) (L' := [(0, .ref 39), (1, .int (xs 1)), (2, .int (xs 2)), (3, .int (xs 3)), (4, .int (xs 4))]) (st' := [.int (-2 : Int32)]) rfl ?_
                    refine w_ri h_m135 (z_at.mk 1 rfl rfl) rfl rfl ?_
                    show z_W 1000 1000 681 [(0, .ref 0), (1, .ref 39), (2, .ref 143), (3, .int (0 : Int32))] [.int (-2 : Int32)] m _
                    refine w_p h_m1000 5 (pc' := 686) (L' := [(0, .ref 0), (1, .ref 39), (2, .ref 143), (3, .int (0 : Int32))]) (st' := [.int (1 : Int32), .ref 0, .ref 143, .int (-2 : Int32)]) rfl ?_
                    refine w_ae H (j := 1) (pc' := 687) (L' := [(0, .ref 0), (1, .ref 39), (2, .ref 143), (3, .int (0 : Int32))]) h_m1000 (z_at.mk 1 rfl rfl) rfl rfl rfl (by decide) rfl (by decide) rfl rfl rfl ?_
                    refine w_p h_m1000 4 (pc' := 691) (L' := [(0, .ref 0), (1, .ref 39), (2, .ref 143), (3, .int (0 : Int32))]) (st' := [.int (2 : Int32), .ref 0, .int (xs 1), .ref 143, .int (-2 : Int32)]) rfl ?_
                    refine w_ae H (j := 2) (pc' := 692) (L' := [(0, .ref 0), (1, .ref 39), (2, .ref 143), (3, .int (0 : Int32))]) h_m1000 (z_at.mk 1 rfl rfl) rfl rfl rfl (by decide) rfl (by decide) rfl rfl rfl ?_
                    refine w_p h_m1000 4 (pc' := 696) (L' := [(0, .ref 0), (1, .ref 39), (2, .ref 143), (3, .int (0 : Int32))]) (st' := [.int (3 : Int32), .ref 0, .int (xs 2), .int (xs 1), .ref 143, .int (-2 : Int32)]) rfl ?_
                    refine w_ae H (j := 3) (pc' := 697) (L' := [(0, .ref 0), (1, .ref 39), (2, .ref 143), (3, .int (0 : Int32))]) h_m1000 (z_at.mk 1 rfl rfl) rfl rfl rfl (by decide) rfl (by decide) rfl rfl rfl ?_
                    refine w_p h_m1000 4 (pc' := 701) (L' := [(0, .ref 0), (1, .ref 39), (2, .ref 143), (3, .int (0 : Int32))]) (st' := [.int (4 : Int32), .ref 0, .int (xs 3), .int (xs 2), .int (xs 1), .ref 143, .int (-2 : Int32)]) rfl ?_
                    refine w_ae H (j := 4) (pc' := 702) (L' := [(0, .ref 0), (1, .ref 39), (2, .ref 143), (3, .int (0 : Int32))]) h_m1000 (z_at.mk 1 rfl rfl) rfl rfl rfl (by decide) rfl (by decide) rfl rfl rfl ?_
                    refine w_cv (H.t rfl) (pc' := 705) (L' := [(0, .ref 0), (1, .ref 39), (2, .ref 143), (3, .int (0 : Int32))]) (rest := [.int (-2 : Int32)]) (Ps := [.int (xs 1), .int (xs 2), .int (xs 3), .int (xs 4)]) (L0 := [(0, .ref 143), (1, .int (xs 1)), (2, .int (xs 2)), (3, .int (xs 3)), (4, .int (xs 4))]) h_m1000 (z_at.mk 3 rfl rfl) (Or.inl ⟨rfl, rfl⟩) rfl rfl (by decide) (by decide) rfl rfl rfl rfl rfl rfl (by decide) rfl rfl rfl ?_
                    refine w_p h_m246 4 (pc' := 5) (L' := [(0, .ref 143), (1, .int (xs 1)), (2, .int (xs 2)), (3, .int (xs 3)), (4, .int (xs 4))]) (st' := [.int (xs 4), .int (xs 3), .int (xs 2), .int (xs 1)]) rfl ?_
                    refine w_cs (As := [.int (xs 1), .int (xs 2), .int (xs 3), .int (xs 4)]) (rest := []) (j := 164) (L0 := [(0, .int (xs 1)), (1, .int (xs 2)), (2, .int (xs 3)), (3, .int (xs 4))]) (pc' := 8) (L' := [(0, .ref 143), (1, .int (xs 1)), (2, .int (xs 2)), (3, .int (xs 3)), (4, .int (xs 4))]) h_m246 (z_at.mk 3 rfl rfl) (Or.inl ⟨rfl, rfl⟩) rfl rfl rfl rfl rfl ?_
                    refine w_p h_m164 3 (pc' := 4) (L' := [(0, .int (xs 1)), (1, .int (xs 2)), (2, .int (xs 3)), (3, .int (xs 4))]) (st' := [.int (31 : Int32), .int (0 : Int32), .int (xs 1)]) rfl ?_
                    refine w_cs (As := [.int (xs 1), .int (0 : Int32), .int (31 : Int32)]) (rest := []) (j := 159) (L0 := [(0, .int (xs 1)), (1, .int (0 : Int32)), (2, .int (31 : Int32))]) (pc' := 7) (L' := [(0, .int (xs 1)), (1, .int (xs 2)), (2, .int (xs 3)), (3, .int (xs 4))]) h_m164 (z_at.mk 3 rfl rfl) (Or.inl ⟨rfl, rfl⟩) rfl rfl rfl rfl rfl ?_
                    refine w_p h_m159 2 (pc' := 2) (L' := [(0, .int (xs 1)), (1, .int (0 : Int32)), (2, .int (31 : Int32))]) (st' := [.int (0 : Int32), .int (xs 1)]) rfl ?_
                    refine w_f2 (pc' := 5) (L' := [(0, .int (xs 1)), (1, .int (0 : Int32)), (2, .int (31 : Int32))]) h_m159 (z_at.mk 3 rfl rfl) rfl (zc (a := (xs 1).toInt) (b := 0) rfl rfl (decide_eq_false (by omega))) rfl rfl ?_
                    refine w_p h_m159 2 (pc' := 7) (L' := [(0, .int (xs 1)), (1, .int (0 : Int32)), (2, .int (31 : Int32))]) (st' := [.int (31 : Int32), .int (xs 1)]) rfl ?_
                    refine w_f2 (pc' := 10) (L' := [(0, .int (xs 1)), (1, .int (0 : Int32)), (2, .int (31 : Int32))]) h_m159 (z_at.mk 3 rfl rfl) rfl (zc (a := (xs 1).toInt) (b := 31) rfl rfl (decide_eq_false (by omega))) rfl rfl ?_
                    refine w_p h_m159 2 (pc' := 15) (L' := []) (st' := [.int (1 : Int32)]) rfl ?_
                    refine w_ri h_m159 (z_at.mk 1 rfl rfl) rfl rfl ?_
                    show z_W 998 164 7 [(0, .int (xs 1)), (1, .int (xs 2)), (2, .int (xs 3)), (3, .int (xs 4))] [.int (1 : Int32)] m _
                    refine w_p h_m164 4 (pc' := 14) (L' := [(0, .int (xs 1)), (1, .int (xs 2)), (2, .int (xs 3)), (3, .int (xs 4))]) (st' := [.int (31 : Int32), .int (xs 1), .int (xs 2)]) rfl ?_
                    refine w_cs (As := [.int (xs 2), .int (xs 1), .int (31 : Int32)]) (rest := []) (j := 159) (L0 := [(0, .int (xs 2)), (1, .int (xs 1)), (2, .int (31 : Int32))]) (pc' := 17) (L' := [(0, .int (xs 1)), (1, .int (xs 2)), (2, .int (xs 3)), (3, .int (xs 4))]) h_m164 (z_at.mk 3 rfl rfl) (Or.inl ⟨rfl, rfl⟩) rfl rfl rfl rfl rfl ?_
                    refine w_p h_m159 2 (pc' := 2) (L' := [(0, .int (xs 2)), (1, .int (xs 1)), (2, .int (31 : Int32))]) (st' := [.int (xs 1), .int (xs 2)]) rfl ?_
                    refine w_t2 (pc' := 14) (L' := []) h_m159 (z_at.mk 3 rfl rfl) rfl (zc (a := (xs 2).toInt) (b := (xs 1).toInt) rfl rfl (decide_eq_true (by omega))) rfl rfl ?_
                    refine w_p h_m159 1 (pc' := 15) (L' := []) (st' := [.int (0 : Int32)]) rfl ?_
                    refine w_ri h_m159 (z_at.mk 1 rfl rfl) rfl rfl ?_
                    show z_W 998 164 17 [(0, .int (xs 1)), (1, .int (xs 2)), (2, .int (xs 3)), (3, .int (xs 4))] [.int (0 : Int32)] m _
                    refine w_p h_m164 2 (pc' := 45) (L' := []) (st' := [.int (0 : Int32)]) rfl ?_
                    refine w_ri h_m164 (z_at.mk 1 rfl rfl) rfl rfl ?_
                    show z_W 999 246 8 [(0, .ref 143), (1, .int (xs 1)), (2, .int (xs 2)), (3, .int (xs 3)), (4, .int (xs 4))] [.int (0 : Int32)] m _
                    refine w_p h_m246 2 (pc' := 13) (L' := [(0, .ref 143), (1, .int (xs 1)), (2, .int (xs 2)), (3, .int (xs 3)), (4, .int (xs 4))]) (st' := [.int (-2 : Int32)]) rfl ?_
                    refine w_ri h_m246 (z_at.mk 1 rfl rfl) rfl rfl ?_
                    show z_W 1000 1000 705 [(0, .ref 0), (1, .ref 39), (2, .ref 143), (3, .int (0 : Int32))] [.int (-2 : Int32), .int (-2 : Int32)] m _
                    refine w_p h_m1000 5 (pc' := 20) (L' := [(0, .ref 0), (1, .ref 39), (2, .ref 143), (3, .int (6 : Int32))]) (st' := [.ref 0, .int (6 : Int32)]) rfl ?_
                    refine w_lene H (x := (6 : Int32)) (pc' := 21) (L' := [(0, .ref 0), (1, .ref 39), (2, .ref 143), (3, .int (6 : Int32))]) h_m1000 (z_at.mk 1 rfl rfl) (by decide) rfl (by decide) rfl rfl rfl ?_
                    refine w_p h_m1000 4 (pc' := 1381) (L' := [(0, .ref 0), (1, .ref 39), (2, .ref 143), (3, .int (6 : Int32))]) (st' := [.int (1 : Int32)]) rfl ?_
                    refine w_ri h_m1000 (z_at.mk 1 rfl rfl) rfl rfl ?_
                    exact hQ _ _ _ _ H (by decide) (by decide)
                · refine w_t2 (pc' := 24) (L' := []) h_m0 (z_at.mk 3 rfl rfl) rfl (zc (a := (xs 4).toInt) (b := 32) rfl rfl (decide_eq_true (by omega))) rfl rfl ?_
                  refine w_p h_m0 1 (pc' := 25) (L' := []) (st' := [.int (0 : Int32)]) rfl ?_
                  refine w_ri h_m0 (z_at.mk 1 rfl rfl) rfl rfl ?_
                  show z_W 998 1 13 [(0, .int (xs 1)), (1, .int (xs 2)), (2, .int (xs 3)), (3, .int (xs 4))] [.int (0 : Int32)] m _
                  refine w_p h_m1 2 (pc' := 31) (L' := []) (st' := [.int (0 : Int32)]) rfl ?_
                  refine w_ri h_m1 (z_at.mk 1 rfl rfl) rfl rfl ?_
                  show z_W 999 135 8 [(0, .ref 39), (1, .int (xs 1)), (2, .int (xs 2)), (3, .int (xs 3)), (4, .int (xs 4))] [.int (0 : Int32)] m _
                  refine w_p h_m135 2 (pc' := 13) (L' := [(0, .ref 39), (1, .int (xs 1)), (2, .int (xs 2)), (3, .int (xs 3)), (4, .int (xs 4))]) (st' := [.int (-2 : Int32)]) rfl ?_
                  refine w_ri h_m135 (z_at.mk 1 rfl rfl) rfl rfl ?_
                  show z_W 1000 1000 681 [(0, .ref 0), (1, .ref 39), (2, .ref 143), (3, .int (0 : Int32))] [.int (-2 : Int32)] m _
                  refine w_p h_m1000 5 (pc' := 686) (L' := [(0, .ref 0), (1, .ref 39), (2, .ref 143), (3, .int (0 : Int32))]) (st' := [.int (1 : Int32), .ref 0, .ref 143, .int (-2 : Int32)]) rfl ?_
                  refine w_ae H (j := 1) (pc' := 687) (L' := [(0, .ref 0), (1, .ref 39), (2, .ref 143), (3, .int (0 : Int32))]) h_m1000 (z_at.mk 1 rfl rfl) rfl rfl rfl (by decide) rfl (by decide) rfl rfl rfl ?_
                  refine w_p h_m1000 4 (pc' := 691) (L' := [(0, .ref 0), (1, .ref 39), (2, .ref 143), (3, .int (0 : Int32))]) (st' := [.int (2 : Int32), .ref 0, .int (xs 1), .ref 143, .int (-2 : Int32)]) rfl ?_
                  refine w_ae H (j := 2) (pc' := 692) (L' := [(0, .ref 0), (1, .ref 39), (2, .ref 143), (3, .int (0 : Int32))]) h_m1000 (z_at.mk 1 rfl rfl) rfl rfl rfl (by decide) rfl (by decide) rfl rfl rfl ?_
                  refine w_p h_m1000 4 (pc' := 696) (L' := [(0, .ref 0), (1, .ref 39), (2, .ref 143), (3, .int (0 : Int32))]) (st' := [.int (3 : Int32), .ref 0, .int (xs 2), .int (xs 1), .ref 143, .int (-2 : Int32)]) rfl ?_
                  refine w_ae H (j := 3) (pc' := 697) (L' := [(0, .ref 0), (1, .ref 39), (2, .ref 143), (3, .int (0 : Int32))]) h_m1000 (z_at.mk 1 rfl rfl) rfl rfl rfl (by decide) rfl (by decide) rfl rfl rfl ?_
                  refine w_p h_m1000 4 (pc' := 701) (L' := [(0, .ref 0), (1, .ref 39), (2, .ref 143), (3, .int (0 : Int32))]) (st' := [.int (4 : Int32), .ref 0, .int (xs 3), .int (xs 2), .int (xs 1), .ref 143, .int (-2 : Int32)]) rfl ?_
                  refine w_ae H (j := 4) (pc' := 702) (L' := [(0, .ref 0), (1, .ref 39), (2, .ref 143), (3, .int (0 : Int32))]) h_m1000 (z_at.mk 1 rfl rfl) rfl rfl rfl (by decide) rfl (by decide) rfl rfl rfl ?_
                  refine w_cv (H.t rfl) (pc' := 705) (L' := [(0, .ref 0), (1, .ref 39), (2, .ref 143), (3, .int (0 : Int32))]) (rest := [.int (-2 : Int32)]) (Ps := [.int (xs 1), .int (xs 2), .int (xs 3), .int (xs 4)]) (L0 := [(0, .ref 143), (1, .int (xs 1)), (2, .int (xs 2)), (3, .int (xs 3)), (4, .int (xs 4))]) h_m1000 (z_at.mk 3 rfl rfl) (Or.inl ⟨rfl, rfl⟩) rfl rfl (by decide) (by decide) rfl rfl rfl rfl rfl rfl (by decide) rfl rfl rfl ?_
                  refine w_p h_m246 4 (pc' := 5) (L' := [(0, .ref 143), (1, .int (xs 1)), (2, .int (xs 2)), (3, .int (xs 3)), (4, .int (xs 4))]) (st' := [.int (xs 4), .int (xs 3), .int (xs 2), .int (xs 1)]) rfl ?_
                  refine w_cs (As := [.int (xs 1), .int (xs 2), .int (xs 3), .int (xs 4)]) (rest := []) (j := 164) (L0 := [(0, .int (xs 1)), (1, .int (xs 2)), (2, .int (xs 3)), (3, .int (xs 4))]) (pc' := 8) (L' := [(0, .ref 143), (1, .int (xs 1)), (2, .int (xs 2)), (3, .int (xs 3)), (4, .int (xs 4))]) h_m246 (z_at.mk 3 rfl rfl) (Or.inl ⟨rfl, rfl⟩) rfl rfl rfl rfl rfl ?_
                  refine w_p h_m164 3 (pc' := 4) (L' := [(0, .int (xs 1)), (1, .int (xs 2)), (2, .int (xs 3)), (3, .int (xs 4))]) (st' := [.int (31 : Int32), .int (0 : Int32), .int (xs 1)]) rfl ?_
                  refine w_cs (As := [.int (xs 1), .int (0 : Int32), .int (31 : Int32)]) (rest := []) (j := 159) (L0 := [(0, .int (xs 1)), (1, .int (0 : Int32)), (2, .int (31 : Int32))]) (pc' := 7) (L' := [(0, .int (xs 1)), (1, .int (xs 2)), (2, .int (xs 3)), (3, .int (xs 4))]) h_m164 (z_at.mk 3 rfl rfl) (Or.inl ⟨rfl, rfl⟩) rfl rfl rfl rfl rfl ?_
                  refine w_p h_m159 2 (pc' := 2) (L' := [(0, .int (xs 1)), (1, .int (0 : Int32)), (2, .int (31 : Int32))]) (st' := [.int (0 : Int32), .int (xs 1)]) rfl ?_
                  refine w_f2 (pc' := 5) (L' := [(0, .int (xs 1)), (1, .int (0 : Int32)), (2, .int (31 : Int32))]) h_m159 (z_at.mk 3 rfl rfl) rfl (zc (a := (xs 1).toInt) (b := 0) rfl rfl (decide_eq_false (by omega))) rfl rfl ?_
                  refine w_p h_m159 2 (pc' := 7) (L' := [(0, .int (xs 1)), (1, .int (0 : Int32)), (2, .int (31 : Int32))]) (st' := [.int (31 : Int32), .int (xs 1)]) rfl ?_
                  refine w_f2 (pc' := 10) (L' := [(0, .int (xs 1)), (1, .int (0 : Int32)), (2, .int (31 : Int32))]) h_m159 (z_at.mk 3 rfl rfl) rfl (zc (a := (xs 1).toInt) (b := 31) rfl rfl (decide_eq_false (by omega))) rfl rfl ?_
                  refine w_p h_m159 2 (pc' := 15) (L' := []) (st' := [.int (1 : Int32)]) rfl ?_
                  refine w_ri h_m159 (z_at.mk 1 rfl rfl) rfl rfl ?_
                  show z_W 998 164 7 [(0, .int (xs 1)), (1, .int (xs 2)), (2, .int (xs 3)), (3, .int (xs 4))] [.int (1 : Int32)] m _
                  refine w_p h_m164 4 (pc' := 14) (L' := [(0, .int (xs 1)), (1, .int (xs 2)), (2, .int (xs 3)), (3, .int (xs 4))]) (st' := [.int (31 : Int32), .int (xs 1), .int (xs 2)]) rfl ?_
                  refine w_cs (As := [.int (xs 2), .int (xs 1), .int (31 : Int32)]) (rest := []) (j := 159) (L0 := [(0, .int (xs 2)), (1, .int (xs 1)), (2, .int (31 : Int32))]) (pc' := 17) (L' := [(0, .int (xs 1)), (1, .int (xs 2)), (2, .int (xs 3)), (3, .int (xs 4))]) h_m164 (z_at.mk 3 rfl rfl) (Or.inl ⟨rfl, rfl⟩) rfl rfl rfl rfl rfl ?_
                  refine w_p h_m159 2 (pc' := 2) (L' := [(0, .int (xs 2)), (1, .int (xs 1)), (2, .int (31 : Int32))]) (st' := [.int (xs 1), .int (xs 2)]) rfl ?_
                  by_cases c_9 : (xs 2).toInt < (xs 1).toInt
                  · refine w_t2 (pc' := 14) (L' := []) h_m159 (z_at.mk 3 rfl rfl) rfl (zc (a := (xs 2).toInt) (b := (xs 1).toInt) rfl rfl (decide_eq_true (by omega))) rfl rfl ?_
                    refine w_p h_m159 1 (pc' := 15) (L' := []) (st' := [.int (0 : Int32)]) rfl ?_
                    refine w_ri h_m159 (z_at.mk 1 rfl rfl) rfl rfl ?_
                    show z_W 998 164 17 [(0, .int (xs 1)), (1, .int (xs 2)), (2, .int (xs 3)), (3, .int (xs 4))] [.int (0 : Int32)] m _
                    refine w_p h_m164 2 (pc' := 45) (L' := []) (st' := [.int (0 : Int32)]) rfl ?_
                    refine w_ri h_m164 (z_at.mk 1 rfl rfl) rfl rfl ?_
                    show z_W 999 246 8 [(0, .ref 143), (1, .int (xs 1)), (2, .int (xs 2)), (3, .int (xs 3)), (4, .int (xs 4))] [.int (0 : Int32)] m _
                    refine w_p h_m246 2 (pc' := 13) (L' := [(0, .ref 143), (1, .int (xs 1)), (2, .int (xs 2)), (3, .int (xs 3)), (4, .int (xs 4))]) (st' := [.int (-2 : Int32)]) rfl ?_
                    refine w_ri h_m246 (z_at.mk 1 rfl rfl) rfl rfl ?_
                    show z_W 1000 1000 705 [(0, .ref 0), (1, .ref 39), (2, .ref 143), (3, .int (0 : Int32))] [.int (-2 : Int32), .int (-2 : Int32)] m _
                    refine w_p h_m1000 5 (pc' := 20) (L' := [(0, .ref 0), (1, .ref 39), (2, .ref 143), (3, .int (6 : Int32))]) (st' := [.ref 0, .int (6 : Int32)]) rfl ?_
                    refine w_lene H (x := (6 : Int32)) (pc' := 21) (L' := [(0, .ref 0), (1, .ref 39), (2, .ref 143), (3, .int (6 : Int32))]) h_m1000 (z_at.mk 1 rfl rfl) (by decide) rfl (by decide) rfl rfl rfl ?_
                    refine w_p h_m1000 4 (pc' := 1381) (L' := [(0, .ref 0), (1, .ref 39), (2, .ref 143), (3, .int (6 : Int32))]) (st' := [.int (1 : Int32)]) rfl ?_
                    refine w_ri h_m1000 (z_at.mk 1 rfl rfl) rfl rfl ?_
                    exact hQ _ _ _ _ H (by decide) (by decide)
                  · refine w_f2 (pc' := 5) (L' := [(0, .int (xs 2)), (1, .int (xs 1)), (2, .int (31 : Int32))]) h_m159 (z_at.mk 3 rfl rfl) rfl (zc (a := (xs 2).toInt) (b := (xs 1).toInt) rfl rfl (decide_eq_false (by omega))) rfl rfl ?_
                    refine w_p h_m159 2 (pc' := 7) (L' := [(0, .int (xs 2)), (1, .int (xs 1)), (2, .int (31 : Int32))]) (st' := [.int (31 : Int32), .int (xs 2)]) rfl ?_
                    refine w_f2 (pc' := 10) (L' := [(0, .int (xs 2)), (1, .int (xs 1)), (2, .int (31 : Int32))]) h_m159 (z_at.mk 3 rfl rfl) rfl (zc (a := (xs 2).toInt) (b := 31) rfl rfl (decide_eq_false (by omega))) rfl rfl ?_
                    refine w_p h_m159 2 (pc' := 15) (L' := []) (st' := [.int (1 : Int32)]) rfl ?_
                    refine w_ri h_m159 (z_at.mk 1 rfl rfl) rfl rfl ?_
                    show z_W 998 164 17 [(0, .int (xs 1)), (1, .int (xs 2)), (2, .int (xs 3)), (3, .int (xs 4))] [.int (1 : Int32)] m _
                    refine w_p h_m164 4 (pc' := 24) (L' := [(0, .int (xs 1)), (1, .int (xs 2)), (2, .int (xs 3)), (3, .int (xs 4))]) (st' := [.int (31 : Int32), .int (0 : Int32), .int (xs 3)]) rfl ?_
                    refine w_cs (As := [.int (xs 3), .int (0 : Int32), .int (31 : Int32)]) (rest := []) (j := 159) (L0 := [(0, .int (xs 3)), (1, .int (0 : Int32)), (2, .int (31 : Int32))]) (pc' := 27) (L' := [(0, .int (xs 1)), (1, .int (xs 2)), (2, .int (xs 3)), (3, .int (xs 4))]) h_m164 (z_at.mk 3 rfl rfl) (Or.inl ⟨rfl, rfl⟩) rfl rfl rfl rfl rfl ?_
                    refine w_p h_m159 2 (pc' := 2) (L' := [(0, .int (xs 3)), (1, .int (0 : Int32)), (2, .int (31 : Int32))]) (st' := [.int (0 : Int32), .int (xs 3)]) rfl ?_
                    refine w_f2 (pc' := 5) (L' := [(0, .int (xs 3)), (1, .int (0 : Int32)), (2, .int (31 : Int32))]) h_m159 (z_at.mk 3 rfl rfl) rfl (zc (a := (xs 3).toInt) (b := 0) rfl rfl (decide_eq_false (by omega))) rfl rfl ?_
                    refine w_p h_m159 2 (pc' := 7) (L' := [(0, .int (xs 3)), (1, .int (0 : Int32)), (2, .int (31 : Int32))]) (st' := [.int (31 : Int32), .int (xs 3)]) rfl ?_
                    refine w_f2 (pc' := 10) (L' := [(0, .int (xs 3)), (1, .int (0 : Int32)), (2, .int (31 : Int32))]) h_m159 (z_at.mk 3 rfl rfl) rfl (zc (a := (xs 3).toInt) (b := 31) rfl rfl (decide_eq_false (by omega))) rfl rfl ?_
                    refine w_p h_m159 2 (pc' := 15) (L' := []) (st' := [.int (1 : Int32)]) rfl ?_
                    refine w_ri h_m159 (z_at.mk 1 rfl rfl) rfl rfl ?_
                    show z_W 998 164 27 [(0, .int (xs 1)), (1, .int (xs 2)), (2, .int (xs 3)), (3, .int (xs 4))] [.int (1 : Int32)] m _
                    refine w_p h_m164 4 (pc' := 34) (L' := [(0, .int (xs 1)), (1, .int (xs 2)), (2, .int (xs 3)), (3, .int (xs 4))]) (st' := [.int (31 : Int32), .int (xs 3), .int (xs 4)]) rfl ?_
                    refine w_cs (As := [.int (xs 4), .int (xs 3), .int (31 : Int32)]) (rest := []) (j := 159) (L0 := [(0, .int (xs 4)), (1, .int (xs 3)), (2, .int (31 : Int32))]) (pc' := 37) (L' := [(0, .int (xs 1)), (1, .int (xs 2)), (2, .int (xs 3)), (3, .int (xs 4))]) h_m164 (z_at.mk 3 rfl rfl) (Or.inl ⟨rfl, rfl⟩) rfl rfl rfl rfl rfl ?_
                    refine w_p h_m159 2 (pc' := 2) (L' := [(0, .int (xs 4)), (1, .int (xs 3)), (2, .int (31 : Int32))]) (st' := [.int (xs 3), .int (xs 4)]) rfl ?_
                    refine w_f2 (pc' := 5) (L' := [(0, .int (xs 4)), (1, .int (xs 3)), (2, .int (31 : Int32))]) h_m159 (z_at.mk 3 rfl rfl) rfl (zc (a := (xs 4).toInt) (b := (xs 3).toInt) rfl rfl (decide_eq_false (by omega))) rfl rfl ?_
                    refine w_p h_m159 2 (pc' := 7) (L' := [(0, .int (xs 4)), (1, .int (xs 3)), (2, .int (31 : Int32))]) (st' := [.int (31 : Int32), .int (xs 4)]) rfl ?_
                    refine w_t2 (pc' := 14) (L' := []) h_m159 (z_at.mk 3 rfl rfl) rfl (zc (a := (xs 4).toInt) (b := 31) rfl rfl (decide_eq_true (by omega))) rfl rfl ?_
                    refine w_p h_m159 1 (pc' := 15) (L' := []) (st' := [.int (0 : Int32)]) rfl ?_
                    refine w_ri h_m159 (z_at.mk 1 rfl rfl) rfl rfl ?_
                    show z_W 998 164 37 [(0, .int (xs 1)), (1, .int (xs 2)), (2, .int (xs 3)), (3, .int (xs 4))] [.int (0 : Int32)] m _
                    refine w_p h_m164 2 (pc' := 45) (L' := []) (st' := [.int (0 : Int32)]) rfl ?_
                    refine w_ri h_m164 (z_at.mk 1 rfl rfl) rfl rfl ?_
                    show z_W 999 246 8 [(0, .ref 143), (1, .int (xs 1)), (2, .int (xs 2)), (3, .int (xs 3)), (4, .int (xs 4))] [.int (0 : Int32)] m _
                    refine w_p h_m246 2 (pc' := 13) (L' := [(0, .ref 143), (1, .int (xs 1)), (2, .int (xs 2)), (3, .int (xs 3)), (4, .int (xs 4))]) (st' := [.int (-2 : Int32)]) rfl ?_
                    refine w_ri h_m246 (z_at.mk 1 rfl rfl) rfl rfl ?_
                    show z_W 1000 1000 705 [(0, .ref 0), (1, .ref 39), (2, .ref 143), (3, .int (0 : Int32))] [.int (-2 : Int32), .int (-2 : Int32)] m _
                    refine w_p h_m1000 5 (pc' := 20) (L' := [(0, .ref 0), (1, .ref 39), (2, .ref 143), (3, .int (6 : Int32))]) (st' := [.ref 0, .int (6 : Int32)]) rfl ?_
                    refine w_lene H (x := (6 : Int32)) (pc' := 21) (L' := [(0, .ref 0), (1, .ref 39), (2, .ref 143), (3, .int (6 : Int32))]) h_m1000 (z_at.mk 1 rfl rfl) (by decide) rfl (by decide) rfl rfl rfl ?_
                    refine w_p h_m1000 4 (pc' := 1381) (L' := [(0, .ref 0), (1, .ref 39), (2, .ref 143), (3, .int (6 : Int32))]) (st' := [.int (1 : Int32)]) rfl ?_
                    refine w_ri h_m1000 (z_at.mk 1 rfl rfl) rfl rfl ?_
                    exact hQ _ _ _ _ H (by decide) (by decide)
            · refine w_t2 (pc' := 24) (L' := []) h_m0 (z_at.mk 3 rfl rfl) rfl (zc (a := (xs 2).toInt) (b := 32) rfl rfl (decide_eq_true (by omega))) rfl rfl ?_
              refine w_p h_m0 1 (pc' := 25) (L' := []) (st' := [.int (0 : Int32)]) rfl ?_
              refine w_ri h_m0 (z_at.mk 1 rfl rfl) rfl rfl ?_
              show z_W 998 1 13 [(0, .int (xs 1)), (1, .int (xs 2)), (2, .int (xs 3)), (3, .int (xs 4))] [.int (0 : Int32)] m _
              refine w_p h_m1 2 (pc' := 31) (L' := []) (st' := [.int (0 : Int32)]) rfl ?_
              refine w_ri h_m1 (z_at.mk 1 rfl rfl) rfl rfl ?_
              show z_W 999 135 8 [(0, .ref 39), (1, .int (xs 1)), (2, .int (xs 2)), (3, .int (xs 3)), (4, .int (xs 4))] [.int (0 : Int32)] m _
              refine w_p h_m135 2 (pc' := 13) (L' := [(0, .ref 39), (1, .int (xs 1)), (2, .int (xs 2)), (3, .int (xs 3)), (4, .int (xs 4))]) (st' := [.int (-2 : Int32)]) rfl ?_
              refine w_ri h_m135 (z_at.mk 1 rfl rfl) rfl rfl ?_
              show z_W 1000 1000 681 [(0, .ref 0), (1, .ref 39), (2, .ref 143), (3, .int (0 : Int32))] [.int (-2 : Int32)] m _
              refine w_p h_m1000 5 (pc' := 686) (L' := [(0, .ref 0), (1, .ref 39), (2, .ref 143), (3, .int (0 : Int32))]) (st' := [.int (1 : Int32), .ref 0, .ref 143, .int (-2 : Int32)]) rfl ?_
              refine w_ae H (j := 1) (pc' := 687) (L' := [(0, .ref 0), (1, .ref 39), (2, .ref 143), (3, .int (0 : Int32))]) h_m1000 (z_at.mk 1 rfl rfl) rfl rfl rfl (by decide) rfl (by decide) rfl rfl rfl ?_
              refine w_p h_m1000 4 (pc' := 691) (L' := [(0, .ref 0), (1, .ref 39), (2, .ref 143), (3, .int (0 : Int32))]) (st' := [.int (2 : Int32), .ref 0, .int (xs 1), .ref 143, .int (-2 : Int32)]) rfl ?_
              refine w_ae H (j := 2) (pc' := 692) (L' := [(0, .ref 0), (1, .ref 39), (2, .ref 143), (3, .int (0 : Int32))]) h_m1000 (z_at.mk 1 rfl rfl) rfl rfl rfl (by decide) rfl (by decide) rfl rfl rfl ?_
              refine w_p h_m1000 4 (pc' := 696) (L' := [(0, .ref 0), (1, .ref 39), (2, .ref 143), (3, .int (0 : Int32))]) (st' := [.int (3 : Int32), .ref 0, .int (xs 2), .int (xs 1), .ref 143, .int (-2 : Int32)]) rfl ?_
              refine w_ae H (j := 3) (pc' := 697) (L' := [(0, .ref 0), (1, .ref 39), (2, .ref 143), (3, .int (0 : Int32))]) h_m1000 (z_at.mk 1 rfl rfl) rfl rfl rfl (by decide) rfl (by decide) rfl rfl rfl ?_
              refine w_p h_m1000 4 (pc' := 701) (L' := [(0, .ref 0), (1, .ref 39), (2, .ref 143), (3, .int (0 : Int32))]) (st' := [.int (4 : Int32), .ref 0, .int (xs 3), .int (xs 2), .int (xs 1), .ref 143, .int (-2 : Int32)]) rfl ?_
              refine w_ae H (j := 4) (pc' := 702) (L' := [(0, .ref 0), (1, .ref 39), (2, .ref 143), (3, .int (0 : Int32))]) h_m1000 (z_at.mk 1 rfl rfl) rfl rfl rfl (by decide) rfl (by decide) rfl rfl rfl ?_
              refine w_cv (H.t rfl) (pc' := 705) (L' := [(0, .ref 0), (1, .ref 39), (2, .ref 143), (3, .int (0 : Int32))]) (rest := [.int (-2 : Int32)]) (Ps := [.int (xs 1), .int (xs 2), .int (xs 3), .int (xs 4)]) (L0 := [(0, .ref 143), (1, .int (xs 1)), (2, .int (xs 2)), (3, .int (xs 3)), (4, .int (xs 4))]) h_m1000 (z_at.mk 3 rfl rfl) (Or.inl ⟨rfl, rfl⟩) rfl rfl (by decide) (by decide) rfl rfl rfl rfl rfl rfl (by decide) rfl rfl rfl ?_
              refine w_p h_m246 4 (pc' := 5) (L' := [(0, .ref 143), (1, .int (xs 1)), (2, .int (xs 2)), (3, .int (xs 3)), (4, .int (xs 4))]) (st' := [.int (xs 4), .int (xs 3), .int (xs 2), .int (xs 1)]) rfl ?_
              refine w_cs (As := [.int (xs 1), .int (xs 2), .int (xs 3), .int (xs 4)]) (rest := []) (j := 164) (L0 := [(0, .int (xs 1)), (1, .int (xs 2)), (2, .int (xs 3)), (3, .int (xs 4))]) (pc' := 8) (L' := [(0, .ref 143), (1, .int (xs 1)), (2, .int (xs 2)), (3, .int (xs 3)), (4, .int (xs 4))]) h_m246 (z_at.mk 3 rfl rfl) (Or.inl ⟨rfl, rfl⟩) rfl rfl rfl rfl rfl ?_
              refine w_p h_m164 3 (pc' := 4) (L' := [(0, .int (xs 1)), (1, .int (xs 2)), (2, .int (xs 3)), (3, .int (xs 4))]) (st' := [.int (31 : Int32), .int (0 : Int32), .int (xs 1)]) rfl ?_
              refine w_cs (As := [.int (xs 1), .int (0 : Int32), .int (31 : Int32)]) (rest := []) (j := 159) (L0 := [(0, .int (xs 1)), (1, .int (0 : Int32)), (2, .int (31 : Int32))]) (pc' := 7) (L' := [(0, .int (xs 1)), (1, .int (xs 2)), (2, .int (xs 3)), (3, .int (xs 4))]) h_m164 (z_at.mk 3 rfl rfl) (Or.inl ⟨rfl, rfl⟩) rfl rfl rfl rfl rfl ?_
              refine w_p h_m159 2 (pc' := 2) (L' := [(0, .int (xs 1)), (1, .int (0 : Int32)), (2, .int (31 : Int32))]) (st' := [.int (0 : Int32), .int (xs 1)]) rfl ?_
              refine w_f2 (pc' := 5) (L' := [(0, .int (xs 1)), (1, .int (0 : Int32)), (2, .int (31 : Int32))]) h_m159 (z_at.mk 3 rfl rfl) rfl (zc (a := (xs 1).toInt) (b := 0) rfl rfl (decide_eq_false (by omega))) rfl rfl ?_
              refine w_p h_m159 2 (pc' := 7) (L' := [(0, .int (xs 1)), (1, .int (0 : Int32)), (2, .int (31 : Int32))]) (st' := [.int (31 : Int32), .int (xs 1)]) rfl ?_
              refine w_f2 (pc' := 10) (L' := [(0, .int (xs 1)), (1, .int (0 : Int32)), (2, .int (31 : Int32))]) h_m159 (z_at.mk 3 rfl rfl) rfl (zc (a := (xs 1).toInt) (b := 31) rfl rfl (decide_eq_false (by omega))) rfl rfl ?_
              refine w_p h_m159 2 (pc' := 15) (L' := []) (st' := [.int (1 : Int32)]) rfl ?_
              refine w_ri h_m159 (z_at.mk 1 rfl rfl) rfl rfl ?_
              show z_W 998 164 7 [(0, .int (xs 1)), (1, .int (xs 2)), (2, .int (xs 3)), (3, .int (xs 4))] [.int (1 : Int32)] m _
              refine w_p h_m164 4 (pc' := 14) (L' := [(0, .int (xs 1)), (1, .int (xs 2)), (2, .int (xs 3)), (3, .int (xs 4))]) (st' := [.int (31 : Int32), .int (xs 1), .int (xs 2)]) rfl ?_
              refine w_cs (As := [.int (xs 2), .int (xs 1), .int (31 : Int32)]) (rest := []) (j := 159) (L0 := [(0, .int (xs 2)), (1, .int (xs 1)), (2, .int (31 : Int32))]) (pc' := 17) (L' := [(0, .int (xs 1)), (1, .int (xs 2)), (2, .int (xs 3)), (3, .int (xs 4))]) h_m164 (z_at.mk 3 rfl rfl) (Or.inl ⟨rfl, rfl⟩) rfl rfl rfl rfl rfl ?_
              refine w_p h_m159 2 (pc' := 2) (L' := [(0, .int (xs 2)), (1, .int (xs 1)), (2, .int (31 : Int32))]) (st' := [.int (xs 1), .int (xs 2)]) rfl ?_
              refine w_f2 (pc' := 5) (L' := [(0, .int (xs 2)), (1, .int (xs 1)), (2, .int (31 : Int32))]) h_m159 (z_at.mk 3 rfl rfl) rfl (zc (a := (xs 2).toInt) (b := (xs 1).toInt) rfl rfl (decide_eq_false (by omega))) rfl rfl ?_
              refine w_p h_m159 2 (pc' := 7) (L' := [(0, .int (xs 2)), (1, .int (xs 1)), (2, .int (31 : Int32))]) (st' := [.int (31 : Int32), .int (xs 2)]) rfl ?_
              refine w_t2 (pc' := 14) (L' := []) h_m159 (z_at.mk 3 rfl rfl) rfl (zc (a := (xs 2).toInt) (b := 31) rfl rfl (decide_eq_true (by omega))) rfl rfl ?_
              refine w_p h_m159 1 (pc' := 15) (L' := []) (st' := [.int (0 : Int32)]) rfl ?_
              refine w_ri h_m159 (z_at.mk 1 rfl rfl) rfl rfl ?_
              show z_W 998 164 17 [(0, .int (xs 1)), (1, .int (xs 2)), (2, .int (xs 3)), (3, .int (xs 4))] [.int (0 : Int32)] m _
              refine w_p h_m164 2 (pc' := 45) (L' := []) (st' := [.int (0 : Int32)]) rfl ?_
              refine w_ri h_m164 (z_at.mk 1 rfl rfl) rfl rfl ?_
              show z_W 999 246 8 [(0, .ref 143), (1, .int (xs 1)), (2, .int (xs 2)), (3, .int (xs 3)), (4, .int (xs 4))] [.int (0 : Int32)] m _
              refine w_p h_m246 2 (pc' := 13) (L' := [(0, .ref 143), (1, .int (xs 1)), (2, .int (xs 2)), (3, .int (xs 3)), (4, .int (xs 4))]) (st' := [.int (-2 : Int32)]) rfl ?_
              refine w_ri h_m246 (z_at.mk 1 rfl rfl) rfl rfl ?_
              show z_W 1000 1000 705 [(0, .ref 0), (1, .ref 39), (2, .ref 143), (3, .int (0 : Int32))] [.int (-2 : Int32), .int (-2 : Int32)] m _
              refine w_p h_m1000 5 (pc' := 20) (L' := [(0, .ref 0), (1, .ref 39), (2, .ref 143), (3, .int (6 : Int32))]) (st' := [.ref 0, .int (6 : Int32)]) rfl ?_
              refine w_lene H (x := (6 : Int32)) (pc' := 21) (L' := [(0, .ref 0), (1, .ref 39), (2, .ref 143), (3, .int (6 : Int32))]) h_m1000 (z_at.mk 1 rfl rfl) (by decide) rfl (by decide) rfl rfl rfl ?_
              refine w_p h_m1000 4 (pc' := 1381) (L' := [(0, .ref 0), (1, .ref 39), (2, .ref 143), (3, .int (6 : Int32))]) (st' := [.int (1 : Int32)]) rfl ?_
              refine w_ri h_m1000 (z_at.mk 1 rfl rfl) rfl rfl ?_
              exact hQ _ _ _ _ H (by decide) (by decide)
        · refine w_t2 (pc' := 24) (L' := []) h_m0 (z_at.mk 3 rfl rfl) rfl (zc (a := (xs 3).toInt) (b := 32) rfl rfl (decide_eq_true (by omega))) rfl rfl ?_
          refine w_p h_m0 1 (pc' := 25) (L' := []) (st' := [.int (0 : Int32)]) rfl ?_
          refine w_ri h_m0 (z_at.mk 1 rfl rfl) rfl rfl ?_
          show z_W 998 1 5 [(0, .int (xs 1)), (1, .int (xs 2)), (2, .int (xs 3)), (3, .int (xs 4))] [.int (0 : Int32)] m _
          refine w_p h_m1 2 (pc' := 31) (L' := []) (st' := [.int (0 : Int32)]) rfl ?_
          refine w_ri h_m1 (z_at.mk 1 rfl rfl) rfl rfl ?_
          show z_W 999 135 8 [(0, .ref 39), (1, .int (xs 1)), (2, .int (xs 2)), (3, .int (xs 3)), (4, .int (xs 4))] [.int (0 : Int32)] m _
          refine w_p h_m135 2 (pc' := 13) (L' := [(0, .ref 39), (1, .int (xs 1)), (2, .int (xs 2)), (3, .int (xs 3)), (4, .int (xs 4))]) (st' := [.int (-2 : Int32)]) rfl ?_
          refine w_ri h_m135 (z_at.mk 1 rfl rfl) rfl rfl ?_
          show z_W 1000 1000 681 [(0, .ref 0), (1, .ref 39), (2, .ref 143), (3, .int (0 : Int32))] [.int (-2 : Int32)] m _
          refine w_p h_m1000 5 (pc' := 686) (L' := [(0, .ref 0), (1, .ref 39), (2, .ref 143), (3, .int (0 : Int32))]) (st' := [.int (1 : Int32), .ref 0, .ref 143, .int (-2 : Int32)]) rfl ?_
          refine w_ae H (j := 1) (pc' := 687) (L' := [(0, .ref 0), (1, .ref 39), (2, .ref 143), (3, .int (0 : Int32))]) h_m1000 (z_at.mk 1 rfl rfl) rfl rfl rfl (by decide) rfl (by decide) rfl rfl rfl ?_
          refine w_p h_m1000 4 (pc' := 691) (L' := [(0, .ref 0), (1, .ref 39), (2, .ref 143), (3, .int (0 : Int32))]) (st' := [.int (2 : Int32), .ref 0, .int (xs 1), .ref 143, .int (-2 : Int32)]) rfl ?_
          refine w_ae H (j := 2) (pc' := 692) (L' := [(0, .ref 0), (1, .ref 39), (2, .ref 143), (3, .int (0 : Int32))]) h_m1000 (z_at.mk 1 rfl rfl) rfl rfl rfl (by decide) rfl (by decide) rfl rfl rfl ?_
          refine w_p h_m1000 4 (pc' := 696) (L' := [(0, .ref 0), (1, .ref 39), (2, .ref 143), (3, .int (0 : Int32))]) (st' := [.int (3 : Int32), .ref 0, .int (xs 2), .int (xs 1), .ref 143, .int (-2 : Int32)]) rfl ?_
          refine w_ae H (j := 3) (pc' := 697) (L' := [(0, .ref 0), (1, .ref 39), (2, .ref 143), (3, .int (0 : Int32))]) h_m1000 (z_at.mk 1 rfl rfl) rfl rfl rfl (by decide) rfl (by decide) rfl rfl rfl ?_
          refine w_p h_m1000 4 (pc' := 701) (L' := [(0, .ref 0), (1, .ref 39), (2, .ref 143), (3, .int (0 : Int32))]) (st' := [.int (4 : Int32), .ref 0, .int (xs 3), .int (xs 2), .int (xs 1), .ref 143, .int (-2 : Int32)]) rfl ?_
          refine w_ae H (j := 4) (pc' := 702) (L' := [(0, .ref 0), (1, .ref 39), (2, .ref 143), (3, .int (0 : Int32))]) h_m1000 (z_at.mk 1 rfl rfl) rfl rfl rfl (by decide) rfl (by decide) rfl rfl rfl ?_
          refine w_cv (H.t rfl) (pc' := 705) (L' := [(0, .ref 0), (1, .ref 39), (2, .ref 143), (3, .int (0 : Int32))]) (rest := [.int (-2 : Int32)]) (Ps := [.int (xs 1), .int (xs 2), .int (xs 3), .int (xs 4)]) (L0 := [(0, .ref 143), (1, .int (xs 1)), (2, .int (xs 2)), (3, .int (xs 3)), (4, .int (xs 4))]) h_m1000 (z_at.mk 3 rfl rfl) (Or.inl ⟨rfl, rfl⟩) rfl rfl (by decide) (by decide) rfl rfl rfl rfl rfl rfl (by decide) rfl rfl rfl ?_
          refine w_p h_m246 4 (pc' := 5) (L' := [(0, .ref 143), (1, .int (xs 1)), (2, .int (xs 2)), (3, .int (xs 3)), (4, .int (xs 4))]) (st' := [.int (xs 4), .int (xs 3), .int (xs 2), .int (xs 1)]) rfl ?_
          refine w_cs (As := [.int (xs 1), .int (xs 2), .int (xs 3), .int (xs 4)]) (rest := []) (j := 164) (L0 := [(0, .int (xs 1)), (1, .int (xs 2)), (2, .int (xs 3)), (3, .int (xs 4))]) (pc' := 8) (L' := [(0, .ref 143), (1, .int (xs 1)), (2, .int (xs 2)), (3, .int (xs 3)), (4, .int (xs 4))]) h_m246 (z_at.mk 3 rfl rfl) (Or.inl ⟨rfl, rfl⟩) rfl rfl rfl rfl rfl ?_
          refine w_p h_m164 3 (pc' := 4) (L' := [(0, .int (xs 1)), (1, .int (xs 2)), (2, .int (xs 3)), (3, .int (xs 4))]) (st' := [.int (31 : Int32), .int (0 : Int32), .int (xs 1)]) rfl ?_
          refine w_cs (As := [.int (xs 1), .int (0 : Int32), .int (31 : Int32)]) (rest := []) (j := 159) (L0 := [(0, .int (xs 1)), (1, .int (0 : Int32)), (2, .int (31 : Int32))]) (pc' := 7) (L' := [(0, .int (xs 1)), (1, .int (xs 2)), (2, .int (xs 3)), (3, .int (xs 4))]) h_m164 (z_at.mk 3 rfl rfl) (Or.inl ⟨rfl, rfl⟩) rfl rfl rfl rfl rfl ?_
          refine w_p h_m159 2 (pc' := 2) (L' := [(0, .int (xs 1)), (1, .int (0 : Int32)), (2, .int (31 : Int32))]) (st' := [.int (0 : Int32), .int (xs 1)]) rfl ?_
          refine w_f2 (pc' := 5) (L' := [(0, .int (xs 1)), (1, .int (0 : Int32)), (2, .int (31 : Int32))]) h_m159 (z_at.mk 3 rfl rfl) rfl (zc (a := (xs 1).toInt) (b := 0) rfl rfl (decide_eq_false (by omega))) rfl rfl ?_
          refine w_p h_m159 2 (pc' := 7) (L' := [(0, .int (xs 1)), (1, .int (0 : Int32)), (2, .int (31 : Int32))]) (st' := [.int (31 : Int32), .int (xs 1)]) rfl ?_
          refine w_f2 (pc' := 10) (L' := [(0, .int (xs 1)), (1, .int (0 : Int32)), (2, .int (31 : Int32))]) h_m159 (z_at.mk 3 rfl rfl) rfl (zc (a := (xs 1).toInt) (b := 31) rfl rfl (decide_eq_false (by omega))) rfl rfl ?_
          refine w_p h_m159 2 (pc' := 15) (L' := []) (st' := [.int (1 : Int32)]) rfl ?_
          refine w_ri h_m159 (z_at.mk 1 rfl rfl) rfl rfl ?_
          show z_W 998 164 7 [(0, .int (xs 1)), (1, .int (xs 2)), (2, .int (xs 3)), (3, .int (xs 4))] [.int (1 : Int32)] m _
          refine w_p h_m164 4 (pc' := 14) (L' := [(0, .int (xs 1)), (1, .int (xs 2)), (2, .int (xs 3)), (3, .int (xs 4))]) (st' := [.int (31 : Int32), .int (xs 1), .int (xs 2)]) rfl ?_
          refine w_cs (As := [.int (xs 2), .int (xs 1), .int (31 : Int32)]) (rest := []) (j := 159) (L0 := [(0, .int (xs 2)), (1, .int (xs 1)), (2, .int (31 : Int32))]) (pc' := 17) (L' := [(0, .int (xs 1)), (1, .int (xs 2)), (2, .int (xs 3)), (3, .int (xs 4))]) h_m164 (z_at.mk 3 rfl rfl) (Or.inl ⟨rfl, rfl⟩) rfl rfl rfl rfl rfl ?_
          refine w_p h_m159 2 (pc' := 2) (L' := [(0, .int (xs 2)), (1, .int (xs 1)), (2, .int (31 : Int32))]) (st' := [.int (xs 1), .int (xs 2)]) rfl ?_
          by_cases c_5 : (xs 2).toInt < (xs 1).toInt
          · refine w_t2 (pc' := 14) (L' := []) h_m159 (z_at.mk 3 rfl rfl) rfl (zc (a := (xs 2).toInt) (b := (xs 1).toInt) rfl rfl (decide_eq_true (by omega))) rfl rfl ?_
            refine w_p h_m159 1 (pc' := 15) (L' := []) (st' := [.int (0 : Int32)]) rfl ?_
            refine w_ri h_m159 (z_at.mk 1 rfl rfl) rfl rfl ?_
            show z_W 998 164 17 [(0, .int (xs 1)), (1, .int (xs 2)), (2, .int (xs 3)), (3, .int (xs 4))] [.int (0 : Int32)] m _
            refine w_p h_m164 2 (pc' := 45) (L' := []) (st' := [.int (0 : Int32)]) rfl ?_
            refine w_ri h_m164 (z_at.mk 1 rfl rfl) rfl rfl ?_
            show z_W 999 246 8 [(0, .ref 143), (1, .int (xs 1)), (2, .int (xs 2)), (3, .int (xs 3)), (4, .int (xs 4))] [.int (0 : Int32)] m _
            refine w_p h_m246 2 (pc' := 13) (L' := [(0, .ref 143), (1, .int (xs 1)), (2, .int (xs 2)), (3, .int (xs 3)), (4, .int (xs 4))]) (st' := [.int (-2 : Int32)]) rfl ?_
            refine w_ri h_m246 (z_at.mk 1 rfl rfl) rfl rfl ?_
            show z_W 1000 1000 705 [(0, .ref 0), (1, .ref 39), (2, .ref 143), (3, .int (0 : Int32))] [.int (-2 : Int32), .int (-2 : Int32)] m _
            refine w_p h_m1000 5 (pc' := 20) (L' := [(0, .ref 0), (1, .ref 39), (2, .ref 143), (3, .int (6 : Int32))]) (st' := [.ref 0, .int (6 : Int32)]) rfl ?_
            refine w_lene H (x := (6 : Int32)) (pc' := 21) (L' := [(0, .ref 0), (1, .ref 39), (2, .ref 143), (3, .int (6 : Int32))]) h_m1000 (z_at.mk 1 rfl rfl) (by decide) rfl (by decide) rfl rfl rfl ?_
            refine w_p h_m1000 4 (pc' := 1381) (L' := [(0, .ref 0), (1, .ref 39), (2, .ref 143), (3, .int (6 : Int32))]) (st' := [.int (1 : Int32)]) rfl ?_
            refine w_ri h_m1000 (z_at.mk 1 rfl rfl) rfl rfl ?_
            exact hQ _ _ _ _ H (by decide) (by decide)
          · refine w_f2 (pc' := 5) (L' := [(0, .int (xs 2)), (1, .int (xs 1)), (2, .int (31 : Int32))]) h_m159 (z_at.mk 3 rfl rfl) rfl (zc (a := (xs 2).toInt) (b := (xs 1).toInt) rfl rfl (decide_eq_false (by omega))) rfl rfl ?_
            refine w_p h_m159 2 (pc' := 7) (L' := [(0, .int (xs 2)), (1, .int (xs 1)), (2, .int (31 : Int32))]) (st' := [.int (31 : Int32), .int (xs 2)]) rfl ?_
            by_cases c_6 : (xs 2).toInt ≤ 31
            · refine w_f2 (pc' := 10) (L' := [(0, .int (xs 2)), (1, .int (xs 1)), (2, .int (31 : Int32))]) h_m159 (z_at.mk 3 rfl rfl) rfl (zc (a := (xs 2).toInt) (b := 31) rfl rfl (decide_eq_false (by omega))) rfl rfl ?_
              refine w_p h_m159 2 (pc' := 15) (L' := []) (st' := [.int (1 : Int32)]) rfl ?_
              refine w_ri h_m159 (z_at.mk 1 rfl rfl) rfl rfl ?_
              show z_W 998 164 17 [(0, .int (xs 1)), (1, .int (xs 2)), (2, .int (xs 3)), (3, .int (xs 4))] [.int (1 : Int32)] m _
              refine w_p h_m164 4 (pc' := 24) (L' := [(0, .int (xs 1)), (1, .int (xs 2)), (2, .int (xs 3)), (3, .int (xs 4))]) (st' := [.int (31 : Int32), .int (0 : Int32), .int (xs 3)]) rfl ?_
              refine w_cs (As := [.int (xs 3), .int (0 : Int32), .int (31 : Int32)]) (rest := []) (j := 159) (L0 := [(0, .int (xs 3)), (1, .int (0 : Int32)), (2, .int (31 : Int32))]) (pc' := 27) (L' := [(0, .int (xs 1)), (1, .int (xs 2)), (2, .int (xs 3)), (3, .int (xs 4))]) h_m164 (z_at.mk 3 rfl rfl) (Or.inl ⟨rfl, rfl⟩) rfl rfl rfl rfl rfl ?_
              refine w_p h_m159 2 (pc' := 2) (L' := [(0, .int (xs 3)), (1, .int (0 : Int32)), (2, .int (31 : Int32))]) (st' := [.int (0 : Int32), .int (xs 3)]) rfl ?_
              refine w_f2 (pc' := 5) (L' := [(0, .int (xs 3)), (1, .int (0 : Int32)), (2, .int (31 : Int32))]) h_m159 (z_at.mk 3 rfl rfl) rfl (zc (a := (xs 3).toInt) (b := 0) rfl rfl (decide_eq_false (by omega))) rfl rfl ?_
              refine w_p h_m159 2 (pc' := 7) (L' := [(0, .int (xs 3)), (1, .int (0 : Int32)), (2, .int (31 : Int32))]) (st' := [.int (31 : Int32), .int (xs 3)]) rfl ?_
              refine w_t2 (pc' := 14) (L' := []) h_m159 (z_at.mk 3 rfl rfl) rfl (zc (a := (xs 3).toInt) (b := 31) rfl rfl (decide_eq_true (by omega))) rfl rfl ?_
              refine w_p h_m159 1 (pc' := 15) (L' := []) (st' := [.int (0 : Int32)]) rfl ?_
              refine w_ri h_m159 (z_at.mk 1 rfl rfl) rfl rfl ?_
              show z_W 998 164 27 [(0, .int (xs 1)), (1, .int (xs 2)), (2, .int (xs 3)), (3, .int (xs 4))] [.int (0 : Int32)] m _
              refine w_p h_m164 2 (pc' := 45) (L' := []) (st' := [.int (0 : Int32)]) rfl ?_
              refine w_ri h_m164 (z_at.mk 1 rfl rfl) rfl rfl ?_
              show z_W 999 246 8 [(0, .ref 143), (1, .int (xs 1)), (2, .int (xs 2)), (3, .int (xs 3)), (4, .int (xs 4))] [.int (0 : Int32)] m _
              refine w_p h_m246 2 (pc' := 13) (L' := [(0, .ref 143), (1, .int (xs 1)), (2, .int (xs 2)), (3, .int (xs 3)), (4, .int (xs 4))]) (st' := [.int (-2 : Int32)]) rfl ?_
              refine w_ri h_m246 (z_at.mk 1 rfl rfl) rfl rfl ?_
              show z_W 1000 1000 705 [(0, .ref 0), (1, .ref 39), (2, .ref 143), (3, .int (0 : Int32))] [.int (-2 : Int32), .int (-2 : Int32)] m _
              refine w_p h_m1000 5 (pc' := 20) (L' := [(0, .ref 0), (1, .ref 39), (2, .ref 143), (3, .int (6 : Int32))]) (st' := [.ref 0, .int (6 : Int32)]) rfl ?_
              refine w_lene H (x := (6 : Int32)) (pc' := 21) (L' := [(0, .ref 0), (1, .ref 39), (2, .ref 143), (3, .int (6 : Int32))]) h_m1000 (z_at.mk 1 rfl rfl) (by decide) rfl (by decide) rfl rfl rfl ?_
              refine w_p h_m1000 4 (pc' := 1381) (L' := [(0, .ref 0), (1, .ref 39), (2, .ref 143), (3, .int (6 : Int32))]) (st' := [.int (1 : Int32)]) rfl ?_
              refine w_ri h_m1000 (z_at.mk 1 rfl rfl) rfl rfl ?_
              exact hQ _ _ _ _ H (by decide) (by decide)
            · refine w_t2 (pc' := 14) (L' := []) h_m159 (z_at.mk 3 rfl rfl) rfl (zc (a := (xs 2).toInt) (b := 31) rfl rfl (decide_eq_true (by omega))) rfl rfl ?_
              refine w_p h_m159 1 (pc' := 15) (L' := []) (st' := [.int (0 : Int32)]) rfl ?_
              refine w_ri h_m159 (z_at.mk 1 rfl rfl) rfl rfl ?_
              show z_W 998 164 17 [(0, .int (xs 1)), (1, .int (xs 2)), (2, .int (xs 3)), (3, .int (xs 4))] [.int (0 : Int32)] m _
              refine w_p h_m164 2 (pc' := 45) (L' := []) (st' := [.int (0 : Int32)]) rfl ?_
              refine w_ri h_m164 (z_at.mk 1 rfl rfl) rfl rfl ?_
              show z_W 999 246 8 [(0, .ref 143), (1, .int (xs 1)), (2, .int (xs 2)), (3, .int (xs 3)), (4, .int (xs 4))] [.int (0 : Int32)] m _
              refine w_p h_m246 2 (pc' := 13) (L' := [(0, .ref 143), (1, .int (xs 1)), (2, .int (xs 2)), (3, .int (xs 3)), (4, .int (xs 4))]) (st' := [.int (-2 : Int32)]) rfl ?_
              refine w_ri h_m246 (z_at.mk 1 rfl rfl) rfl rfl ?_
              show z_W 1000 1000 705 [(0, .ref 0), (1, .ref 39), (2, .ref 143), (3, .int (0 : Int32))] [.int (-2 : Int32), .int (-2 : Int32)] m _
              refine w_p h_m1000 5 (pc' := 20) (L' := [(0, .ref 0), (1, .ref 39), (2, .ref 143), (3, .int (6 : Int32))]) (st' := [.ref 0, .int (6 : Int32)]) rfl ?_
              refine w_lene H (x := (6 : Int32)) (pc' := 21) (L' := [(0, .ref 0), (1, .ref 39), (2, .ref 143), (3, .int (6 : Int32))]) h_m1000 (z_at.mk 1 rfl rfl) (by decide) rfl (by decide) rfl rfl rfl ?_
              refine w_p h_m1000 4 (pc' := 1381) (L' := [(0, .ref 0), (1, .ref 39), (2, .ref 143), (3, .int (6 : Int32))]) (st' := [.int (1 : Int32)]) rfl ?_
              refine w_ri h_m1000 (z_at.mk 1 rfl rfl) rfl rfl ?_
              exact hQ _ _ _ _ H (by decide) (by decide)
    · refine w_t2 (pc' := 24) (L' := []) h_m0 (z_at.mk 3 rfl rfl) rfl (zc (a := (xs 1).toInt) (b := 32) rfl rfl (decide_eq_true (by omega))) rfl rfl ?_
      refine w_p h_m0 1 (pc' := 25) (L' := []) (st' := [.int (0 : Int32)]) rfl ?_
      refine w_ri h_m0 (z_at.mk 1 rfl rfl) rfl rfl ?_
      show z_W 998 1 5 [(0, .int (xs 1)), (1, .int (xs 2)), (2, .int (xs 3)), (3, .int (xs 4))] [.int (0 : Int32)] m _
      refine w_p h_m1 2 (pc' := 31) (L' := []) (st' := [.int (0 : Int32)]) rfl ?_
      refine w_ri h_m1 (z_at.mk 1 rfl rfl) rfl rfl ?_
      show z_W 999 135 8 [(0, .ref 39), (1, .int (xs 1)), (2, .int (xs 2)), (3, .int (xs 3)), (4, .int (xs 4))] [.int (0 : Int32)] m _
      refine w_p h_m135 2 (pc' := 13) (L' := [(0, .ref 39), (1, .int (xs 1)), (2, .int (xs 2)), (3, .int (xs 3)), (4, .int (xs 4))]) (st' := [.int (-2 : Int32)]) rfl ?_
      refine w_ri h_m135 (z_at.mk 1 rfl rfl) rfl rfl ?_
      show z_W 1000 1000 681 [(0, .ref 0), (1, .ref 39), (2, .ref 143), (3, .int (0 : Int32))] [.int (-2 : Int32)] m _
      refine w_p h_m1000 5 (pc' := 686) (L' := [(0, .ref 0), (1, .ref 39), (2, .ref 143), (3, .int (0 : Int32))]) (st' := [.int (1 : Int32), .ref 0, .ref 143, .int (-2 : Int32)]) rfl ?_
      refine w_ae H (j := 1) (pc' := 687) (L' := [(0, .ref 0), (1, .ref 39), (2, .ref 143), (3, .int (0 : Int32))]) h_m1000 (z_at.mk 1 rfl rfl) rfl rfl rfl (by decide) rfl (by decide) rfl rfl rfl ?_
      refine w_p h_m1000 4 (pc' := 691) (L' := [(0, .ref 0), (1, .ref 39), (2, .ref 143), (3, .int (0 : Int32))]) (st' := [.int (2 : Int32), .ref 0, .int (xs 1), .ref 143, .int (-2 : Int32)]) rfl ?_
      refine w_ae H (j := 2) (pc' := 692) (L' := [(0, .ref 0), (1, .ref 39), (2, .ref 143), (3, .int (0 : Int32))]) h_m1000 (z_at.mk 1 rfl rfl) rfl rfl rfl (by decide) rfl (by decide) rfl rfl rfl ?_
      refine w_p h_m1000 4 (pc' := 696) (L' := [(0, .ref 0), (1, .ref 39), (2, .ref 143), (3, .int (0 : Int32))]) (st' := [.int (3 : Int32), .ref 0, .int (xs 2), .int (xs 1), .ref 143, .int (-2 : Int32)]) rfl ?_
      refine w_ae H (j := 3) (pc' := 697) (L' := [(0, .ref 0), (1, .ref 39), (2, .ref 143), (3, .int (0 : Int32))]) h_m1000 (z_at.mk 1 rfl rfl) rfl rfl rfl (by decide) rfl (by decide) rfl rfl rfl ?_
      refine w_p h_m1000 4 (pc' := 701) (L' := [(0, .ref 0), (1, .ref 39), (2, .ref 143), (3, .int (0 : Int32))]) (st' := [.int (4 : Int32), .ref 0, .int (xs 3), .int (xs 2), .int (xs 1), .ref 143, .int (-2 : Int32)]) rfl ?_
      refine w_ae H (j := 4) (pc' := 702) (L' := [(0, .ref 0), (1, .ref 39), (2, .ref 143), (3, .int (0 : Int32))]) h_m1000 (z_at.mk 1 rfl rfl) rfl rfl rfl (by decide) rfl (by decide) rfl rfl rfl ?_
      refine w_cv (H.t rfl) (pc' := 705) (L' := [(0, .ref 0), (1, .ref 39), (2, .ref 143), (3, .int (0 : Int32))]) (rest := [.int (-2 : Int32)]) (Ps := [.int (xs 1), .int (xs 2), .int (xs 3), .int (xs 4)]) (L0 := [(0, .ref 143), (1, .int (xs 1)), (2, .int (xs 2)), (3, .int (xs 3)), (4, .int (xs 4))]) h_m1000 (z_at.mk 3 rfl rfl) (Or.inl ⟨rfl, rfl⟩) rfl rfl (by decide) (by decide) rfl rfl rfl rfl rfl rfl (by decide) rfl rfl rfl ?_
      refine w_p h_m246 4 (pc' := 5) (L' := [(0, .ref 143), (1, .int (xs 1)), (2, .int (xs 2)), (3, .int (xs 3)), (4, .int (xs 4))]) (st' := [.int (xs 4), .int (xs 3), .int (xs 2), .int (xs 1)]) rfl ?_
      refine w_cs (As := [.int (xs 1), .int (xs 2), .int (xs 3), .int (xs 4)]) (rest := []) (j := 164) (L0 := [(0, .int (xs 1)), (1, .int (xs 2)), (2, .int (xs 3)), (3, .int (xs 4))]) (pc' := 8) (L' := [(0, .ref 143), (1, .int (xs 1)), (2, .int (xs 2)), (3, .int (xs 3)), (4, .int (xs 4))]) h_m246 (z_at.mk 3 rfl rfl) (Or.inl ⟨rfl, rfl⟩) rfl rfl rfl rfl rfl ?_
      refine w_p h_m164 3 (pc' := 4) (L' := [(0, .int (xs 1)), (1, .int (xs 2)), (2, .int (xs 3)), (3, .int (xs 4))]) (st' := [.int (31 : Int32), .int (0 : Int32), .int (xs 1)]) rfl ?_
      refine w_cs (As := [.int (xs 1), .int (0 : Int32), .int (31 : Int32)]) (rest := []) (j := 159) (L0 := [(0, .int (xs 1)), (1, .int (0 : Int32)), (2, .int (31 : Int32))]) (pc' := 7) (L' := [(0, .int (xs 1)), (1, .int (xs 2)), (2, .int (xs 3)), (3, .int (xs 4))]) h_m164 (z_at.mk 3 rfl rfl) (Or.inl ⟨rfl, rfl⟩) rfl rfl rfl rfl rfl ?_
      refine w_p h_m159 2 (pc' := 2) (L' := [(0, .int (xs 1)), (1, .int (0 : Int32)), (2, .int (31 : Int32))]) (st' := [.int (0 : Int32), .int (xs 1)]) rfl ?_
      refine w_f2 (pc' := 5) (L' := [(0, .int (xs 1)), (1, .int (0 : Int32)), (2, .int (31 : Int32))]) h_m159 (z_at.mk 3 rfl rfl) rfl (zc (a := (xs 1).toInt) (b := 0) rfl rfl (decide_eq_false (by omega))) rfl rfl ?_
      refine w_p h_m159 2 (pc' := 7) (L' := [(0, .int (xs 1)), (1, .int (0 : Int32)), (2, .int (31 : Int32))]) (st' := [.int (31 : Int32), .int (xs 1)]) rfl ?_
      refine w_t2 (pc' := 14) (L' := []) h_m159 (z_at.mk 3 rfl rfl) rfl (zc (a := (xs 1).toInt) (b := 31) rfl rfl (decide_eq_true (by omega))) rfl rfl ?_
      refine w_p h_m159 1 (pc' := 15) (L' := []) (st' := [.int (0 : Int32)]) rfl ?_
      refine w_ri h_m159 (z_at.mk 1 rfl rfl) rfl rfl ?_
      show z_W 998 164 7 [(0, .int (xs 1)), (1, .int (xs 2)), (2, .int (xs 3)), (3, .int (xs 4))] [.int (0 : Int32)] m _
      refine w_p h_m164 2 (pc' := 45) (L' := []) (st' := [.int (0 : Int32)]) rfl ?_
      refine w_ri h_m164 (z_at.mk 1 rfl rfl) rfl rfl ?_
      show z_W 999 246 8 [(0, .ref 143), (1, .int (xs 1)), (2, .int (xs 2)), (3, .int (xs 3)), (4, .int (xs 4))] [.int (0 : Int32)] m _
      refine w_p h_m246 2 (pc' := 13) (L' := [(0, .ref 143), (1, .int (xs 1)), (2, .int (xs 2)), (3, .int (xs 3)), (4, .int (xs 4))]) (st' := [.int (-2 : Int32)]) rfl ?_
      refine w_ri h_m246 (z_at.mk 1 rfl rfl) rfl rfl ?_
      show z_W 1000 1000 705 [(0, .ref 0), (1, .ref 39), (2, .ref 143), (3, .int (0 : Int32))] [.int (-2 : Int32), .int (-2 : Int32)] m _
      refine w_p h_m1000 5 (pc' := 20) (L' := [(0, .ref 0), (1, .ref 39), (2, .ref 143), (3, .int (6 : Int32))]) (st' := [.ref 0, .int (6 : Int32)]) rfl ?_
      refine w_lene H (x := (6 : Int32)) (pc' := 21) (L' := [(0, .ref 0), (1, .ref 39), (2, .ref 143), (3, .int (6 : Int32))]) h_m1000 (z_at.mk 1 rfl rfl) (by decide) rfl (by decide) rfl rfl rfl ?_
      refine w_p h_m1000 4 (pc' := 1381) (L' := [(0, .ref 0), (1, .ref 39), (2, .ref 143), (3, .int (6 : Int32))]) (st' := [.int (1 : Int32)]) rfl ?_
      refine w_ri h_m1000 (z_at.mk 1 rfl rfl) rfl rfl ?_
      exact hQ _ _ _ _ H (by decide) (by decide)
