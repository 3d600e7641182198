/-! THE ROADS of calls 24 on a fresh object (by wip/px_cmd.py) -/
set_option maxHeartbeats 400000000 in
set_option maxRecDepth 20000 in
theorem w_c24 {xs : Nat → Int32} {m : zM} {Q : Option Value → zM → Prop} (H : w_ok 6 xs 168 63950 w_T0 m) (hQ : ∀ N S T m, w_ok 6 xs N S T m → N ≤ 600039 → S ≤ 7302250 → Q (some (.int 1)) m) : z_W 1000 1000 913 [(0, .ref 0), (1, .ref 39), (2, .ref 143), (3, .int (0 : Int32))] [] m Q := by
  have b1 := zi_bd (xs 1)
  have b2 := zi_bd (xs 2)
  have b3 := zi_bd (xs 3)
  have b4 := zi_bd (xs 4)
  have b5 := zi_bd (xs 5)
  refine w_p h_m1000 5 (pc' := 918) (L' := [(0, .ref 0), (1, .ref 39), (2, .ref 143), (3, .int (0 : Int32))]) (st' := [.int (1 : Int32), .ref 0, .ref 39]) rfl ?_
  refine w_ae H (j := 1) (pc' := 919) (L' := [(0, .ref 0), (1, .ref 39), (2, .ref 143), (3, .int (0 : Int32))]) h_m1000 (z_at.mk 1 rfl rfl) rfl rfl rfl (by decide) rfl (by decide) rfl rfl rfl ?_
  refine w_p h_m1000 4 (pc' := 923) (L' := [(0, .ref 0), (1, .ref 39), (2, .ref 143), (3, .int (0 : Int32))]) (st' := [.int (2 : Int32), .ref 0, .int (xs 1), .ref 39]) rfl ?_
  refine w_ae H (j := 2) (pc' := 924) (L' := [(0, .ref 0), (1, .ref 39), (2, .ref 143), (3, .int (0 : Int32))]) h_m1000 (z_at.mk 1 rfl rfl) rfl rfl rfl (by decide) rfl (by decide) rfl rfl rfl ?_
  refine w_cv (H.t rfl) (pc' := 927) (L' := [(0, .ref 0), (1, .ref 39), (2, .ref 143), (3, .int (0 : Int32))]) (rest := []) (Ps := [.int (xs 1), .int (xs 2)]) (L0 := [(0, .ref 39), (1, .int (xs 1)), (2, .int (xs 2))]) h_m1000 (z_at.mk 3 rfl rfl) (Or.inl ⟨rfl, rfl⟩) rfl rfl (by decide) (by decide) rfl rfl rfl rfl rfl rfl (by decide) rfl rfl rfl ?_
  refine w_p h_m144 1 (pc' := 1) (L' := [(0, .ref 39), (1, .int (xs 1)), (2, .int (xs 2))]) (st' := [.int (xs 2)]) rfl ?_
  by_cases c_1 : (xs 2).toInt < 0
  · refine w_t1 (pc' := 9) (L' := []) h_m144 (z_at.mk 3 rfl rfl) rfl (zc (a := (xs 2).toInt) (b := 0) rfl rfl (decide_eq_true (by omega))) rfl rfl ?_
    refine w_p h_m144 1 (pc' := 10) (L' := []) (st' := [.int (-1 : Int32)]) rfl ?_
    refine w_ri h_m144 (z_at.mk 1 rfl rfl) rfl rfl ?_
    show z_W 1000 1000 927 [(0, .ref 0), (1, .ref 39), (2, .ref 143), (3, .int (0 : Int32))] [.int (-1 : Int32)] m _
    refine w_p h_m1000 5 (pc' := 932) (L' := [(0, .ref 0), (1, .ref 39), (2, .ref 143), (3, .int (0 : Int32))]) (st' := [.int (1 : Int32), .ref 0, .ref 143, .int (-1 : Int32)]) rfl ?_
    refine w_ae H (j := 1) (pc' := 933) (L' := [(0, .ref 0), (1, .ref 39), (2, .ref 143), (3, .int (0 : Int32))]) h_m1000 (z_at.mk 1 rfl rfl) rfl rfl rfl (by decide) rfl (by decide) rfl rfl rfl ?_
    refine w_p h_m1000 4 (pc' := 937) (L' := [(0, .ref 0), (1, .ref 39), (2, .ref 143), (3, .int (0 : Int32))]) (st' := [.int (2 : Int32), .ref 0, .int (xs 1), .ref 143, .int (-1 : Int32)]) rfl ?_
    refine w_ae H (j := 2) (pc' := 938) (L' := [(0, .ref 0), (1, .ref 39), (2, .ref 143), (3, .int (0 : Int32))]) h_m1000 (z_at.mk 1 rfl rfl) rfl rfl rfl (by decide) rfl (by decide) rfl rfl rfl ?_
    refine w_cv (H.t rfl) (pc' := 941) (L' := [(0, .ref 0), (1, .ref 39), (2, .ref 143), (3, .int (0 : Int32))]) (rest := [.int (-1 : Int32)]) (Ps := [.int (xs 1), .int (xs 2)]) (L0 := [(0, .ref 143), (1, .int (xs 1)), (2, .int (xs 2))]) h_m1000 (z_at.mk 3 rfl rfl) (Or.inl ⟨rfl, rfl⟩) rfl rfl (by decide) (by decide) rfl rfl rfl rfl rfl rfl (by decide) rfl rfl rfl ?_
    refine w_p h_m256 3 (pc' := 3) (L' := [(0, .ref 143), (1, .int (xs 1)), (2, .int (xs 2))]) (st' := [.int (5 : Int32), .int (0 : Int32), .int (xs 2)]) rfl ?_
    refine w_cs (As := [.int (xs 2), .int (0 : Int32), .int (5 : Int32)]) (rest := []) (j := 159) (L0 := [(0, .int (xs 2)), (1, .int (0 : Int32)), (2, .int (5 : Int32))]) (pc' := 6) (L' := [(0, .ref 143), (1, .int (xs 1)), (2, .int (xs 2))]) h_m256 (z_at.mk 3 rfl rfl) (Or.inl ⟨rfl, rfl⟩) rfl rfl rfl rfl rfl ?_
    refine w_p h_m159 2 (pc' := 2) (L' := [(0, .int (xs 2)), (1, .int (0 : Int32)), (2, .int (5 : Int32))]) (st' := [.int (0 : Int32), .int (xs 2)]) rfl ?_
    refine w_t2 (pc' := 14) (L' := []) h_m159 (z_at.mk 3 rfl rfl) rfl (zc (a := (xs 2).toInt) (b := 0) rfl rfl (decide_eq_true (by omega))) rfl rfl ?_
    refine w_p h_m159 1 (pc' := 15) (L' := []) (st' := [.int (0 : Int32)]) rfl ?_
    refine w_ri h_m159 (z_at.mk 1 rfl rfl) rfl rfl ?_
    show z_W 999 256 6 [(0, .ref 143), (1, .int (xs 1)), (2, .int (xs 2))] [.int (0 : Int32)] m _
    refine w_p h_m256 3 (pc' := 34) (L' := []) (st' := [.int (-1 : Int32)]) rfl ?_
    refine w_ri h_m256 (z_at.mk 1 rfl rfl) rfl rfl ?_
    show z_W 1000 1000 941 [(0, .ref 0), (1, .ref 39), (2, .ref 143), (3, .int (0 : Int32))] [.int (-1 : Int32), .int (-1 : Int32)] m _
    refine w_p h_m1000 5 (pc' := 20) (L' := [(0, .ref 0), (1, .ref 39), (2, .ref 143), (3, .int (6 : Int32))]) (st' := [.ref 0, .int (6 : Int32)]) rfl ?_
    refine w_lene H (x := (6 : Int32)) (pc' := 21) (L' := [(0, .ref 0), (1, .ref 39), (2, .ref 143), (3, .int (6 : Int32))]) h_m1000 (z_at.mk 1 rfl rfl) (by decide) rfl (by decide) rfl rfl rfl ?_
    refine w_p h_m1000 4 (pc' := 1381) (L' := [(0, .ref 0), (1, .ref 39), (2, .ref 143), (3, .int (6 : Int32))]) (st' := [.int (1 : Int32)]) rfl ?_
    refine w_ri h_m1000 (z_at.mk 1 rfl rfl) rfl rfl ?_
    exact hQ _ _ _ _ H (by decide) (by decide)
  · refine w_f1 (pc' := 4) (L' := [(0, .ref 39), (1, .int (xs 1)), (2, .int (xs 2))]) h_m144 (z_at.mk 3 rfl rfl) rfl (zc (a := (xs 2).toInt) (b := 0) rfl rfl (decide_eq_false (by omega))) rfl rfl ?_
    refine w_p h_m144 2 (pc' := 6) (L' := [(0, .ref 39), (1, .int (xs 1)), (2, .int (xs 2))]) (st' := [.int (5 : Int32), .int (xs 2)]) rfl ?_
    by_cases c_2 : (xs 2).toInt ≤ 5
    · refine w_t2 (pc' := 11) (L' := [(0, .ref 39), (1, .int (xs 1)), (2, .int (xs 2))]) h_m144 (z_at.mk 3 rfl rfl) rfl (zc (a := (xs 2).toInt) (b := 5) rfl rfl (decide_eq_true (by omega))) rfl rfl ?_
      refine w_p h_m144 2 (pc' := 13) (L' := [(0, .ref 39), (1, .int (xs 1)), (2, .int (xs 2))]) (st' := [.int (1 : Int32), .int (xs 1)]) rfl ?_
      by_cases c_3 : (xs 1).toInt < 1
      · refine w_t2 (pc' := 22) (L' := []) h_m144 (z_at.mk 3 rfl rfl) rfl (zc (a := (xs 1).toInt) (b := 1) rfl rfl (decide_eq_true (by omega))) rfl rfl ?_
        refine w_p h_m144 1 (pc' := 24) (L' := []) (st' := [.int (-2 : Int32)]) rfl ?_
        refine w_ri h_m144 (z_at.mk 1 rfl rfl) rfl rfl ?_
        show z_W 1000 1000 927 [(0, .ref 0), (1, .ref 39), (2, .ref 143), (3, .int (0 : Int32))] [.int (-2 : Int32)] m _
        refine w_p h_m1000 5 (pc' := 932) (L' := [(0, .ref 0), (1, .ref 39), (2, .ref 143), (3, .int (0 : Int32))]) (st' := [.int (1 : Int32), .ref 0, .ref 143, .int (-2 : Int32)]) rfl ?_
        refine w_ae H (j := 1) (pc' := 933) (L' := [(0, .ref 0), (1, .ref 39), (2, .ref 143), (3, .int (0 : Int32))]) h_m1000 (z_at.mk 1 rfl rfl) rfl rfl rfl (by decide) rfl (by decide) rfl rfl rfl ?_
        refine w_p h_m1000 4 (pc' := 937) (L' := [(0, .ref 0), (1, .ref 39), (2, .ref 143), (3, .int (0 : Int32))]) (st' := [.int (2 : Int32), .ref 0, .int (xs 1), .ref 143, .int (-2 : Int32)]) rfl ?_
        refine w_ae H (j := 2) (pc' := 938) (L' := [(0, .ref 0), (1, .ref 39), (2, .ref 143), (3, .int (0 : Int32))]) h_m1000 (z_at.mk 1 rfl rfl) rfl rfl rfl (by decide) rfl (by decide) rfl rfl rfl ?_
        refine w_cv (H.t rfl) (pc' := 941) (L' := [(0, .ref 0), (1, .ref 39), (2, .ref 143), (3, .int (0 : Int32))]) (rest := [.int (-2 : Int32)]) (Ps := [.int (xs 1), .int (xs 2)]) (L0 := [(0, .ref 143), (1, .int (xs 1)), (2, .int (xs 2))]) h_m1000 (z_at.mk 3 rfl rfl) (Or.inl ⟨rfl, rfl⟩) rfl rfl (by decide) (by decide) rfl rfl rfl rfl rfl rfl (by decide) rfl rfl rfl ?_
        refine w_p h_m256 3 (pc' := 3) (L' := [(0, .ref 143), (1, .int (xs 1)), (2, .int (xs 2))]) (st' := [.int (5 : Int32), .int (0 : Int32), .int (xs 2)]) rfl ?_
        refine w_cs (As := [.int (xs 2), .int (0 : Int32), .int (5 : Int32)]) (rest := []) (j := 159) (L0 := [(0, .int (xs 2)), (1, .int (0 : Int32)), (2, .int (5 : Int32))]) (pc' := 6) (L' := [(0, .ref 143), (1, .int (xs 1)), (2, .int (xs 2))]) h_m256 (z_at.mk 3 rfl rfl) (Or.inl ⟨rfl, rfl⟩) rfl rfl rfl rfl rfl ?_
        refine w_p h_m159 2 (pc' := 2) (L' := [(0, .int (xs 2)), (1, .int (0 : Int32)), (2, .int (5 : Int32))]) (st' := [.int (0 : Int32), .int (xs 2)]) rfl ?_
        refine w_f2 (pc' := 5) (L' := [(0, .int (xs 2)), (1, .int (0 : Int32)), (2, .int (5 : Int32))]) h_m159 (z_at.mk 3 rfl rfl) rfl (zc (a := (xs 2).toInt) (b := 0) rfl rfl (decide_eq_false (by omega))) rfl rfl ?_
        refine w_p h_m159 2 (pc' := 7) (L' := [(0, .int (xs 2)), (1, .int (0 : Int32)), (2, .int (5 : Int32))]) (st' := [.int (5 : Int32), .int (xs 2)]) rfl ?_
        refine w_f2 (pc' := 10) (L' := [(0, .int (xs 2)), (1, .int (0 : Int32)), (2, .int (5 : Int32))]) h_m159 (z_at.mk 3 rfl rfl) rfl (zc (a := (xs 2).toInt) (b := 5) rfl rfl (decide_eq_false (by omega))) rfl rfl ?_
        refine w_p h_m159 2 (pc' := 15) (L' := []) (st' := [.int (1 : Int32)]) rfl ?_
        refine w_ri h_m159 (z_at.mk 1 rfl rfl) rfl rfl ?_
        show z_W 999 256 6 [(0, .ref 143), (1, .int (xs 1)), (2, .int (xs 2))] [.int (1 : Int32)] m _
        refine w_p h_m256 4 (pc' := 17) (L' := [(0, .ref 143), (1, .int (xs 1)), (2, .int (xs 2))]) (st' := [.int (99 : Int32), .int (1 : Int32), .int (xs 1)]) rfl ?_
        refine w_cs (As := [.int (xs 1), .int (1 : Int32), .int (99 : Int32)]) (rest := []) (j := 159) (L0 := [(0, .int (xs 1)), (1, .int (1 : Int32)), (2, .int (99 : Int32))]) (pc' := 20) (L' := [(0, .ref 143), (1, .int (xs 1)), (2, .int (xs 2))]) h_m256 (z_at.mk 3 rfl rfl) (Or.inl ⟨rfl, rfl⟩) rfl rfl rfl rfl rfl ?_
        refine w_p h_m159 2 (pc' := 2) (L' := [(0, .int (xs 1)), (1, .int (1 : Int32)), (2, .int (99 : Int32))]) (st' := [.int (1 : Int32), .int (xs 1)]) rfl ?_
        refine w_t2 (pc' := 14) (L' := []) h_m159 (z_at.mk 3 rfl rfl) rfl (zc (a := (xs 1).toInt) (b := 1) rfl rfl (decide_eq_true (by omega))) rfl rfl ?_
        refine w_p h_m159 1 (pc' := 15) (L' := []) (st' := [.int (0 : Int32)]) rfl ?_
        refine w_ri h_m159 (z_at.mk 1 rfl rfl) rfl rfl ?_
        show z_W 999 256 20 [(0, .ref 143), (1, .int (xs 1)), (2, .int (xs 2))] [.int (0 : Int32)] m _
        refine w_p h_m256 3 (pc' := 34) (L' := []) (st' := [.int (-2 : Int32)]) rfl ?_
        refine w_ri h_m256 (z_at.mk 1 rfl rfl) rfl rfl ?_
        show z_W 1000 1000 941 [(0, .ref 0), (1, .ref 39), (2, .ref 143), (3, .int (0 : Int32))] [.int (-2 : Int32), .int (-2 : Int32)] m _
        refine w_p h_m1000 5 (pc' := 20) (L' := [(0, .ref 0), (1, .ref 39), (2, .ref 143), (3, .int (6 : Int32))]) (st' := [.ref 0, .int (6 : Int32)]) rfl ?_
        refine w_lene H (x := (6 : Int32)) (pc' := 21) (L' := [(0, .ref 0), (1, .ref 39), (2, .ref 143), (3, .int (6 : Int32))]) h_m1000 (z_at.mk 1 rfl rfl) (by decide) rfl (by decide) rfl rfl rfl ?_
        refine w_p h_m1000 4 (pc' := 1381) (L' := [(0, .ref 0), (1, .ref 39), (2, .ref 143), (3, .int (6 : Int32))]) (st' := [.int (1 : Int32)]) rfl ?_
        refine w_ri h_m1000 (z_at.mk 1 rfl rfl) rfl rfl ?_
        exact hQ _ _ _ _ H (by decide) (by decide)
      · refine w_f2 (pc' := 16) (L' := [(0, .ref 39), (1, .int (xs 1)), (2, .int (xs 2))]) h_m144 (z_at.mk 3 rfl rfl) rfl (zc (a := (xs 1).toInt) (b := 1) rfl rfl (decide_eq_false (by omega))) rfl rfl ?_
        refine w_p h_m144 2 (pc' := 19) (L' := [(0, .ref 39), (1, .int (xs 1)), (2, .int (xs 2))]) (st' := [.int (99 : Int32), .int (xs 1)]) rfl ?_
        by_cases c_4 : (xs 1).toInt ≤ 99
        · refine w_t2 (pc' := 25) (L' := [(0, .ref 39), (1, .int (xs 1)), (2, .int (xs 2))]) h_m144 (z_at.mk 3 rfl rfl) rfl (zc (a := (xs 1).toInt) (b := 99) rfl rfl (decide_eq_true (by omega))) rfl rfl ?_
          refine w_p h_m144 2 (pc' := 27) (L' := [(0, .ref 39), (1, .int (xs 1)), (2, .int (xs 2))]) (st' := [.int (xs 1), .ref 39]) rfl ?_
          refine w_cv (H.t rfl) (pc' := 30) (L' := [(0, .ref 39), (1, .int (xs 1)), (2, .int (xs 2))]) (rest := []) (Ps := [.int (xs 1)]) (L0 := [(0, .ref 39), (1, .int (xs 1))]) h_m144 (z_at.mk 3 rfl rfl) (Or.inl ⟨rfl, rfl⟩) rfl rfl (by decide) (by decide) rfl rfl rfl rfl rfl rfl (by decide) rfl rfl rfl ?_
          refine w_p h_m145 1 (pc' := 1) (L' := [(0, .ref 39), (1, .int (xs 1))]) (st' := [.ref 39]) rfl ?_
          refine w_gf H (pc' := 4) (L' := [(0, .ref 39), (1, .int (xs 1))]) h_m145 (z_at.mk 3 rfl rfl) rfl (u := .ref 106) rfl rfl rfl ?_
          refine w_cv (H.t rfl) (pc' := 7) (L' := [(0, .ref 39), (1, .int (xs 1))]) (rest := []) (Ps := []) (L0 := [(0, .ref 106)]) h_m145 (z_at.mk 3 rfl rfl) (Or.inl ⟨rfl, rfl⟩) rfl rfl (by decide) (by decide) rfl rfl rfl rfl rfl rfl (by decide) rfl rfl rfl ?_
          refine w_p h_m20 2 (pc' := 2) (L' := [(0, .ref 106)]) (st' := [.int (0 : Int32), .ref 106]) rfl ?_
          refine w_pf H (12, 18, [(2, .int (0 : Int32)), (0, .ref 41), (17, .ref 116), (16, .ref 114), (15, .int (0 : Int32)), (14, .int (0 : Int32)), (13, .int (0 : Int32)), (12, .int (0 : Int32)), (11, .int (0 : Int32)), (10, .int (0 : Int32)), (9, .long (0 : Int64)), (8, .int (0 : Int32)), (7, .ref 113), (6, .ref 112), (5, .ref 111), (4, .ref 110), (3, .ref 109), (1, .ref 107)], none) (pc' := 5) (L' := [(0, .ref 106)]) h_m20 (z_at.mk 3 rfl rfl) rfl (by decide) rfl (Or.inl rfl) rfl rfl rfl ?_
          clear H m; intro m H
          refine w_p h_m20 2 (pc' := 7) (L' := [(0, .ref 106)]) (st' := [.int (0 : Int32), .ref 106]) rfl ?_
          refine w_pf H (12, 18, [(8, .int (0 : Int32)), (2, .int (0 : Int32)), (0, .ref 41), (17, .ref 116), (16, .ref 114), (15, .int (0 : Int32)), (14, .int (0 : Int32)), (13, .int (0 : Int32)), (12, .int (0 : Int32)), (11, .int (0 : Int32)), (10, .int (0 : Int32)), (9, .long (0 : Int64)), (7, .ref 113), (6, .ref 112), (5, .ref 111), (4, .ref 110), (3, .ref 109), (1, .ref 107)], none) (pc' := 10) (L' := [(0, .ref 106)]) h_m20 (z_at.mk 3 rfl rfl) rfl (by decide) rfl (Or.inl rfl) rfl rfl rfl ?_
          clear H m; intro m H
          refine w_p h_m20 2 (pc' := 12) (L' := [(0, .ref 106)]) (st' := [.long (0 : Int64), .ref 106]) rfl ?_
          refine w_pf H (12, 18, [(9, .long (0 : Int64)), (8, .int (0 : Int32)), (2, .int (0 : Int32)), (0, .ref 41), (17, .ref 116), (16, .ref 114), (15, .int (0 : Int32)), (14, .int (0 : Int32)), (13, .int (0 : Int32)), (12, .int (0 : Int32)), (11, .int (0 : Int32)), (10, .int (0 : Int32)), (7, .ref 113), (6, .ref 112), (5, .ref 111), (4, .ref 110), (3, .ref 109), (1, .ref 107)], none) (pc' := 15) (L' := [(0, .ref 106)]) h_m20 (z_at.mk 3 rfl rfl) rfl (by decide) rfl (Or.inl rfl) rfl rfl rfl ?_
          clear H m; intro m H
          refine w_p h_m20 2 (pc' := 17) (L' := [(0, .ref 106)]) (st' := [.int (0 : Int32), .ref 106]) rfl ?_
          refine w_pf H (12, 18, [(10, .int (0 : Int32)), (9, .long (0 : Int64)), (8, .int (0 : Int32)), (2, .int (0 : Int32)), (0, .ref 41), (17, .ref 116), (16, .ref 114), (15, .int (0 : Int32)), (14, .int (0 : Int32)), (13, .int (0 : Int32)), (12, .int (0 : Int32)), (11, .int (0 : Int32)), (7, .ref 113), (6, .ref 112), (5, .ref 111), (4, .ref 110), (3, .ref 109), (1, .ref 107)], none) (pc' := 20) (L' := [(0, .ref 106)]) h_m20 (z_at.mk 3 rfl rfl) rfl (by decide) rfl (Or.inl rfl) rfl rfl rfl ?_
          clear H m; intro m H
          refine w_p h_m20 2 (pc' := 22) (L' := [(0, .ref 106)]) (st' := [.int (0 : Int32), .ref 106]) rfl ?_
          refine w_pf H (12, 18, [(11, .int (0 : Int32)), (10, .int (0 : Int32)), (9, .long (0 : Int64)), (8, .int (0 : Int32)), (2, .int (0 : Int32)), (0, .ref 41), (17, .ref 116), (16, .ref 114), (15, .int (0 : Int32)), (14, .int (0 : Int32)), (13, .int (0 : Int32)), (12, .int (0 : Int32)), (7, .ref 113), (6, .ref 112), (5, .ref 111), (4, .ref 110), (3, .ref 109), (1, .ref 107)], none) (pc' := 25) (L' := [(0, .ref 106)]) h_m20 (z_at.mk 3 rfl rfl) rfl (by decide) rfl (Or.inl rfl) rfl rfl rfl ?_
          clear H m; intro m H
          refine w_p h_m20 2 (pc' := 27) (L' := [(0, .ref 106)]) (st' := [.int (0 : Int32), .ref 106]) rfl ?_
          refine w_pf H (12, 18, [(12, .int (0 : Int32)), (11, .int (0 : Int32)), (10, .int (0 : Int32)), (9, .long (0 : Int64)), (8, .int (0 : Int32)), (2, .int (0 : Int32)), (0, .ref 41), (17, .ref 116), (16, .ref 114), (15, .int (0 : Int32)), (14, .int (0 : Int32)), (13, .int (0 : Int32)), (7, .ref 113), (6, .ref 112), (5, .ref 111), (4, .ref 110), (3, .ref 109), (1, .ref 107)], none) (pc' := 30) (L' := [(0, .ref 106)]) h_m20 (z_at.mk 3 rfl rfl) rfl (by decide) rfl (Or.inl rfl) rfl rfl rfl ?_
          clear H m; intro m H
          refine w_p h_m20 2 (pc' := 32) (L' := [(0, .ref 106)]) (st' := [.int (0 : Int32), .ref 106]) rfl ?_
          refine w_pf H (12, 18, [(13, .int (0 : Int32)), (12, .int (0 : Int32)), (11, .int (0 : Int32)), (10, .int (0 : Int32)), (9, .long (0 : Int64)), (8, .int (0 : Int32)), (2, .int (0 : Int32)), (0, .ref 41), (17, .ref 116), (16, .ref 114), (15, .int (0 : Int32)), (14, .int (0 : Int32)), (7, .ref 113), (6, .ref 112), (5, .ref 111), (4, .ref 110), (3, .ref 109), (1, .ref 107)], none) (pc' := 35) (L' := [(0, .ref 106)]) h_m20 (z_at.mk 3 rfl rfl) rfl (by decide) rfl (Or.inl rfl) rfl rfl rfl ?_
          clear H m; intro m H
          refine w_p h_m20 2 (pc' := 37) (L' := [(0, .ref 106)]) (st' := [.int (0 : Int32), .ref 106]) rfl ?_
          refine w_pf H (12, 18, [(14, .int (0 : Int32)), (13, .int (0 : Int32)), (12, .int (0 : Int32)), (11, .int (0 : Int32)), (10, .int (0 : Int32)), (9, .long (0 : Int64)), (8, .int (0 : Int32)), (2, .int (0 : Int32)), (0, .ref 41), (17, .ref 116), (16, .ref 114), (15, .int (0 : Int32)), (7, .ref 113), (6, .ref 112), (5, .ref 111), (4, .ref 110), (3, .ref 109), (1, .ref 107)], none) (pc' := 40) (L' := [(0, .ref 106)]) h_m20 (z_at.mk 3 rfl rfl) rfl (by decide) rfl (Or.inl rfl) rfl rfl rfl ?_
          clear H m; intro m H
          refine w_p h_m20 2 (pc' := 42) (L' := [(0, .ref 106)]) (st' := [.int (0 : Int32), .ref 106]) rfl ?_
          refine w_pf H (12, 18, [(15, .int (0 : Int32)), (14, .int (0 : Int32)), (13, .int (0 : Int32)), (12, .int (0 : Int32)), (11, .int (0 : Int32)), (10, .int (0 : Int32)), (9, .long (0 : Int64)), (8, .int (0 : Int32)), (2, .int (0 : Int32)), (0, .ref 41), (17, .ref 116), (16, .ref 114), (7, .ref 113), (6, .ref 112), (5, .ref 111), (4, .ref 110), (3, .ref 109), (1, .ref 107)], none) (pc' := 45) (L' := [(0, .ref 106)]) h_m20 (z_at.mk 3 rfl rfl) rfl (by decide) rfl (Or.inl rfl) rfl rfl rfl ?_
          clear H m; intro m H
          refine w_rv h_m20 (z_at.mk 1 rfl rfl) rfl ?_
          show z_W 998 145 7 [(0, .ref 39), (1, .int (xs 1))] [] m _
          refine w_p h_m145 1 (pc' := 8) (L' := [(0, .ref 39), (1, .int (xs 1))]) (st' := [.ref 39]) rfl ?_
          refine w_gf H (pc' := 11) (L' := [(0, .ref 39), (1, .int (xs 1))]) h_m145 (z_at.mk 3 rfl rfl) rfl (u := .ref 106) rfl rfl rfl ?_
          refine w_gf H (pc' := 14) (L' := [(0, .ref 39), (1, .int (xs 1))]) h_m145 (z_at.mk 3 rfl rfl) rfl (u := .ref 107) rfl rfl rfl ?_
          refine w_p h_m145 1 (pc' := 15) (L' := [(0, .ref 39), (1, .int (xs 1))]) (st' := [.ref 39, .ref 107]) rfl ?_
          refine w_gf H (pc' := 18) (L' := [(0, .ref 39), (1, .int (xs 1))]) h_m145 (z_at.mk 3 rfl rfl) rfl (u := .ref 40) rfl rfl rfl ?_
          refine w_gf H (pc' := 21) (L' := [(0, .ref 39), (1, .int (xs 1))]) h_m145 (z_at.mk 3 rfl rfl) rfl (u := .ref 48) rfl rfl rfl ?_
          refine w_gf H (pc' := 24) (L' := [(0, .ref 39), (1, .int (xs 1))]) h_m145 (z_at.mk 3 rfl rfl) rfl (u := .ref 49) rfl rfl rfl ?_
          refine w_cv (H.t rfl) (pc' := 27) (L' := [(0, .ref 39), (1, .int (xs 1))]) (rest := []) (Ps := [.ref 49]) (L0 := [(0, .ref 107), (1, .ref 49)]) h_m145 (z_at.mk 3 rfl rfl) (Or.inl ⟨rfl, rfl⟩) rfl rfl (by decide) (by decide) rfl rfl rfl rfl rfl rfl (by decide) rfl rfl rfl ?_
          refine w_p h_m74 1 (pc' := 1) (L' := [(0, .ref 107), (1, .ref 49)]) (st' := [.ref 49]) rfl ?_
          refine w_gf H (pc' := 4) (L' := [(0, .ref 107), (1, .ref 49)]) h_m74 (z_at.mk 3 rfl rfl) rfl (u := .ref 50) rfl rfl rfl ?_
          refine w_p h_m74 2 (pc' := 6) (L' := [(0, .ref 107), (1, .ref 49)]) (st' := [.ref 107, .int (0 : Int32), .ref 50]) rfl ?_
          refine w_gf H (pc' := 9) (L' := [(0, .ref 107), (1, .ref 49)]) h_m74 (z_at.mk 3 rfl rfl) rfl (u := .ref 108) rfl rfl rfl ?_
          refine w_p h_m74 2 (pc' := 12) (L' := [(0, .ref 107), (1, .ref 49)]) (st' := [.int (7 : Int32), .int (0 : Int32), .ref 108, .int (0 : Int32), .ref 50]) rfl ?_
          refine w_cpf H (ra := (0, 7, [(6, .int (1024 : Int32)), (5, .int (1 : Int32)), (4, .int (1 : Int32)), (3, .int (0 : Int32)), (2, .int (12 : Int32)), (1, .int (40 : Int32)), (0, .int (10 : Int32))], some (.int (0 : Int32)))) (pc' := 15) (L' := [(0, .ref 107), (1, .ref 49)]) h_m74 (z_at.mk 3 rfl rfl) rfl (z_cat_le 0 rfl (by decide)) rfl rfl rfl rfl (by decide) rfl rfl ?_
          clear H m; intro m H
          refine w_rv h_m74 (z_at.mk 1 rfl rfl) rfl ?_
          show z_W 998 145 27 [(0, .ref 39), (1, .int (xs 1))] [] m _
          refine w_p h_m145 1 (pc' := 28) (L' := [(0, .ref 39), (1, .int (xs 1))]) (st' := [.ref 39]) rfl ?_
          refine w_gf H (pc' := 31) (L' := [(0, .ref 39), (1, .int (xs 1))]) h_m145 (z_at.mk 3 rfl rfl) rfl (u := .ref 106) rfl rfl rfl ?_
          refine w_gf H (pc' := 34) (L' := [(0, .ref 39), (1, .int (xs 1))]) h_m145 (z_at.mk 3 rfl rfl) rfl (u := .ref 107) rfl rfl rfl ?_
          refine w_p h_m145 2 (pc' := 36) (L' := [(0, .ref 39), (1, .int (xs 1))]) (st' := [.int (xs 1), .int (1 : Int32), .ref 107]) rfl ?_
          refine w_cv (H.t rfl) (pc' := 39) (L' := [(0, .ref 39), (1, .int (xs 1))]) (rest := []) (Ps := [.int (1 : Int32), .int (xs 1)]) (L0 := [(0, .ref 107), (1, .int (1 : Int32)), (2, .int (xs 1))]) h_m145 (z_at.mk 3 rfl rfl) (Or.inl ⟨rfl, rfl⟩) rfl rfl (by decide) (by decide) rfl rfl rfl rfl rfl rfl (by decide) rfl rfl rfl ?_
          refine w_p h_m73 6 (pc' := 11) (L' := [(0, .ref 107), (1, .int (1 : Int32)), (2, .int (xs 1))]) (st' := [.ref 107]) rfl ?_
          refine w_gf H (pc' := 14) (L' := [(0, .ref 107), (1, .int (1 : Int32)), (2, .int (xs 1))]) h_m73 (z_at.mk 3 rfl rfl) rfl (u := .ref 108) rfl rfl rfl ?_
          refine w_p h_m73 2 (pc' := 16) (L' := [(0, .ref 107), (1, .int (1 : Int32)), (2, .int (xs 1))]) (st' := [.int (xs 1), .int (1 : Int32), .ref 108]) rfl ?_
          refine w_as H (t := 0) (j := 1) (u := .int (xs 1)) (0, 7, [(1, .int (xs 1)), (6, .int (1024 : Int32)), (5, .int (1 : Int32)), (4, .int (1 : Int32)), (3, .int (0 : Int32)), (2, .int (12 : Int32)), (0, .int (10 : Int32))], some (.int (0 : Int32))) (pc' := 17) (L' := []) h_m73 (z_at.mk 1 rfl rfl) rfl rfl (w_ui _ _ (by decide)) rfl rfl rfl rfl ?_
          clear H m; intro m H
          refine w_rv h_m73 (z_at.mk 1 rfl rfl) rfl ?_
          show z_W 998 145 39 [(0, .ref 39), (1, .int (xs 1))] [] m _
          refine w_p h_m145 4 (pc' := 43) (L' := [(0, .ref 39), (2, .int (0 : Int32))]) (st' := [.ref 39, .int (0 : Int32)]) rfl ?_
          refine w_gf H (pc' := 46) (L' := [(0, .ref 39), (2, .int (0 : Int32))]) h_m145 (z_at.mk 3 rfl rfl) rfl (u := .ref 40) rfl rfl rfl ?_
          refine w_gf H (pc' := 49) (L' := [(0, .ref 39), (2, .int (0 : Int32))]) h_m145 (z_at.mk 3 rfl rfl) rfl (u := .ref 63) rfl rfl rfl ?_
          refine w_gf H (pc' := 52) (L' := [(0, .ref 39), (2, .int (0 : Int32))]) h_m145 (z_at.mk 3 rfl rfl) rfl (u := .int (0 : Int32)) rfl rfl rfl ?_
          refine w_p h_m145 1 (pc' := 79) (L' := [(0, .ref 39), (2, .int (0 : Int32))]) (st' := []) rfl ?_
          refine w_rv h_m145 (z_at.mk 1 rfl rfl) rfl ?_
          show z_W 999 144 30 [(0, .ref 39), (1, .int (xs 1)), (2, .int (xs 2))] [] m _
          refine w_p h_m144 1 (pc' := 31) (L' := [(0, .ref 39), (1, .int (xs 1)), (2, .int (xs 2))]) (st' := [.int (xs 2)]) rfl ?_
          by_cases c_5 : (xs 2).toInt = 0
          · refine w_sw (off := 33) (pc' := 64) (L' := [(0, .ref 39), (1, .int (xs 1)), (2, .int (xs 2))]) h_m144 (z_at.mk 33 rfl rfl) (z_off_v (v := 0) c_5 (by decide)) rfl rfl rfl ?_
            refine w_p h_m144 1 (pc' := 65) (L' := [(0, .ref 39), (1, .int (xs 1)), (2, .int (xs 2))]) (st' := [.ref 39]) rfl ?_
            refine w_gf H (pc' := 68) (L' := [(0, .ref 39), (1, .int (xs 1)), (2, .int (xs 2))]) h_m144 (z_at.mk 3 rfl rfl) rfl (u := .ref 106) rfl rfl rfl ?_
            refine w_gf H (pc' := 71) (L' := [(0, .ref 39), (1, .int (xs 1)), (2, .int (xs 2))]) h_m144 (z_at.mk 3 rfl rfl) rfl (u := .int (0 : Int32)) rfl rfl rfl ?_
            refine w_ri h_m144 (z_at.mk 1 rfl rfl) rfl rfl ?_
            show z_W 1000 1000 927 [(0, .ref 0), (1, .ref 39), (2, .ref 143), (3, .int (0 : Int32))] [.int (0 : Int32)] m _
            refine w_p h_m1000 5 (pc' := 932) (L' := [(0, .ref 0), (1, .ref 39), (2, .ref 143), (3, .int (0 : Int32))]) (st' := [.int (1 : Int32), .ref 0, .ref 143, .int (0 : Int32)]) rfl ?_
            refine w_ae H (j := 1) (pc' := 933) (L' := [(0, .ref 0), (1, .ref 39), (2, .ref 143), (3, .int (0 : Int32))]) h_m1000 (z_at.mk 1 rfl rfl) rfl rfl rfl (by decide) rfl (by decide) rfl rfl rfl ?_
            refine w_p h_m1000 4 (pc' := 937) (L' := [(0, .ref 0), (1, .ref 39), (2, .ref 143), (3, .int (0 : Int32))]) (st' := [.int (2 : Int32), .ref 0, .int (xs 1), .ref 143, .int (0 : Int32)]) rfl ?_
            refine w_ae H (j := 2) (pc' := 938) (L' := [(0, .ref 0), (1, .ref 39), (2, .ref 143), (3, .int (0 : Int32))]) h_m1000 (z_at.mk 1 rfl rfl) rfl rfl rfl (by decide) rfl (by decide) rfl rfl rfl ?_
            refine w_cv (H.t rfl) (pc' := 941) (L' := [(0, .ref 0), (1, .ref 39), (2, .ref 143), (3, .int (0 : Int32))]) (rest := [.int (0 : Int32)]) (Ps := [.int (xs 1), .int (xs 2)]) (L0 := [(0, .ref 143), (1, .int (xs 1)), (2, .int (xs 2))]) h_m1000 (z_at.mk 3 rfl rfl) (Or.inl ⟨rfl, rfl⟩) rfl rfl (by decide) (by decide) rfl rfl rfl rfl rfl rfl (by decide) rfl rfl rfl ?_
            refine w_p h_m256 3 (pc' := 3) (L' := [(0, .ref 143), (1, .int (xs 1)), (2, .int (xs 2))]) (st' := [.int (5 : Int32), .int (0 : Int32), .int (xs 2)]) rfl ?_
            refine w_cs (As := [.int (xs 2), .int (0 : Int32), .int (5 : Int32)]) (rest := []) (j := 159) (L0 := [(0, .int (xs 2)), (1, .int (0 : Int32)), (2, .int (5 : Int32))]) (pc' := 6) (L' := [(0, .ref 143), (1, .int (xs 1)), (2, .int (xs 2))]) h_m256 (z_at.mk 3 rfl rfl) (Or.inl ⟨rfl, rfl⟩) rfl rfl rfl rfl rfl ?_
            refine w_p h_m159 2 (pc' := 2) (L' := [(0, .int (xs 2)), (1, .int (0 : Int32)), (2, .int (5 : Int32))]) (st' := [.int (0 : Int32), .int (xs 2)]) rfl ?_
            refine w_f2 (pc' := 5) (L' := [(0, .int (xs 2)), (1, .int (0 : Int32)), (2, .int (5 : Int32))]) h_m159 (z_at.mk 3 rfl rfl) rfl (zc (a := (xs 2).toInt) (b := 0) rfl rfl (decide_eq_false (by omega))) rfl rfl ?_
            refine w_p h_m159 2 (pc' := 7) (L' := [(0, .int (xs 2)), (1, .int (0 : Int32)), (2, .int (5 : Int32))]) (st' := [.int (5 : Int32), .int (xs 2)]) rfl ?_
            refine w_f2 (pc' := 10) (L' := [(0, .int (xs 2)), (1, .int (0 : Int32)), (2, .int (5 : Int32))]) h_m159 (z_at.mk 3 rfl rfl) rfl (zc (a := (xs 2).toInt) (b := 5) rfl rfl (decide_eq_false (by omega))) rfl rfl ?_
            refine w_p h_m159 2 (pc' := 15) (L' := []) (st' := [.int (1 : Int32)]) rfl ?_
            refine w_ri h_m159 (z_at.mk 1 rfl rfl) rfl rfl ?_
            show z_W 999 256 6 [(0, .ref 143), (1, .int (xs 1)), (2, .int (xs 2))] [.int (1 : Int32)] m _
            refine w_p h_m256 4 (pc' := 17) (L' := [(0, .ref 143), (1, .int (xs 1)), (2, .int (xs 2))]) (st' := [.int (99 : Int32), .int (1 : Int32), .int (xs 1)]) rfl ?_
            refine w_cs (As := [.int (xs 1), .int (1 : Int32), .int (99 : Int32)]) (rest := []) (j := 159) (L0 := [(0, .int (xs 1)), (1, .int (1 : Int32)), (2, .int (99 : Int32))]) (pc' := 20) (L' := [(0, .ref 143), (1, .int (xs 1)), (2, .int (xs 2))]) h_m256 (z_at.mk 3 rfl rfl) (Or.inl ⟨rfl, rfl⟩) rfl rfl rfl rfl rfl ?_
            refine w_p h_m159 2 (pc' := 2) (L' := [(0, .int (xs 1)), (1, .int (1 : Int32)), (2, .int (99 : Int32))]) (st' := [.int (1 : Int32), .int (xs 1)]) rfl ?_
            refine w_f2 (pc' := 5) (L' := [(0, .int (xs 1)), (1, .int (1 : Int32)), (2, .int (99 : Int32))]) h_m159 (z_at.mk 3 rfl rfl) rfl (zc (a := (xs 1).toInt) (b := 1) rfl rfl (decide_eq_false (by omega))) rfl rfl ?_
            refine w_p h_m159 2 (pc' := 7) (L' := [(0, .int (xs 1)), (1, .int (1 : Int32)), (2, .int (99 : Int32))]) (st' := [.int (99 : Int32), .int (xs 1)]) rfl ?_
            refine w_f2 (pc' := 10) (L' := [(0, .int (xs 1)), (1, .int (1 : Int32)), (2, .int (99 : Int32))]) h_m159 (z_at.mk 3 rfl rfl) rfl (zc (a := (xs 1).toInt) (b := 99) rfl rfl (decide_eq_false (by omega))) rfl rfl ?_
            refine w_p h_m159 2 (pc' := 15) (L' := []) (st' := [.int (1 : Int32)]) rfl ?_
            refine w_ri h_m159 (z_at.mk 1 rfl rfl) rfl rfl ?_
            show z_W 999 256 20 [(0, .ref 143), (1, .int (xs 1)), (2, .int (xs 2))] [.int (1 : Int32)] m _
            refine w_p h_m256 4 (pc' := 31) (L' := [(0, .ref 143), (1, .int (xs 1)), (2, .int (xs 2))]) (st' := [.int (xs 2), .int (xs 1), .ref 143]) rfl ?_
            refine w_cv (H.t rfl) (pc' := 34) (L' := []) (rest := []) (Ps := [.int (xs 1), .int (xs 2)]) (L0 := [(0, .ref 143), (1, .int (xs 1)), (2, .int (xs 2))]) h_m256 (z_at.mk 3 rfl rfl) (Or.inl ⟨rfl, rfl⟩) rfl rfl (by decide) (by decide) rfl rfl rfl rfl rfl rfl (by decide) rfl rfl rfl ?_
            refine w_p h_m255 2 (pc' := 2) (L' := [(0, .ref 143), (1, .int (xs 1)), (2, .int (xs 2))]) (st' := [.ref 143, .ref 143]) rfl ?_
            refine w_gf H (pc' := 5) (L' := [(0, .ref 143), (1, .int (xs 1)), (2, .int (xs 2))]) h_m255 (z_at.mk 3 rfl rfl) rfl (u := .ref 146) rfl rfl rfl ?_
            refine w_p h_m255 1 (pc' := 6) (L' := [(0, .ref 143), (1, .int (xs 1)), (2, .int (xs 2))]) (st' := [.ref 143, .ref 146, .ref 143]) rfl ?_
            refine w_gf H (pc' := 9) (L' := [(0, .ref 143), (1, .int (xs 1)), (2, .int (xs 2))]) h_m255 (z_at.mk 3 rfl rfl) rfl (u := .ref 149) rfl rfl rfl ?_
            refine w_cv (H.t rfl) (pc' := 12) (L' := [(0, .ref 143), (1, .int (xs 1)), (2, .int (xs 2))]) (rest := []) (Ps := [.ref 146, .ref 149]) (L0 := [(0, .ref 143), (1, .ref 146), (2, .ref 149)]) h_m255 (z_at.mk 3 rfl rfl) (Or.inl ⟨rfl, rfl⟩) rfl rfl (by decide) (by decide) rfl rfl rfl rfl rfl rfl (by decide) rfl rfl rfl ?_
            refine w_keeps H (b1 := 146) (b2 := 149) (ra := (0, 2740, [(17, .int (1024 : Int32)), (16, .int (1 : Int32)), (15, .int (1 : Int32)), (13, .int (12 : Int32)), (12, .int (40 : Int32)), (11, .int (10 : Int32))], some (.int (0 : Int32)))) (rb := (1, 361, [], some (.long (0 : Int64)))) rfl rfl rfl rfl rfl rfl rfl rfl (by decide) (by decide) (by decide) (by decide) ?_
            clear H m; intro m H
            show z_W 998 255 12 [(0, .ref 143), (1, .int (xs 1)), (2, .int (xs 2))] [] m _
            refine w_p h_m255 1 (pc' := 13) (L' := [(0, .ref 143), (1, .int (xs 1)), (2, .int (xs 2))]) (st' := [.ref 143]) rfl ?_
            refine w_gf H (pc' := 16) (L' := [(0, .ref 143), (1, .int (xs 1)), (2, .int (xs 2))]) h_m255 (z_at.mk 3 rfl rfl) rfl (u := .ref 144) rfl rfl rfl ?_
            refine w_p h_m255 2 (pc' := 18) (L' := [(0, .ref 143), (1, .int (xs 1)), (2, .int (xs 2))]) (st' := [.int (0 : Int32), .int (0 : Int32), .ref 144]) rfl ?_
            refine w_as H (t := 0) (j := 0) (u := .int (0 : Int32)) (0, 2740, [(0, .int (0 : Int32)), (17, .int (1024 : Int32)), (16, .int (1 : Int32)), (15, .int (1 : Int32)), (13, .int (12 : Int32)), (12, .int (40 : Int32)), (11, .int (10 : Int32))], some (.int (0 : Int32))) (pc' := 19) (L' := [(0, .ref 143), (1, .int (xs 1)), (2, .int (xs 2))]) h_m255 (z_at.mk 1 rfl rfl) rfl rfl (w_ui _ _ (by decide)) rfl rfl rfl rfl ?_
            clear H m; intro m H
            refine w_p h_m255 1 (pc' := 20) (L' := [(0, .ref 143), (1, .int (xs 1)), (2, .int (xs 2))]) (st' := [.ref 143]) rfl ?_
            refine w_gf H (pc' := 23) (L' := [(0, .ref 143), (1, .int (xs 1)), (2, .int (xs 2))]) h_m255 (z_at.mk 3 rfl rfl) rfl (u := .ref 147) rfl rfl rfl ?_
            refine w_p h_m255 2 (pc' := 25) (L' := [(0, .ref 143), (1, .int (xs 1)), (2, .int (xs 2))]) (st' := [.long (0 : Int64), .int (0 : Int32), .ref 147]) rfl ?_
            refine w_as H (t := 1) (j := 0) (u := .long (0 : Int64)) (1, 361, [(0, .long (0 : Int64))], some (.long (0 : Int64))) (pc' := 26) (L' := [(0, .ref 143), (1, .int (xs 1)), (2, .int (xs 2))]) h_m255 (z_at.mk 1 rfl rfl) rfl rfl (w_ul _) rfl rfl rfl rfl ?_
            clear H m; intro m H
            refine w_p h_m255 6 (pc' := 35) (L' := [(0, .ref 143), (1, .int (xs 1)), (2, .int (xs 2)), (3, .int (2 : Int32))]) (st' := [.ref 143]) rfl ?_
            refine w_gf H (pc' := 38) (L' := [(0, .ref 143), (1, .int (xs 1)), (2, .int (xs 2)), (3, .int (2 : Int32))]) h_m255 (z_at.mk 3 rfl rfl) rfl (u := .ref 144) rfl rfl rfl ?_
            refine w_p h_m255 2 (pc' := 40) (L' := [(0, .ref 143), (1, .int (xs 1)), (2, .int (xs 2)), (3, .int (2 : Int32))]) (st' := [.int (0 : Int32), .int (2 : Int32), .ref 144]) rfl ?_
            refine w_as H (t := 0) (j := 2) (u := .int (0 : Int32)) (0, 2740, [(2, .int (0 : Int32)), (0, .int (0 : Int32)), (17, .int (1024 : Int32)), (16, .int (1 : Int32)), (15, .int (1 : Int32)), (13, .int (12 : Int32)), (12, .int (40 : Int32)), (11, .int (10 : Int32))], some (.int (0 : Int32))) (pc' := 41) (L' := [(0, .ref 143), (1, .int (xs 1)), (2, .int (xs 2)), (3, .int (2 : Int32))]) h_m255 (z_at.mk 1 rfl rfl) rfl rfl (w_ui _ _ (by decide)) rfl rfl rfl rfl ?_
            clear H m; intro m H
            refine w_p h_m255 6 (pc' := 35) (L' := [(0, .ref 143), (1, .int (xs 1)), (2, .int (xs 2)), (3, .int (3 : Int32))]) (st' := [.ref 143]) rfl ?_
            refine w_gf H (pc' := 38) (L' := [(0, .ref 143), (1, .int (xs 1)), (2, .int (xs 2)), (3, .int (3 : Int32))]) h_m255 (z_at.mk 3 rfl rfl) rfl (u := .ref 144) rfl rfl rfl ?_
            refine w_p h_m255 2 (pc' := 40) (L' := [(0, .ref 143), (1, .int (xs 1)), (2, .int (xs 2)), (3, .int (3 : Int32))]) (st' := [.int (0 : Int32), .int (3 : Int32), .ref 144]) rfl ?_
            refine w_as H (t := 0) (j := 3) (u := .int (0 : Int32)) (0, 2740, [(3, .int (0 : Int32)), (2, .int (0 : Int32)), (0, .int (0 : Int32)), (17, .int (1024 : Int32)), (16, .int (1 : Int32)), (15, .int (1 : Int32)), (13, .int (12 : Int32)), (12, .int (40 : Int32)), (11, .int (10 : Int32))], some (.int (0 : Int32))) (pc' := 41) (L' := [(0, .ref 143), (1, .int (xs 1)), (2, .int (xs 2)), (3, .int (3 : Int32))]) h_m255 (z_at.mk 1 rfl rfl) rfl rfl (w_ui _ _ (by decide)) rfl rfl rfl rfl ?_
            clear H m; intro m H
            refine w_p h_m255 6 (pc' := 35) (L' := [(0, .ref 143), (1, .int (xs 1)), (2, .int (xs 2)), (3, .int (4 : Int32))]) (st' := [.ref 143]) rfl ?_
            refine w_gf H (pc' := 38) (L' := [(0, .ref 143), (1, .int (xs 1)), (2, .int (xs 2)), (3, .int (4 : Int32))]) h_m255 (z_at.mk 3 rfl rfl) rfl (u := .ref 144) rfl rfl rfl ?_
            refine w_p h_m255 2 (pc' := 40) (L' := [(0, .ref 143), (1, .int (xs 1)), (2, .int (xs 2)), (3, .int (4 : Int32))]) (st' := [.int (0 : Int32), .int (4 : Int32), .ref 144]) rfl ?_
            refine w_as H (t := 0) (j := 4) (u := .int (0 : Int32)) (0, 2740, [(4, .int (0 : Int32)), (3, .int (0 : Int32)), (2, .int (0 : Int32)), (0, .int (0 : Int32)), (17, .int (1024 : Int32)), (16, .int (1 : Int32)), (15, .int (1 : Int32)), (13, .int (12 : Int32)), (12, .int (40 : Int32)), (11, .int (10 : Int32))], some (.int (0 : Int32))) (pc' := 41) (L' := [(0, .ref 143), (1, .int (xs 1)), (2, .int (xs 2)), (3, .int (4 : Int32))]) h_m255 (z_at.mk 1 rfl rfl) rfl rfl (w_ui _ _ (by decide)) rfl rfl rfl rfl ?_
            clear H m; intro m H
            refine w_p h_m255 6 (pc' := 35) (L' := [(0, .ref 143), (1, .int (xs 1)), (2, .int (xs 2)), (3, .int (5 : Int32))]) (st' := [.ref 143]) rfl ?_
            refine w_gf H (pc' := 38) (L' := [(0, .ref 143), (1, .int (xs 1)), (2, .int (xs 2)), (3, .int (5 : Int32))]) h_m255 (z_at.mk 3 rfl rfl) rfl (u := .ref 144) rfl rfl rfl ?_
            refine w_p h_m255 2 (pc' := 40) (L' := [(0, .ref 143), (1, .int (xs 1)), (2, .int (xs 2)), (3, .int (5 : Int32))]) (st' := [.int (0 : Int32), .int (5 : Int32), .ref 144]) rfl ?_
            refine w_as H (t := 0) (j := 5) (u := .int (0 : Int32)) (0, 2740, [(5, .int (0 : Int32)), (4, .int (0 : Int32)), (3, .int (0 : Int32)), (2, .int (0 : Int32)), (0, .int (0 : Int32)), (17, .int (1024 : Int32)), (16, .int (1 : Int32)), (15, .int (1 : Int32)), (13, .int (12 : Int32)), (12, .int (40 : Int32)), (11, .int (10 : Int32))], some (.int (0 : Int32))) (pc' := 41) (L' := [(0, .ref 143), (1, .int (xs 1)), (2, .int (xs 2)), (3, .int (5 : Int32))]) h_m255 (z_at.mk 1 rfl rfl) rfl rfl (w_ui _ _ (by decide)) rfl rfl rfl rfl ?_
            clear H m; intro m H
            refine w_p h_m255 6 (pc' := 35) (L' := [(0, .ref 143), (1, .int (xs 1)), (2, .int (xs 2)), (3, .int (6 : Int32))]) (st' := [.ref 143]) rfl ?_
            refine w_gf H (pc' := 38) (L' := [(0, .ref 143), (1, .int (xs 1)), (2, .int (xs 2)), (3, .int (6 : Int32))]) h_m255 (z_at.mk 3 rfl rfl) rfl (u := .ref 144) rfl rfl rfl ?_
            refine w_p h_m255 2 (pc' := 40) (L' := [(0, .ref 143), (1, .int (xs 1)), (2, .int (xs 2)), (3, .int (6 : Int32))]) (st' := [.int (0 : Int32), .int (6 : Int32), .ref 144]) rfl ?_
            refine w_as H (t := 0) (j := 6) (u := .int (0 : Int32)) (0, 2740, [(6, .int (0 : Int32)), (5, .int (0 : Int32)), (4, .int (0 : Int32)), (3, .int (0 : Int32)), (2, .int (0 : Int32)), (0, .int (0 : Int32)), (17, .int (1024 : Int32)), (16, .int (1 : Int32)), (15, .int (1 : Int32)), (13, .int (12 : Int32)), (12, .int (40 : Int32)), (11, .int (10 : Int32))], some (.int (0 : Int32))) (pc' := 41) (L' := [(0, .ref 143), (1, .int (xs 1)), (2, .int (xs 2)), (3, .int (6 : Int32))]) h_m255 (z_at.mk 1 rfl rfl) rfl rfl (w_ui _ _ (by decide)) rfl rfl rfl rfl ?_
            clear H m; intro m H
            refine w_p h_m255 6 (pc' := 35) (L' := [(0, .ref 143), (1, .int (xs 1)), (2, .int (xs 2)), (3, .int (7 : Int32))]) (st' := [.ref 143]) rfl ?_
            refine w_gf H (pc' := 38) (L' := [(0, .ref 143), (1, .int (xs 1)), (2, .int (xs 2)), (3, .int (7 : Int32))]) h_m255 (z_at.mk 3 rfl rfl) rfl (u := .ref 144) rfl rfl rfl ?_
            refine w_p h_m255 2 (pc' := 40) (L' := [(0, .ref 143), (1, .int (xs 1)), (2, .int (xs 2)), (3, .int (7 : Int32))]) (st' := [.int (0 : Int32), .int (7 : Int32), .ref 144]) rfl ?_
            refine w_as H (t := 0) (j := 7) (u := .int (0 : Int32)) (0, 2740, [(7, .int (0 : Int32)), (6, .int (0 : Int32)), (5, .int (0 : Int32)), (4, .int (0 : Int32)), (3, .int (0 : Int32)), (2, .int (0 : Int32)), (0, .int (0 : Int32)), (17, .int (1024 : Int32)), (16, .int (1 : Int32)), (15, .int (1 : Int32)), (13, .int (12 : Int32)), (12, .int (40 : Int32)), (11, .int (10 : Int32))], some (.int (0 : Int32))) (pc' := 41) (L' := [(0, .ref 143), (1, .int (xs 1)), (2, .int (xs 2)), (3, .int (7 : Int32))]) h_m255 (z_at.mk 1 rfl rfl) rfl rfl (w_ui _ _ (by decide)) rfl rfl rfl rfl ?_
            clear H m; intro m H
            refine w_p h_m255 6 (pc' := 48) (L' := [(0, .ref 143), (1, .int (xs 1)), (2, .int (xs 2)), (3, .int (8 : Int32))]) (st' := [.ref 143]) rfl ?_
            refine w_gf H (pc' := 51) (L' := [(0, .ref 143), (1, .int (xs 1)), (2, .int (xs 2)), (3, .int (8 : Int32))]) h_m255 (z_at.mk 3 rfl rfl) rfl (u := .ref 144) rfl rfl rfl ?_
            refine w_p h_m255 2 (pc' := 54) (L' := [(0, .ref 143), (1, .int (xs 1)), (2, .int (xs 2)), (3, .int (8 : Int32))]) (st' := [.int (xs 1), .int (12 : Int32), .ref 144]) rfl ?_
            refine w_as H (t := 0) (j := 12) (u := .int (xs 1)) (0, 2740, [(12, .int (xs 1)), (7, .int (0 : Int32)), (6, .int (0 : Int32)), (5, .int (0 : Int32)), (4, .int (0 : Int32)), (3, .int (0 : Int32)), (2, .int (0 : Int32)), (0, .int (0 : Int32)), (17, .int (1024 : Int32)), (16, .int (1 : Int32)), (15, .int (1 : Int32)), (13, .int (12 : Int32)), (11, .int (10 : Int32))], some (.int (0 : Int32))) (pc' := 55) (L' := [(0, .ref 143), (1, .int (xs 1)), (2, .int (xs 2)), (3, .int (8 : Int32))]) h_m255 (z_at.mk 1 rfl rfl) rfl rfl (w_ui _ _ (by decide)) rfl rfl rfl rfl ?_
            clear H m; intro m H
            refine w_p h_m255 4 (pc' := 59) (L' := [(0, .ref 143), (2, .int (xs 2)), (3, .int (0 : Int32))]) (st' := [.ref 143, .int (0 : Int32)]) rfl ?_
            refine w_gf H (pc' := 62) (L' := [(0, .ref 143), (2, .int (xs 2)), (3, .int (0 : Int32))]) h_m255 (z_at.mk 3 rfl rfl) rfl (u := .ref 144) rfl rfl rfl ?_
            refine w_p h_m255 1 (pc' := 64) (L' := [(0, .ref 143), (2, .int (xs 2)), (3, .int (0 : Int32))]) (st' := [.int (9 : Int32), .ref 144, .int (0 : Int32)]) rfl ?_
            refine w_al H (t := 0) (j := 9) (pc' := 65) (L' := [(0, .ref 143), (2, .int (xs 2)), (3, .int (0 : Int32))]) h_m255 (z_at.mk 1 rfl rfl) rfl rfl rfl (u := .int (0 : Int32)) rfl rfl rfl ?_
            refine w_p h_m255 2 (pc' := 98) (L' := [(0, .ref 143), (2, .int (xs 2)), (3, .int (0 : Int32))]) (st' := [.int (xs 2)]) rfl ?_
            refine w_f1 (pc' := 101) (L' := [(0, .ref 143), (2, .int (xs 2)), (3, .int (0 : Int32))]) h_m255 (z_at.mk 3 rfl rfl) rfl (zc (a := (xs 2).toInt) (b := 0) rfl rfl (decide_eq_false (by omega))) rfl rfl ?_
            refine w_p h_m255 1 (pc' := 102) (L' := [(0, .ref 143), (2, .int (xs 2)), (3, .int (0 : Int32))]) (st' := [.ref 143]) rfl ?_
            refine w_gf H (pc' := 105) (L' := [(0, .ref 143), (2, .int (xs 2)), (3, .int (0 : Int32))]) h_m255 (z_at.mk 3 rfl rfl) rfl (u := .ref 144) rfl rfl rfl ?_
            refine w_p h_m255 1 (pc' := 106) (L' := [(0, .ref 143), (2, .int (xs 2)), (3, .int (0 : Int32))]) (st' := [.int (3 : Int32), .ref 144]) rfl ?_
            refine w_al H (t := 0) (j := 3) (pc' := 107) (L' := [(0, .ref 143), (2, .int (xs 2)), (3, .int (0 : Int32))]) h_m255 (z_at.mk 1 rfl rfl) rfl rfl rfl (u := .int (0 : Int32)) rfl rfl rfl ?_
            refine w_p h_m255 4 (pc' := 151) (L' := [(3, .int (0 : Int32)), (0, .ref 143)]) (st' := [.ref 143, .ref 143]) rfl ?_
            refine w_gf H (pc' := 154) (L' := [(3, .int (0 : Int32)), (0, .ref 143)]) h_m255 (z_at.mk 3 rfl rfl) rfl (u := .ref 146) rfl rfl rfl ?_
            refine w_p h_m255 1 (pc' := 155) (L' := [(3, .int (0 : Int32)), (0, .ref 143)]) (st' := [.ref 143, .ref 146, .ref 143]) rfl ?_
            refine w_gf H (pc' := 158) (L' := [(3, .int (0 : Int32)), (0, .ref 143)]) h_m255 (z_at.mk 3 rfl rfl) rfl (u := .ref 149) rfl rfl rfl ?_
            refine w_cv (H.t rfl) (pc' := 161) (L' := [(3, .int (0 : Int32)), (0, .ref 143)]) (rest := []) (Ps := [.ref 146, .ref 149]) (L0 := [(0, .ref 143), (1, .ref 146), (2, .ref 149)]) h_m255 (z_at.mk 3 rfl rfl) (Or.inl ⟨rfl, rfl⟩) rfl rfl (by decide) (by decide) rfl rfl rfl rfl rfl rfl (by decide) rfl rfl rfl ?_
            refine w_back H (b1 := 146) (b2 := 149) (ra := (0, 2740, [(17, .int (1024 : Int32)), (16, .int (1 : Int32)), (15, .int (1 : Int32)), (13, .int (12 : Int32)), (12, .int (40 : Int32)), (11, .int (10 : Int32))], some (.int (0 : Int32)))) (rb := (1, 361, [], some (.long (0 : Int64)))) rfl rfl rfl rfl rfl rfl rfl rfl (by decide) (by decide) (by decide) (by decide) ?_
            clear H m; intro m H
            show z_W 998 255 161 [(3, .int (0 : Int32)), (0, .ref 143)] [] m _
            refine w_p h_m255 1 (pc' := 162) (L' := [(3, .int (0 : Int32)), (0, .ref 143)]) (st' := [.int (0 : Int32)]) rfl ?_
            refine w_ri h_m255 (z_at.mk 1 rfl rfl) rfl rfl ?_
            show z_W 999 256 34 [] [.int (0 : Int32)] m _
            refine w_ri h_m256 (z_at.mk 1 rfl rfl) rfl rfl ?_
            show z_W 1000 1000 941 [(0, .ref 0), (1, .ref 39), (2, .ref 143), (3, .int (0 : Int32))] [.int (0 : Int32), .int (0 : Int32)] m _
            refine w_p h_m1000 5 (pc' := 20) (L' := [(0, .ref 0), (1, .ref 39), (2, .ref 143), (3, .int (6 : Int32))]) (st' := [.ref 0, .int (6 : Int32)]) rfl ?_
            refine w_lene H (x := (6 : Int32)) (pc' := 21) (L' := [(0, .ref 0), (1, .ref 39), (2, .ref 143), (3, .int (6 : Int32))]) h_m1000 (z_at.mk 1 rfl rfl) (by decide) rfl (by decide) rfl rfl rfl ?_
            refine w_p h_m1000 4 (pc' := 1381) (L' := [(0, .ref 0), (1, .ref 39), (2, .ref 143), (3, .int (6 : Int32))]) (st' := [.int (1 : Int32)]) rfl ?_
            refine w_ri h_m1000 (z_at.mk 1 rfl rfl) rfl rfl ?_
            exact hQ _ _ _ _ H (by decide) (by decide)
          by_cases c_6 : (xs 2).toInt = 1
          · refine w_sw (off := 41) (pc' := 72) (L' := [(0, .ref 39), (1, .int (xs 1)), (2, .int (xs 2))]) h_m144 (z_at.mk 33 rfl rfl) (z_off_v (v := 1) c_6 (by decide)) rfl rfl rfl ?_
            refine w_p h_m144 1 (pc' := 73) (L' := [(0, .ref 39), (1, .int (xs 1)), (2, .int (xs 2))]) (st' := [.ref 39]) rfl ?_
            refine w_gf H (pc' := 76) (L' := [(0, .ref 39), (1, .int (xs 1)), (2, .int (xs 2))]) h_m144 (z_at.mk 3 rfl rfl) rfl (u := .ref 106) rfl rfl rfl ?_
            refine w_gf H (pc' := 79) (L' := [(0, .ref 39), (1, .int (xs 1)), (2, .int (xs 2))]) h_m144 (z_at.mk 3 rfl rfl) rfl (u := .int (0 : Int32)) rfl rfl rfl ?_
            refine w_ri h_m144 (z_at.mk 1 rfl rfl) rfl rfl ?_
            show z_W 1000 1000 927 [(0, .ref 0), (1, .ref 39), (2, .ref 143), (3, .int (0 : Int32))] [.int (0 : Int32)] m _
            refine w_p h_m1000 5 (pc' := 932) (L' := [(0, .ref 0), (1, .ref 39), (2, .ref 143), (3, .int (0 : Int32))]) (st' := [.int (1 : Int32), .ref 0, .ref 143, .int (0 : Int32)]) rfl ?_
            refine w_ae H (j := 1) (pc' := 933) (L' := [(0, .ref 0), (1, .ref 39), (2, .ref 143), (3, .int (0 : Int32))]) h_m1000 (z_at.mk 1 rfl rfl) rfl rfl rfl (by decide) rfl (by decide) rfl rfl rfl ?_
            refine w_p h_m1000 4 (pc' := 937) (L' := [(0, .ref 0), (1, .ref 39), (2, .ref 143), (3, .int (0 : Int32))]) (st' := [.int (2 : Int32), .ref 0, .int (xs 1), .ref 143, .int (0 : Int32)]) rfl ?_
            refine w_ae H (j := 2) (pc' := 938) (L' := [(0, .ref 0), (1, .ref 39), (2, .ref 143), (3, .int (0 : Int32))]) h_m1000 (z_at.mk 1 rfl rfl) rfl rfl rfl (by decide) rfl (by decide) rfl rfl rfl ?_
            refine w_cv (H.t rfl) (pc' := 941) (L' := [(0, .ref 0), (1, .ref 39), (2, .ref 143), (3, .int (0 : Int32))]) (rest := [.int (0 : Int32)]) (Ps := [.int (xs 1), .int (xs 2)]) (L0 := [(0, .ref 143), (1, .int (xs 1)), (2, .int (xs 2))]) h_m1000 (z_at.mk 3 rfl rfl) (Or.inl ⟨rfl, rfl⟩) rfl rfl (by decide) (by decide) rfl rfl rfl rfl rfl rfl (by decide) rfl rfl rfl ?_
            refine w_p h_m256 3 (pc' := 3) (L' := [(0, .ref 143), (1, .int (xs 1)), (2, .int (xs 2))]) (st' := [.int (5 : Int32), .int (0 : Int32), .int (xs 2)]) rfl ?_
            refine w_cs (As := [.int (xs 2), .int (0 : Int32), .int (5 : Int32)]) (rest := []) (j := 159) (L0 := [(0, .int (xs 2)), (1, .int (0 : Int32)), (2, .int (5 : Int32))]) (pc' := 6) (L' := [(0, .ref 143), (1, .int (xs 1)), (2, .int (xs 2))]) h_m256 (z_at.mk 3 rfl rfl) (Or.inl ⟨rfl, rfl⟩) rfl rfl rfl rfl rfl ?_
            refine w_p h_m159 2 (pc' := 2) (L' := [(0, .int (xs 2)), (1, .int (0 : Int32)), (2, .int (5 : Int32))]) (st' := [.int (0 : Int32), .int (xs 2)]) rfl ?_
            refine w_f2 (pc' := 5) (L' := [(0, .int (xs 2)), (1, .int (0 : Int32)), (2, .int (5 : Int32))]) h_m159 (z_at.mk 3 rfl rfl) rfl (zc (a := (xs 2).toInt) (b := 0) rfl rfl (decide_eq_false (by omega))) rfl rfl ?_
            refine w_p h_m159 2 (pc' := 7) (L' := [(0, .int (xs 2)), (1, .int (0 : Int32)), (2, .int (5 : Int32))]) (st' := [.int (5 : Int32), .int (xs 2)]) rfl ?_
            refine w_f2 (pc' := 10) (L' := [(0, .int (xs 2)), (1, .int (0 : Int32)), (2, .int (5 : Int32))]) h_m159 (z_at.mk 3 rfl rfl) rfl (zc (a := (xs 2).toInt) (b := 5) rfl rfl (decide_eq_false (by omega))) rfl rfl ?_
            refine w_p h_m159 2 (pc' := 15) (L' := []) (st' := [.int (1 : Int32)]) rfl ?_
            refine w_ri h_m159 (z_at.mk 1 rfl rfl) rfl rfl ?_
            show z_W 999 256 6 [(0, .ref 143), (1, .int (xs 1)), (2, .int (xs 2))] [.int (1 : Int32)] m _
            refine w_p h_m256 4 (pc' := 17) (L' := [(0, .ref 143), (1, .int (xs 1)), (2, .int (xs 2))]) (st' := [.int (99 : Int32), .int (1 : Int32), .int (xs 1)]) rfl ?_
            refine w_cs (As := [.int (xs 1), .int (1 : Int32), .int (99 : Int32)]) (rest := []) (j := 159) (L0 := [(0, .int (xs 1)), (1, .int (1 : Int32)), (2, .int (99 : Int32))]) (pc' := 20) (L' := [(0, .ref 143), (1, .int (xs 1)), (2, .int (xs 2))]) h_m256 (z_at.mk 3 rfl rfl) (Or.inl ⟨rfl, rfl⟩) rfl rfl rfl rfl rfl ?_
            refine w_p h_m159 2 (pc' := 2) (L' := [(0, .int (xs 1)), (1, .int (1 : Int32)), (2, .int (99 : Int32))]) (st' := [.int (1 : Int32), .int (xs 1)]) rfl ?_
            refine w_f2 (pc' := 5) (L' := [(0, .int (xs 1)), (1, .int (1 : Int32)), (2, .int (99 : Int32))]) h_m159 (z_at.mk 3 rfl rfl) rfl (zc (a := (xs 1).toInt) (b := 1) rfl rfl (decide_eq_false (by omega))) rfl rfl ?_
            refine w_p h_m159 2 (pc' := 7) (L' := [(0, .int (xs 1)), (1, .int (1 : Int32)), (2, .int (99 : Int32))]) (st' := [.int (99 : Int32), .int (xs 1)]) rfl ?_
            refine w_f2 (pc' := 10) (L' := [(0, .int (xs 1)), (1, .int (1 : Int32)), (2, .int (99 : Int32))]) h_m159 (z_at.mk 3 rfl rfl) rfl (zc (a := (xs 1).toInt) (b := 99) rfl rfl (decide_eq_false (by omega))) rfl rfl ?_
            refine w_p h_m159 2 (pc' := 15) (L' := []) (st' := [.int (1 : Int32)]) rfl ?_
            refine w_ri h_m159 (z_at.mk 1 rfl rfl) rfl rfl ?_
            show z_W 999 256 20 [(0, .ref 143), (1, .int (xs 1)), (2, .int (xs 2))] [.int (1 : Int32)] m _
            refine w_p h_m256 4 (pc' := 31) (L' := [(0, .ref 143), (1, .int (xs 1)), (2, .int (xs 2))]) (st' := [.int (xs 2), .int (xs 1), .ref 143]) rfl ?_
            refine w_cv (H.t rfl) (pc' := 34) (L' := []) (rest := []) (Ps := [.int (xs 1), .int (xs 2)]) (L0 := [(0, .ref 143), (1, .int (xs 1)), (2, .int (xs 2))]) h_m256 (z_at.mk 3 rfl rfl) (Or.inl ⟨rfl, rfl⟩) rfl rfl (by decide) (by decide) rfl rfl rfl rfl rfl rfl (by decide) rfl rfl rfl ?_
            refine w_p h_m255 2 (pc' := 2) (L' := [(0, .ref 143), (1, .int (xs 1)), (2, .int (xs 2))]) (st' := [.ref 143, .ref 143]) rfl ?_
            refine w_gf H (pc' := 5) (L' := [(0, .ref 143), (1, .int (xs 1)), (2, .int (xs 2))]) h_m255 (z_at.mk 3 rfl rfl) rfl (u := .ref 146) rfl rfl rfl ?_
            refine w_p h_m255 1 (pc' := 6) (L' := [(0, .ref 143), (1, .int (xs 1)), (2, .int (xs 2))]) (st' := [.ref 143, .ref 146, .ref 143]) rfl ?_
            refine w_gf H (pc' := 9) (L' := [(0, .ref 143), (1, .int (xs 1)), (2, .int (xs 2))]) h_m255 (z_at.mk 3 rfl rfl) rfl (u := .ref 149) rfl rfl rfl ?_
            refine w_cv (H.t rfl) (pc' := 12) (L' := [(0, .ref 143), (1, .int (xs 1)), (2, .int (xs 2))]) (rest := []) (Ps := [.ref 146, .ref 149]) (L0 := [(0, .ref 143), (1, .ref 146), (2, .ref 149)]) h_m255 (z_at.mk 3 rfl rfl) (Or.inl ⟨rfl, rfl⟩) rfl rfl (by decide) (by decide) rfl rfl rfl rfl rfl rfl (by decide) rfl rfl rfl ?_
            refine w_keeps H (b1 := 146) (b2 := 149) (ra := (0, 2740, [(17, .int (1024 : Int32)), (16, .int (1 : Int32)), (15, .int (1 : Int32)), (13, .int (12 : Int32)), (12, .int (40 : Int32)), (11, .int (10 : Int32))], some (.int (0 : Int32)))) (rb := (1, 361, [], some (.long (0 : Int64)))) rfl rfl rfl rfl rfl rfl rfl rfl (by decide) (by decide) (by decide) (by decide) ?_
            clear H m; intro m H
            show z_W 998 255 12 [(0, .ref 143), (1, .int (xs 1)), (2, .int (xs 2))] [] m _
            refine w_p h_m255 1 (pc' := 13) (L' := [(0, .ref 143), (1, .int (xs 1)), (2, .int (xs 2))]) (st' := [.ref 143]) rfl ?_
            refine w_gf H (pc' := 16) (L' := [(0, .ref 143), (1, .int (xs 1)), (2, .int (xs 2))]) h_m255 (z_at.mk 3 rfl rfl) rfl (u := .ref 144) rfl rfl rfl ?_
            refine w_p h_m255 2 (pc' := 18) (L' := [(0, .ref 143), (1, .int (xs 1)), (2, .int (xs 2))]) (st' := [.int (0 : Int32), .int (0 : Int32), .ref 144]) rfl ?_
            refine w_as H (t := 0) (j := 0) (u := .int (0 : Int32)) (0, 2740, [(0, .int (0 : Int32)), (17, .int (1024 : Int32)), (16, .int (1 : Int32)), (15, .int (1 : Int32)), (13, .int (12 : Int32)), (12, .int (40 : Int32)), (11, .int (10 : Int32))], some (.int (0 : Int32))) (pc' := 19) (L' := [(0, .ref 143), (1, .int (xs 1)), (2, .int (xs 2))]) h_m255 (z_at.mk 1 rfl rfl) rfl rfl (w_ui _ _ (by decide)) rfl rfl rfl rfl ?_
            clear H m; intro m H
            refine w_p h_m255 1 (pc' := 20) (L' := [(0, .ref 143), (1, .int (xs 1)), (2, .int (xs 2))]) (st' := [.ref 143]) rfl ?_
            refine w_gf H (pc' := 23) (L' := [(0, .ref 143), (1, .int (xs 1)), (2, .int (xs 2))]) h_m255 (z_at.mk 3 rfl rfl) rfl (u := .ref 147) rfl rfl rfl ?_
            refine w_p h_m255 2 (pc' := 25) (L' := [(0, .ref 143), (1, .int (xs 1)), (2, .int (xs 2))]) (st' := [.long (0 : Int64), .int (0 : Int32), .ref 147]) rfl ?_
            refine w_as H (t := 1) (j := 0) (u := .long (0 : Int64)) (1, 361, [(0, .long (0 : Int64))], some (.long (0 : Int64))) (pc' := 26) (L' := [(0, .ref 143), (1, .int (xs 1)), (2, .int (xs 2))]) h_m255 (z_at.mk 1 rfl rfl) rfl rfl (w_ul _) rfl rfl rfl rfl ?_
            clear H m; intro m H
            refine w_p h_m255 6 (pc' := 35) (L' := [(0, .ref 143), (1, .int (xs 1)), (2, .int (xs 2)), (3, .int (2 : Int32))]) (st' := [.ref 143]) rfl ?_
            refine w_gf H (pc' := 38) (L' := [(0, .ref 143), (1, .int (xs 1)), (2, .int (xs 2)), (3, .int (2 : Int32))]) h_m255 (z_at.mk 3 rfl rfl) rfl (u := .ref 144) rfl rfl rfl ?_
            refine w_p h_m255 2 (pc' := 40) (L' := [(0, .ref 143), (1, .int (xs 1)), (2, .int (xs 2)), (3, .int (2 : Int32))]) (st' := [.int (0 : Int32), .int (2 : Int32), .ref 144]) rfl ?_
            refine w_as H (t := 0) (j := 2) (u := .int (0 : Int32)) (0, 2740, [(2, .int (0 : Int32)), (0, .int (0 : Int32)), (17, .int (1024 : Int32)), (16, .int (1 : Int32)), (15, .int (1 : Int32)), (13, .int (12 : Int32)), (12, .int (40 : Int32)), (11, .int (10 : Int32))], some (.int (0 : Int32))) (pc' := 41) (L' := [(0, .ref 143), (1, .int (xs 1)), (2, .int (xs 2)), (3, .int (2 : Int32))]) h_m255 (z_at.mk 1 rfl rfl) rfl rfl (w_ui _ _ (by decide)) rfl rfl rfl rfl ?_
            clear H m; intro m H
            refine w_p h_m255 6 (pc' := 35) (L' := [(0, .ref 143), (1, .int (xs 1)), (2, .int (xs 2)), (3, .int (3 : Int32))]) (st' := [.ref 143]) rfl ?_
            refine w_gf H (pc' := 38) (L' := [(0, .ref 143), (1, .int (xs 1)), (2, .int (xs 2)), (3, .int (3 : Int32))]) h_m255 (z_at.mk 3 rfl rfl) rfl (u := .ref 144) rfl rfl rfl ?_
            refine w_p h_m255 2 (pc' := 40) (L' := [(0, .ref 143), (1, .int (xs 1)), (2, .int (xs 2)), (3, .int (3 : Int32))]) (st' := [.int (0 : Int32), .int (3 : Int32), .ref 144]) rfl ?_
            refine w_as H (t := 0) (j := 3) (u := .int (0 : Int32)) (0, 2740, [(3, .int (0 : Int32)), (2, .int (0 : Int32)), (0, .int (0 : Int32)), (17, .int (1024 : Int32)), (16, .int (1 : Int32)), (15, .int (1 : Int32)), (13, .int (12 : Int32)), (12, .int (40 : Int32)), (11, .int (10 : Int32))], some (.int (0 : Int32))) (pc' := 41) (L' := [(0, .ref 143), (1, .int (xs 1)), (2, .int (xs 2)), (3, .int (3 : Int32))]) h_m255 (z_at.mk 1 rfl rfl) rfl rfl (w_ui _ _ (by decide)) rfl rfl rfl rfl ?_
            clear H m; intro m H
            refine w_p h_m255 6 (pc' := 35) (L' := [(0, .ref 143), (1, .int (xs 1)), (2, .int (xs 2)), (3, .int (4 : Int32))]) (st' := [.ref 143]) rfl ?_
            refine w_gf H (pc' := 38) (L' := [(0, .ref 143), (1, .int (xs 1)), (2, .int (xs 2)), (3, .int (4 : Int32))]) h_m255 (z_at.mk 3 rfl rfl) rfl (u := .ref 144) rfl rfl rfl ?_
            refine w_p h_m255 2 (pc' := 40) (L' := [(0, .ref 143), (1, .int (xs 1)), (2, .int (xs 2)), (3, .int (4 : Int32))]) (st' := [.int (0 : Int32), .int (4 : Int32), .ref 144]) rfl ?_
            refine w_as H (t := 0) (j := 4) (u := .int (0 : Int32)) (0, 2740, [(4, .int (0 : Int32)), (3, .int (0 : Int32)), (2, .int (0 : Int32)), (0, .int (0 : Int32)), (17, .int (1024 : Int32)), (16, .int (1 : Int32)), (15, .int (1 : Int32)), (13, .int (12 : Int32)), (12, .int (40 : Int32)), (11, .int (10 : Int32))], some (.int (0 : Int32))) (pc' := 41) (L' := [(0, .ref 143), (1, .int (xs 1)), (2, .int (xs 2)), (3, .int (4 : Int32))]) h_m255 (z_at.mk 1 rfl rfl) rfl rfl (w_ui _ _ (by decide)) rfl rfl rfl rfl ?_
            clear H m; intro m H
            refine w_p h_m255 6 (pc' := 35) (L' := [(0, .ref 143), (1, .int (xs 1)), (2, .int (xs 2)), (3, .int (5 : Int32))]) (st' := [.ref 143]) rfl ?_
            refine w_gf H (pc' := 38) (L' := [(0, .ref 143), (1, .int (xs 1)), (2, .int (xs 2)), (3, .int (5 : Int32))]) h_m255 (z_at.mk 3 rfl rfl) rfl (u := .ref 144) rfl rfl rfl ?_
            refine w_p h_m255 2 (pc' := 40) (L' := [(0, .ref 143), (1, .int (xs 1)), (2, .int (xs 2)), (3, .int (5 : Int32))]) (st' := [.int (0 : Int32), .int (5 : Int32), .ref 144]) rfl ?_
            refine w_as H (t := 0) (j := 5) (u := .int (0 : Int32)) (0, 2740, [(5, .int (0 : Int32)), (4, .int (0 : Int32)), (3, .int (0 : Int32)), (2, .int (0 : Int32)), (0, .int (0 : Int32)), (17, .int (1024 : Int32)), (16, .int (1 : Int32)), (15, .int (1 : Int32)), (13, .int (12 : Int32)), (12, .int (40 : Int32)), (11, .int (10 : Int32))], some (.int (0 : Int32))) (pc' := 41) (L' := [(0, .ref 143), (1, .int (xs 1)), (2, .int (xs 2)), (3, .int (5 : Int32))]) h_m255 (z_at.mk 1 rfl rfl) rfl rfl (w_ui _ _ (by decide)) rfl rfl rfl rfl ?_
            clear H m; intro m H
            refine w_p h_m255 6 (pc' := 35) (L' := [(0, .ref 143), (1, .int (xs 1)), (2, .int (xs 2)), (3, .int (6 : Int32))]) (st' := [.ref 143]) rfl ?_
            refine w_gf H (pc' := 38) (L' := [(0, .ref 143), (1, .int (xs 1)), (2, .int (xs 2)), (3, .int (6 : Int32))]) h_m255 (z_at.mk 3 rfl rfl) rfl (u := .ref 144) rfl rfl rfl ?_
            refine w_p h_m255 2 (pc' := 40) (L' := [(0, .ref 143), (1, .int (xs 1)), (2, .int (xs 2)), (3, .int (6 : Int32))]) (st' := [.int (0 : Int32), .int (6 : Int32), .ref 144]) rfl ?_
            refine w_as H (t := 0) (j := 6) (u := .int (0 : Int32)) (0, 2740, [(6, .int (0 : Int32)), (5, .int (0 : Int32)), (4, .int (0 : Int32)), (3, .int (0 : Int32)), (2, .int (0 : Int32)), (0, .int (0 : Int32)), (17, .int (1024 : Int32)), (16, .int (1 : Int32)), (15, .int (1 : Int32)), (13, .int (12 : Int32)), (12, .int (40 : Int32)), (11, .int (10 : Int32))], some (.int (0 : Int32))) (pc' := 41) (L' := [(0, .ref 143), (1, .int (xs 1)), (2, .int (xs 2)), (3, .int (6 : Int32))]) h_m255 (z_at.mk 1 rfl rfl) rfl rfl (w_ui _ _ (by decide)) rfl rfl rfl rfl ?_
            clear H m; intro m H
            refine w_p h_m255 6 (pc' := 35) (L' := [(0, .ref 143), (1, .int (xs 1)), (2, .int (xs 2)), (3, .int (7 : Int32))]) (st' := [.ref 143]) rfl ?_
            refine w_gf H (pc' := 38) (L' := [(0, .ref 143), (1, .int (xs 1)), (2, .int (xs 2)), (3, .int (7 : Int32))]) h_m255 (z_at.mk 3 rfl rfl) rfl (u := .ref 144) rfl rfl rfl ?_
            refine w_p h_m255 2 (pc' := 40) (L' := [(0, .ref 143), (1, .int (xs 1)), (2, .int (xs 2)), (3, .int (7 : Int32))]) (st' := [.int (0 : Int32), .int (7 : Int32), .ref 144]) rfl ?_
            refine w_as H (t := 0) (j := 7) (u := .int (0 : Int32)) (0, 2740, [(7, .int (0 : Int32)), (6, .int (0 : Int32)), (5, .int (0 : Int32)), (4, .int (0 : Int32)), (3, .int (0 : Int32)), (2, .int (0 : Int32)), (0, .int (0 : Int32)), (17, .int (1024 : Int32)), (16, .int (1 : Int32)), (15, .int (1 : Int32)), (13, .int (12 : Int32)), (12, .int (40 : Int32)), (11, .int (10 : Int32))], some (.int (0 : Int32))) (pc' := 41) (L' := [(0, .ref 143), (1, .int (xs 1)), (2, .int (xs 2)), (3, .int (7 : Int32))]) h_m255 (z_at.mk 1 rfl rfl) rfl rfl (w_ui _ _ (by decide)) rfl rfl rfl rfl ?_
            clear H m; intro m H
            refine w_p h_m255 6 (pc' := 48) (L' := [(0, .ref 143), (1, .int (xs 1)), (2, .int (xs 2)), (3, .int (8 : Int32))]) (st' := [.ref 143]) rfl ?_
            refine w_gf H (pc' := 51) (L' := [(0, .ref 143), (1, .int (xs 1)), (2, .int (xs 2)), (3, .int (8 : Int32))]) h_m255 (z_at.mk 3 rfl rfl) rfl (u := .ref 144) rfl rfl rfl ?_
            refine w_p h_m255 2 (pc' := 54) (L' := [(0, .ref 143), (1, .int (xs 1)), (2, .int (xs 2)), (3, .int (8 : Int32))]) (st' := [.int (xs 1), .int (12 : Int32), .ref 144]) rfl ?_
            refine w_as H (t := 0) (j := 12) (u := .int (xs 1)) (0, 2740, [(12, .int (xs 1)), (7, .int (0 : Int32)), (6, .int (0 : Int32)), (5, .int (0 : Int32)), (4, .int (0 : Int32)), (3, .int (0 : Int32)), (2, .int (0 : Int32)), (0, .int (0 : Int32)), (17, .int (1024 : Int32)), (16, .int (1 : Int32)), (15, .int (1 : Int32)), (13, .int (12 : Int32)), (11, .int (10 : Int32))], some (.int (0 : Int32))) (pc' := 55) (L' := [(0, .ref 143), (1, .int (xs 1)), (2, .int (xs 2)), (3, .int (8 : Int32))]) h_m255 (z_at.mk 1 rfl rfl) rfl rfl (w_ui _ _ (by decide)) rfl rfl rfl rfl ?_
            clear H m; intro m H
            refine w_p h_m255 4 (pc' := 59) (L' := [(0, .ref 143), (2, .int (xs 2)), (3, .int (0 : Int32))]) (st' := [.ref 143, .int (0 : Int32)]) rfl ?_
            refine w_gf H (pc' := 62) (L' := [(0, .ref 143), (2, .int (xs 2)), (3, .int (0 : Int32))]) h_m255 (z_at.mk 3 rfl rfl) rfl (u := .ref 144) rfl rfl rfl ?_
            refine w_p h_m255 1 (pc' := 64) (L' := [(0, .ref 143), (2, .int (xs 2)), (3, .int (0 : Int32))]) (st' := [.int (9 : Int32), .ref 144, .int (0 : Int32)]) rfl ?_
            refine w_al H (t := 0) (j := 9) (pc' := 65) (L' := [(0, .ref 143), (2, .int (xs 2)), (3, .int (0 : Int32))]) h_m255 (z_at.mk 1 rfl rfl) rfl rfl rfl (u := .int (0 : Int32)) rfl rfl rfl ?_
            refine w_p h_m255 2 (pc' := 98) (L' := [(0, .ref 143), (2, .int (xs 2)), (3, .int (0 : Int32))]) (st' := [.int (xs 2)]) rfl ?_
            refine w_t1 (pc' := 110) (L' := [(0, .ref 143), (2, .int (xs 2)), (3, .int (0 : Int32))]) h_m255 (z_at.mk 3 rfl rfl) rfl (zc (a := (xs 2).toInt) (b := 0) rfl rfl (decide_eq_true (by omega))) rfl rfl ?_
            refine w_p h_m255 2 (pc' := 112) (L' := [(0, .ref 143), (2, .int (xs 2)), (3, .int (0 : Int32))]) (st' := [.int (1 : Int32), .int (xs 2)]) rfl ?_
            refine w_f2 (pc' := 115) (L' := [(0, .ref 143), (2, .int (xs 2)), (3, .int (0 : Int32))]) h_m255 (z_at.mk 3 rfl rfl) rfl (zc (a := (xs 2).toInt) (b := 1) rfl rfl (decide_eq_false (by omega))) rfl rfl ?_
            refine w_p h_m255 1 (pc' := 116) (L' := [(0, .ref 143), (2, .int (xs 2)), (3, .int (0 : Int32))]) (st' := [.ref 143]) rfl ?_
            refine w_gf H (pc' := 119) (L' := [(0, .ref 143), (2, .int (xs 2)), (3, .int (0 : Int32))]) h_m255 (z_at.mk 3 rfl rfl) rfl (u := .ref 144) rfl rfl rfl ?_
            refine w_p h_m255 1 (pc' := 120) (L' := [(0, .ref 143), (2, .int (xs 2)), (3, .int (0 : Int32))]) (st' := [.int (2 : Int32), .ref 144]) rfl ?_
            refine w_al H (t := 0) (j := 2) (pc' := 121) (L' := [(0, .ref 143), (2, .int (xs 2)), (3, .int (0 : Int32))]) h_m255 (z_at.mk 1 rfl rfl) rfl rfl rfl (u := .int (0 : Int32)) rfl rfl rfl ?_
            refine w_p h_m255 4 (pc' := 151) (L' := [(3, .int (0 : Int32)), (0, .ref 143)]) (st' := [.ref 143, .ref 143]) rfl ?_
            refine w_gf H (pc' := 154) (L' := [(3, .int (0 : Int32)), (0, .ref 143)]) h_m255 (z_at.mk 3 rfl rfl) rfl (u := .ref 146) rfl rfl rfl ?_
            refine w_p h_m255 1 (pc' := 155) (L' := [(3, .int (0 : Int32)), (0, .ref 143)]) (st' := [.ref 143, .ref 146, .ref 143]) rfl ?_
            refine w_gf H (pc' := 158) (L' := [(3, .int (0 : Int32)), (0, .ref 143)]) h_m255 (z_at.mk 3 rfl rfl) rfl (u := .ref 149) rfl rfl rfl ?_
            refine w_cv (H.t rfl) (pc' := 161) (L' := [(3, .int (0 : Int32)), (0, .ref 143)]) (rest := []) (Ps := [.ref 146, .ref 149]) (L0 := [(0, .ref 143), (1, .ref 146), (2, .ref 149)]) h_m255 (z_at.mk 3 rfl rfl) (Or.inl ⟨rfl, rfl⟩) rfl rfl (by decide) (by decide) rfl rfl rfl rfl rfl rfl (by decide) rfl rfl rfl ?_
            refine w_back H (b1 := 146) (b2 := 149) (ra := (0, 2740, [(17, .int (1024 : Int32)), (16, .int (1 : Int32)), (15, .int (1 : Int32)), (13, .int (12 : Int32)), (12, .int (40 : Int32)), (11, .int (10 : Int32))], some (.int (0 : Int32)))) (rb := (1, 361, [], some (.long (0 : Int64)))) rfl rfl rfl rfl rfl rfl rfl rfl (by decide) (by decide) (by decide) (by decide) ?_
            clear H m; intro m H
            show z_W 998 255 161 [(3, .int (0 : Int32)), (0, .ref 143)] [] m _
            refine w_p h_m255 1 (pc' := 162) (L' := [(3, .int (0 : Int32)), (0, .ref 143)]) (st' := [.int (0 : Int32)]) rfl ?_
            refine w_ri h_m255 (z_at.mk 1 rfl rfl) rfl rfl ?_
            show z_W 999 256 34 [] [.int (0 : Int32)] m _
            refine w_ri h_m256 (z_at.mk 1 rfl rfl) rfl rfl ?_
            show z_W 1000 1000 941 [(0, .ref 0), (1, .ref 39), (2, .ref 143), (3, .int (0 : Int32))] [.int (0 : Int32), .int (0 : Int32)] m _
            refine w_p h_m1000 5 (pc' := 20) (L' := [(0, .ref 0), (1, .ref 39), (2, .ref 143), (3, .int (6 : Int32))]) (st' := [.ref 0, .int (6 : Int32)]) rfl ?_
            refine w_lene H (x := (6 : Int32)) (pc' := 21) (L' := [(0, .ref 0), (1, .ref 39), (2, .ref 143), (3, .int (6 : Int32))]) h_m1000 (z_at.mk 1 rfl rfl) (by decide) rfl (by decide) rfl rfl rfl ?_
            refine w_p h_m1000 4 (pc' := 1381) (L' := [(0, .ref 0), (1, .ref 39), (2, .ref 143), (3, .int (6 : Int32))]) (st' := [.int (1 : Int32)]) rfl ?_
            refine w_ri h_m1000 (z_at.mk 1 rfl rfl) rfl rfl ?_
            exact hQ _ _ _ _ H (by decide) (by decide)
          by_cases c_7 : (xs 2).toInt = 2
          · refine w_sw (off := 49) (pc' := 80) (L' := [(0, .ref 39), (1, .int (xs 1)), (2, .int (xs 2))]) h_m144 (z_at.mk 33 rfl rfl) (z_off_v (v := 2) c_7 (by decide)) rfl rfl rfl ?_
            refine w_p h_m144 1 (pc' := 81) (L' := [(0, .ref 39), (1, .int (xs 1)), (2, .int (xs 2))]) (st' := [.ref 39]) rfl ?_
            refine w_gf H (pc' := 84) (L' := [(0, .ref 39), (1, .int (xs 1)), (2, .int (xs 2))]) h_m144 (z_at.mk 3 rfl rfl) rfl (u := .ref 106) rfl rfl rfl ?_
            refine w_gf H (pc' := 87) (L' := [(0, .ref 39), (1, .int (xs 1)), (2, .int (xs 2))]) h_m144 (z_at.mk 3 rfl rfl) rfl (u := .int (0 : Int32)) rfl rfl rfl ?_
            refine w_ri h_m144 (z_at.mk 1 rfl rfl) rfl rfl ?_
            show z_W 1000 1000 927 [(0, .ref 0), (1, .ref 39), (2, .ref 143), (3, .int (0 : Int32))] [.int (0 : Int32)] m _
            refine w_p h_m1000 5 (pc' := 932) (L' := [(0, .ref 0), (1, .ref 39), (2, .ref 143), (3, .int (0 : Int32))]) (st' := [.int (1 : Int32), .ref 0, .ref 143, .int (0 : Int32)]) rfl ?_
            refine w_ae H (j := 1) (pc' := 933) (L' := [(0, .ref 0), (1, .ref 39), (2, .ref 143), (3, .int (0 : Int32))]) h_m1000 (z_at.mk 1 rfl rfl) rfl rfl rfl (by decide) rfl (by decide) rfl rfl rfl ?_
            refine w_p h_m1000 4 (pc' := 937) (L' := [(0, .ref 0), (1, .ref 39), (2, .ref 143), (3, .int (0 : Int32))]) (st' := [.int (2 : Int32), .ref 0, .int (xs 1), .ref 143, .int (0 : Int32)]) rfl ?_
            refine w_ae H (j := 2) (pc' := 938) (L' := [(0, .ref 0), (1, .ref 39), (2, .ref 143), (3, .int (0 : Int32))]) h_m1000 (z_at.mk 1 rfl rfl) rfl rfl rfl (by decide) rfl (by decide) rfl rfl rfl ?_
            refine w_cv (H.t rfl) (pc' := 941) (L' := [(0, .ref 0), (1, .ref 39), (2, .ref 143), (3, .int (0 : Int32))]) (rest := [.int (0 : Int32)]) (Ps := [.int (xs 1), .int (xs 2)]) (L0 := [(0, .ref 143), (1, .int (xs 1)), (2, .int (xs 2))]) h_m1000 (z_at.mk 3 rfl rfl) (Or.inl ⟨rfl, rfl⟩) rfl rfl (by decide) (by decide) rfl rfl rfl rfl rfl rfl (by decide) rfl rfl rfl ?_
            refine w_p h_m256 3 (pc' := 3) (L' := [(0, .ref 143), (1, .int (xs 1)), (2, .int (xs 2))]) (st' := [.int (5 : Int32), .int (0 : Int32), .int (xs 2)]) rfl ?_
            refine w_cs (As := [.int (xs 2), .int (0 : Int32), .int (5 : Int32)]) (rest := []) (j := 159) (L0 := [(0, .int (xs 2)), (1, .int (0 : Int32)), (2, .int (5 : Int32))]) (pc' := 6) (L' := [(0, .ref 143), (1, .int (xs 1)), (2, .int (xs 2))]) h_m256 (z_at.mk 3 rfl rfl) (Or.inl ⟨rfl, rfl⟩) rfl rfl rfl rfl rfl ?_
            refine w_p h_m159 2 (pc' := 2) (L' := [(0, .int (xs 2)), (1, .int (0 : Int32)), (2, .int (5 : Int32))]) (st' := [.int (0 : Int32), .int (xs 2)]) rfl ?_
            refine w_f2 (pc' := 5) (L' := [(0, .int (xs 2)), (1, .int (0 : Int32)), (2, .int (5 : Int32))]) h_m159 (z_at.mk 3 rfl rfl) rfl (zc (a := (xs 2).toInt) (b := 0) rfl rfl (decide_eq_false (by omega))) rfl rfl ?_
            refine w_p h_m159 2 (pc' := 7) (L' := [(0, .int (xs 2)), (1, .int (0 : Int32)), (2, .int (5 : Int32))]) (st' := [.int (5 : Int32), .int (xs 2)]) rfl ?_
            refine w_f2 (pc' := 10) (L' := [(0, .int (xs 2)), (1, .int (0 : Int32)), (2, .int (5 : Int32))]) h_m159 (z_at.mk 3 rfl rfl) rfl (zc (a := (xs 2).toInt) (b := 5) rfl rfl (decide_eq_false (by omega))) rfl rfl ?_
            refine w_p h_m159 2 (pc' := 15) (L' := []) (st' := [.int (1 : Int32)]) rfl ?_
            refine w_ri h_m159 (z_at.mk 1 rfl rfl) rfl rfl ?_
            show z_W 999 256 6 [(0, .ref 143), (1, .int (xs 1)), (2, .int (xs 2))] [.int (1 : Int32)] m _
            refine w_p h_m256 4 (pc' := 17) (L' := [(0, .ref 143), (1, .int (xs 1)), (2, .int (xs 2))]) (st' := [.int (99 : Int32), .int (1 : Int32), .int (xs 1)]) rfl ?_
            refine w_cs (As := [.int (xs 1), .int (1 : Int32), .int (99 : Int32)]) (rest := []) (j := 159) (L0 := [(0, .int (xs 1)), (1, .int (1 : Int32)), (2, .int (99 : Int32))]) (pc' := 20) (L' := [(0, .ref 143), (1, .int (xs 1)), (2, .int (xs 2))]) h_m256 (z_at.mk 3 rfl rfl) (Or.inl ⟨rfl, rfl⟩) rfl rfl rfl rfl rfl ?_
            refine w_p h_m159 2 (pc' := 2) (L' := [(0, .int (xs 1)), (1, .int (1 : Int32)), (2, .int (99 : Int32))]) (st' := [.int (1 : Int32), .int (xs 1)]) rfl ?_
            refine w_f2 (pc' := 5) (L' := [(0, .int (xs 1)), (1, .int (1 : Int32)), (2, .int (99 : Int32))]) h_m159 (z_at.mk 3 rfl rfl) rfl (zc (a := (xs 1).toInt) (b := 1) rfl rfl (decide_eq_false (by omega))) rfl rfl ?_
            refine w_p h_m159 2 (pc' := 7) (L' := [(0, .int (xs 1)), (1, .int (1 : Int32)), (2, .int (99 : Int32))]) (st' := [.int (99 : Int32), .int (xs 1)]) rfl ?_
            refine w_f2 (pc' := 10) (L' := [(0, .int (xs 1)), (1, .int (1 : Int32)), (2, .int (99 : Int32))]) h_m159 (z_at.mk 3 rfl rfl) rfl (zc (a := (xs 1).toInt) (b := 99) rfl rfl (decide_eq_false (by omega))) rfl rfl ?_
            refine w_p h_m159 2 (pc' := 15) (L' := []) (st' := [.int (1 : Int32)]) rfl ?_
            refine w_ri h_m159 (z_at.mk 1 rfl rfl) rfl rfl ?_
            show z_W 999 256 20 [(0, .ref 143), (1, .int (xs 1)), (2, .int (xs 2))] [.int (1 : Int32)] m _
            refine w_p h_m256 4 (pc' := 31) (L' := [(0, .ref 143), (1, .int (xs 1)), (2, .int (xs 2))]) (st' := [.int (xs 2), .int (xs 1), .ref 143]) rfl ?_
            refine w_cv (H.t rfl) (pc' := 34) (L' := []) (rest := []) (Ps := [.int (xs 1), .int (xs 2)]) (L0 := [(0, .ref 143), (1, .int (xs 1)), (2, .int (xs 2))]) h_m256 (z_at.mk 3 rfl rfl) (Or.inl ⟨rfl, rfl⟩) rfl rfl (by decide) (by decide) rfl rfl rfl rfl rfl rfl (by decide) rfl rfl rfl ?_
            refine w_p h_m255 2 (pc' := 2) (L' := [(0, .ref 143), (1, .int (xs 1)), (2, .int (xs 2))]) (st' := [.ref 143, .ref 143]) rfl ?_
            refine w_gf H (pc' := 5) (L' := [(0, .ref 143), (1, .int (xs 1)), (2, .int (xs 2))]) h_m255 (z_at.mk 3 rfl rfl) rfl (u := .ref 146) rfl rfl rfl ?_
            refine w_p h_m255 1 (pc' := 6) (L' := [(0, .ref 143), (1, .int (xs 1)), (2, .int (xs 2))]) (st' := [.ref 143, .ref 146, .ref 143]) rfl ?_
            refine w_gf H (pc' := 9) (L' := [(0, .ref 143), (1, .int (xs 1)), (2, .int (xs 2))]) h_m255 (z_at.mk 3 rfl rfl) rfl (u := .ref 149) rfl rfl rfl ?_
            refine w_cv (H.t rfl) (pc' := 12) (L' := [(0, .ref 143), (1, .int (xs 1)), (2, .int (xs 2))]) (rest := []) (Ps := [.ref 146, .ref 149]) (L0 := [(0, .ref 143), (1, .ref 146), (2, .ref 149)]) h_m255 (z_at.mk 3 rfl rfl) (Or.inl ⟨rfl, rfl⟩) rfl rfl (by decide) (by decide) rfl rfl rfl rfl rfl rfl (by decide) rfl rfl rfl ?_
            refine w_keeps H (b1 := 146) (b2 := 149) (ra := (0, 2740, [(17, .int (1024 : Int32)), (16, .int (1 : Int32)), (15, .int (1 : Int32)), (13, .int (12 : Int32)), (12, .int (40 : Int32)), (11, .int (10 : Int32))], some (.int (0 : Int32)))) (rb := (1, 361, [], some (.long (0 : Int64)))) rfl rfl rfl rfl rfl rfl rfl rfl (by decide) (by decide) (by decide) (by decide) ?_
            clear H m; intro m H
            show z_W 998 255 12 [(0, .ref 143), (1, .int (xs 1)), (2, .int (xs 2))] [] m _
            refine w_p h_m255 1 (pc' := 13) (L' := [(0, .ref 143), (1, .int (xs 1)), (2, .int (xs 2))]) (st' := [.ref 143]) rfl ?_
            refine w_gf H (pc' := 16) (L' := [(0, .ref 143), (1, .int (xs 1)), (2, .int (xs 2))]) h_m255 (z_at.mk 3 rfl rfl) rfl (u := .ref 144) rfl rfl rfl ?_
            refine w_p h_m255 2 (pc' := 18) (L' := [(0, .ref 143), (1, .int (xs 1)), (2, .int (xs 2))]) (st' := [.int (0 : Int32), .int (0 : Int32), .ref 144]) rfl ?_
            refine w_as H (t := 0) (j := 0) (u := .int (0 : Int32)) (0, 2740, [(0, .int (0 : Int32)), (17, .int (1024 : Int32)), (16, .int (1 : Int32)), (15, .int (1 : Int32)), (13, .int (12 : Int32)), (12, .int (40 : Int32)), (11, .int (10 : Int32))], some (.int (0 : Int32))) (pc' := 19) (L' := [(0, .ref 143), (1, .int (xs 1)), (2, .int (xs 2))]) h_m255 (z_at.mk 1 rfl rfl) rfl rfl (w_ui _ _ (by decide)) rfl rfl rfl rfl ?_
            clear H m; intro m H
            refine w_p h_m255 1 (pc' := 20) (L' := [(0, .ref 143), (1, .int (xs 1)), (2, .int (xs 2))]) (st' := [.ref 143]) rfl ?_
            refine w_gf H (pc' := 23) (L' := [(0, .ref 143), (1, .int (xs 1)), (2, .int (xs 2))]) h_m255 (z_at.mk 3 rfl rfl) rfl (u := .ref 147) rfl rfl rfl ?_
            refine w_p h_m255 2 (pc' := 25) (L' := [(0, .ref 143), (1, .int (xs 1)), (2, .int (xs 2))]) (st' := [.long (0 : Int64), .int (0 : Int32), .ref 147]) rfl ?_
            refine w_as H (t := 1) (j := 0) (u := .long (0 : Int64)) (1, 361, [(0, .long (0 : Int64))], some (.long (0 : Int64))) (pc' := 26) (L' := [(0, .ref 143), (1, .int (xs 1)), (2, .int (xs 2))]) h_m255 (z_at.mk 1 rfl rfl) rfl rfl (w_ul _) rfl rfl rfl rfl ?_
            clear H m; intro m H
            refine w_p h_m255 6 (pc' := 35) (L' := [(0, .ref 143), (1, .int (xs 1)), (2, .int (xs 2)), (3, .int (2 : Int32))]) (st' := [.ref 143]) rfl ?_
            refine w_gf H (pc' := 38) (L' := [(0, .ref 143), (1, .int (xs 1)), (2, .int (xs 2)), (3, .int (2 : Int32))]) h_m255 (z_at.mk 3 rfl rfl) rfl (u := .ref 144) rfl rfl rfl ?_
            refine w_p h_m255 2 (pc' := 40) (L' := [(0, .ref 143), (1, .int (xs 1)), (2, .int (xs 2)), (3, .int (2 : Int32))]) (st' := [.int (0 : Int32), .int (2 : Int32), .ref 144]) rfl ?_
            refine w_as H (t := 0) (j := 2) (u := .int (0 : Int32)) (0, 2740, [(2, .int (0 : Int32)), (0, .int (0 : Int32)), (17, .int (1024 : Int32)), (16, .int (1 : Int32)), (15, .int (1 : Int32)), (13, .int (12 : Int32)), (12, .int (40 : Int32)), (11, .int (10 : Int32))], some (.int (0 : Int32))) (pc' := 41) (L' := [(0, .ref 143), (1, .int (xs 1)), (2, .int (xs 2)), (3, .int (2 : Int32))]) h_m255 (z_at.mk 1 rfl rfl) rfl rfl (w_ui _ _ (by decide)) rfl rfl rfl rfl ?_
            clear H m; intro m H
            refine w_p h_m255 6 (pc' := 35) (L' := [(0, .ref 143), (1, .int (xs 1)), (2, .int (xs 2)), (3, .int (3 : Int32))]) (st' := [.ref 143]) rfl ?_
            refine w_gf H (pc' := 38) (L' := [(0, .ref 143), (1, .int (xs 1)), (2, .int (xs 2)), (3, .int (3 : Int32))]) h_m255 (z_at.mk 3 rfl rfl) rfl (u := .ref 144) rfl rfl rfl ?_
            refine w_p h_m255 2 (pc' := 40) (L' := [(0, .ref 143), (1, .int (xs 1)), (2, .int (xs 2)), (3, .int (3 : Int32))]) (st' := [.int (0 : Int32), .int (3 : Int32), .ref 144]) rfl ?_
            refine w_as H (t := 0) (j := 3) (u := .int (0 : Int32)) (0, 2740, [(3, .int (0 : Int32)), (2, .int (0 : Int32)), (0, .int (0 : Int32)), (17, .int (1024 : Int32)), (16, .int (1 : Int32)), (15, .int (1 : Int32)), (13, .int (12 : Int32)), (12, .int (40 : Int32)), (11, .int (10 : Int32))], some (.int (0 : Int32))) (pc' := 41) (L' := [(0, .ref 143), (1, .int (xs 1)), (2, .int (xs 2)), (3, .int (3 : Int32))]) h_m255 (z_at.mk 1 rfl rfl) rfl rfl (w_ui _ _ (by decide)) rfl rfl rfl rfl ?_
            clear H m; intro m H
            refine w_p h_m255 6 (pc' := 35) (L' := [(0, .ref 143), (1, .int (xs 1)), (2, .int (xs 2)), (3, .int (4 : Int32))]) (st' := [.ref 143]) rfl ?_
            refine w_gf H (pc' := 38) (L' := [(0, .ref 143), (1, .int (xs 1)), (2, .int (xs 2)), (3, .int (4 : Int32))]) h_m255 (z_at.mk 3 rfl rfl) rfl (u := .ref 144) rfl rfl rfl ?_
            refine w_p h_m255 2 (pc' := 40) (L' := [(0, .ref 143), (1, .int (xs 1)), (2, .int (xs 2)), (3, .int (4 : Int32))]) (st' := [.int (0 : Int32), .int (4 : Int32), .ref 144]) rfl ?_
            refine w_as H (t := 0) (j := 4) (u := .int (0 : Int32)) (0, 2740, [(4, .int (0 : Int32)), (3, .int (0 : Int32)), (2, .int (0 : Int32)), (0, .int (0 : Int32)), (17, .int (1024 : Int32)), (16, .int (1 : Int32)), (15, .int (1 : Int32)), (13, .int (12 : Int32)), (12, .int (40 : Int32)), (11, .int (10 : Int32))], some (.int (0 : Int32))) (pc' := 41) (L' := [(0, .ref 143), (1, .int (xs 1)), (2, .int (xs 2)), (3, .int (4 : Int32))]) h_m255 (z_at.mk 1 rfl rfl) rfl rfl (w_ui _ _ (by decide)) rfl rfl rfl rfl ?_
            clear H m; intro m H
            refine w_p h_m255 6 (pc' := 35) (L' := [(0, .ref 143), (1, .int (xs 1)), (2, .int (xs 2)), (3, .int (5 : Int32))]) (st' := [.ref 143]) rfl ?_
            refine w_gf H (pc' := 38) (L' := [(0, .ref 143), (1, .int (xs 1)), (2, .int (xs 2)), (3, .int (5 : Int32))]) h_m255 (z_at.mk 3 rfl rfl) rfl (u := .ref 144) rfl rfl rfl ?_
            refine w_p h_m255 2 (pc' := 40) (L' := [(0, .ref 143), (1, .int (xs 1)), (2, .int (xs 2)), (3, .int (5 : Int32))]) (st' := [.int (0 : Int32), .int (5 : Int32), .ref 144]) rfl ?_
            refine w_as H (t := 0) (j := 5) (u := .int (0 : Int32)) (0, 2740, [(5, .int (0 : Int32)), (4, .int (0 : Int32)), (3, .int (0 : Int32)), (2, .int (0 : Int32)), (0, .int (0 : Int32)), (17, .int (1024 : Int32)), (16, .int (1 : Int32)), (15, .int (1 : Int32)), (13, .int (12 : Int32)), (12, .int (40 : Int32)), (11, .int (10 : Int32))], some (.int (0 : Int32))) (pc' := 41) (L' := [(0, .ref 143), (1, .int (xs 1)), (2, .int (xs 2)), (3, .int (5 : Int32))]) h_m255 (z_at.mk 1 rfl rfl) rfl rfl (w_ui _ _ (by decide)) rfl rfl rfl rfl ?_
            clear H m; intro m H
            refine w_p h_m255 6 (pc' := 35) (L' := [(0, .ref 143), (1, .int (xs 1)), (2, .int (xs 2)), (3, .int (6 : Int32))]) (st' := [.ref 143]) rfl ?_
            refine w_gf H (pc' := 38) (L' := [(0, .ref 143), (1, .int (xs 1)), (2, .int (xs 2)), (3, .int (6 : Int32))]) h_m255 (z_at.mk 3 rfl rfl) rfl (u := .ref 144) rfl rfl rfl ?_
            refine w_p h_m255 2 (pc' := 40) (L' := [(0, .ref 143), (1, .int (xs 1)), (2, .int (xs 2)), (3, .int (6 : Int32))]) (st' := [.int (0 : Int32), .int (6 : Int32), .ref 144]) rfl ?_
            refine w_as H (t := 0) (j := 6) (u := .int (0 : Int32)) (0, 2740, [(6, .int (0 : Int32)), (5, .int (0 : Int32)), (4, .int (0 : Int32)), (3, .int (0 : Int32)), (2, .int (0 : Int32)), (0, .int (0 : Int32)), (17, .int (1024 : Int32)), (16, .int (1 : Int32)), (15, .int (1 : Int32)), (13, .int (12 : Int32)), (12, .int (40 : Int32)), (11, .int (10 : Int32))], some (.int (0 : Int32))) (pc' := 41) (L' := [(0, .ref 143), (1, .int (xs 1)), (2, .int (xs 2)), (3, .int (6 : Int32))]) h_m255 (z_at.mk 1 rfl rfl) rfl rfl (w_ui _ _ (by decide)) rfl rfl rfl rfl ?_
            clear H m; intro m H
            refine w_p h_m255 6 (pc' := 35) (L' := [(0, .ref 143), (1, .int (xs 1)), (2, .int (xs 2)), (3, .int (7 : Int32))]) (st' := [.ref 143]) rfl ?_
            refine w_gf H (pc' := 38) (L' := [(0, .ref 143), (1, .int (xs 1)), (2, .int (xs 2)), (3, .int (7 : Int32))]) h_m255 (z_at.mk 3 rfl rfl) rfl (u := .ref 144) rfl rfl rfl ?_
            refine w_p h_m255 2 (pc' := 40) (L' := [(0, .ref 143), (1, .int (xs 1)), (2, .int (xs 2)), (3, .int (7 : Int32))]) (st' := [.int (0 : Int32), .int (7 : Int32), .ref 144]) rfl ?_
            refine w_as H (t := 0) (j := 7) (u := .int (0 : Int32)) (0, 2740, [(7, .int (0 : Int32)), (6, .int (0 : Int32)), (5, .int (0 : Int32)), (4, .int (0 : Int32)), (3, .int (0 : Int32)), (2, .int (0 : Int32)), (0, .int (0 : Int32)), (17, .int (1024 : Int32)), (16, .int (1 : Int32)), (15, .int (1 : Int32)), (13, .int (12 : Int32)), (12, .int (40 : Int32)), (11, .int (10 : Int32))], some (.int (0 : Int32))) (pc' := 41) (L' := [(0, .ref 143), (1, .int (xs 1)), (2, .int (xs 2)), (3, .int (7 : Int32))]) h_m255 (z_at.mk 1 rfl rfl) rfl rfl (w_ui _ _ (by decide)) rfl rfl rfl rfl ?_
            clear H m; intro m H
            refine w_p h_m255 6 (pc' := 48) (L' := [(0, .ref 143), (1, .int (xs 1)), (2, .int (xs 2)), (3, .int (8 : Int32))]) (st' := [.ref 143]) rfl ?_
            refine w_gf H (pc' := 51) (L' := [(0, .ref 143), (1, .int (xs 1)), (2, .int (xs 2)), (3, .int (8 : Int32))]) h_m255 (z_at.mk 3 rfl rfl) rfl (u := .ref 144) rfl rfl rfl ?_
            refine w_p h_m255 2 (pc' := 54) (L' := [(0, .ref 143), (1, .int (xs 1)), (2, .int (xs 2)), (3, .int (8 : Int32))]) (st' := [.int (xs 1), .int (12 : Int32), .ref 144]) rfl ?_
            refine w_as H (t := 0) (j := 12) (u := .int (xs 1)) (0, 2740, [(12, .int (xs 1)), (7, .int (0 : Int32)), (6, .int (0 : Int32)), (5, .int (0 : Int32)), (4, .int (0 : Int32)), (3, .int (0 : Int32)), (2, .int (0 : Int32)), (0, .int (0 : Int32)), (17, .int (1024 : Int32)), (16, .int (1 : Int32)), (15, .int (1 : Int32)), (13, .int (12 : Int32)), (11, .int (10 : Int32))], some (.int (0 : Int32))) (pc' := 55) (L' := [(0, .ref 143), (1, .int (xs 1)), (2, .int (xs 2)), (3, .int (8 : Int32))]) h_m255 (z_at.mk 1 rfl rfl) rfl rfl (w_ui _ _ (by decide)) rfl rfl rfl rfl ?_
            clear H m; intro m H
            refine w_p h_m255 4 (pc' := 59) (L' := [(0, .ref 143), (2, .int (xs 2)), (3, .int (0 : Int32))]) (st' := [.ref 143, .int (0 : Int32)]) rfl ?_
            refine w_gf H (pc' := 62) (L' := [(0, .ref 143), (2, .int (xs 2)), (3, .int (0 : Int32))]) h_m255 (z_at.mk 3 rfl rfl) rfl (u := .ref 144) rfl rfl rfl ?_
            refine w_p h_m255 1 (pc' := 64) (L' := [(0, .ref 143), (2, .int (xs 2)), (3, .int (0 : Int32))]) (st' := [.int (9 : Int32), .ref 144, .int (0 : Int32)]) rfl ?_
            refine w_al H (t := 0) (j := 9) (pc' := 65) (L' := [(0, .ref 143), (2, .int (xs 2)), (3, .int (0 : Int32))]) h_m255 (z_at.mk 1 rfl rfl) rfl rfl rfl (u := .int (0 : Int32)) rfl rfl rfl ?_
            refine w_p h_m255 2 (pc' := 98) (L' := [(0, .ref 143), (2, .int (xs 2)), (3, .int (0 : Int32))]) (st' := [.int (xs 2)]) rfl ?_
            refine w_t1 (pc' := 110) (L' := [(0, .ref 143), (2, .int (xs 2)), (3, .int (0 : Int32))]) h_m255 (z_at.mk 3 rfl rfl) rfl (zc (a := (xs 2).toInt) (b := 0) rfl rfl (decide_eq_true (by omega))) rfl rfl ?_
            refine w_p h_m255 2 (pc' := 112) (L' := [(0, .ref 143), (2, .int (xs 2)), (3, .int (0 : Int32))]) (st' := [.int (1 : Int32), .int (xs 2)]) rfl ?_
            refine w_t2 (pc' := 124) (L' := [(0, .ref 143), (2, .int (xs 2)), (3, .int (0 : Int32))]) h_m255 (z_at.mk 3 rfl rfl) rfl (zc (a := (xs 2).toInt) (b := 1) rfl rfl (decide_eq_true (by omega))) rfl rfl ?_
            refine w_p h_m255 2 (pc' := 126) (L' := [(0, .ref 143), (2, .int (xs 2)), (3, .int (0 : Int32))]) (st' := [.int (5 : Int32), .int (xs 2)]) rfl ?_
            refine w_f2 (pc' := 129) (L' := [(0, .ref 143), (2, .int (xs 2)), (3, .int (0 : Int32))]) h_m255 (z_at.mk 3 rfl rfl) rfl (zc (a := (xs 2).toInt) (b := 5) rfl rfl (decide_eq_false (by omega))) rfl rfl ?_
            refine w_p h_m255 1 (pc' := 130) (L' := [(0, .ref 143), (2, .int (xs 2)), (3, .int (0 : Int32))]) (st' := [.ref 143]) rfl ?_
            refine w_gf H (pc' := 133) (L' := [(0, .ref 143), (2, .int (xs 2)), (3, .int (0 : Int32))]) h_m255 (z_at.mk 3 rfl rfl) rfl (u := .ref 144) rfl rfl rfl ?_
            refine w_p h_m255 5 (pc' := 138) (L' := [(0, .ref 143), (2, .int (xs 2)), (3, .int (0 : Int32))]) (st' := [.int (((4 : Int32) + (xs 2)) - (2 : Int32)), .ref 144]) rfl ?_
            have c_8 : (xs 2).toInt + 2 = 4 := by omega
            refine w_top (v' := .int (4 : Int32)) (congrArg Value.int (zi_lit (c := (xs 2).toInt + 2) (zi_sub (a := (xs 2).toInt + 4) (b := 2) (c := (xs 2).toInt + 2) (zi_add (a := 4) (b := (xs 2).toInt) (c := (xs 2).toInt + 4) rfl rfl (by omega) (by omega) (by omega)) rfl (by omega) (by omega) (by omega)) c_8)) ?_
            refine w_al H (t := 0) (j := 4) (pc' := 139) (L' := [(0, .ref 143), (2, .int (xs 2)), (3, .int (0 : Int32))]) h_m255 (z_at.mk 1 rfl rfl) rfl rfl rfl (u := .int (0 : Int32)) rfl rfl rfl ?_
            refine w_p h_m255 4 (pc' := 151) (L' := [(3, .int (0 : Int32)), (0, .ref 143)]) (st' := [.ref 143, .ref 143]) rfl ?_
            refine w_gf H (pc' := 154) (L' := [(3, .int (0 : Int32)), (0, .ref 143)]) h_m255 (z_at.mk 3 rfl rfl) rfl (u := .ref 146) rfl rfl rfl ?_
            refine w_p h_m255 1 (pc' := 155) (L' := [(3, .int (0 : Int32)), (0, .ref 143)]) (st' := [.ref 143, .ref 146, .ref 143]) rfl ?_
            refine w_gf H (pc' := 158) (L' := [(3, .int (0 : Int32)), (0, .ref 143)]) h_m255 (z_at.mk 3 rfl rfl) rfl (u := .ref 149) rfl rfl rfl ?_
            refine w_cv (H.t rfl) (pc' := 161) (L' := [(3, .int (0 : Int32)), (0, .ref 143)]) (rest := []) (Ps := [.ref 146, .ref 149]) (L0 := [(0, .ref 143), (1, .ref 146), (2, .ref 149)]) h_m255 (z_at.mk 3 rfl rfl) (Or.inl ⟨rfl, rfl⟩) rfl rfl (by decide) (by decide) rfl rfl rfl rfl rfl rfl (by decide) rfl rfl rfl ?_
            refine w_back H (b1 := 146) (b2 := 149) (ra := (0, 2740, [(17, .int (1024 : Int32)), (16, .int (1 : Int32)), (15, .int (1 : Int32)), (13, .int (12 : Int32)), (12, .int (40 : Int32)), (11, .int (10 : Int32))], some (.int (0 : Int32)))) (rb := (1, 361, [], some (.long (0 : Int64)))) rfl rfl rfl rfl rfl rfl rfl rfl (by decide) (by decide) (by decide) (by decide) ?_
            clear H m; intro m H
            show z_W 998 255 161 [(3, .int (0 : Int32)), (0, .ref 143)] [] m _
            refine w_p h_m255 1 (pc' := 162) (L' := [(3, .int (0 : Int32)), (0, .ref 143)]) (st' := [.int (0 : Int32)]) rfl ?_
            refine w_ri h_m255 (z_at.mk 1 rfl rfl) rfl rfl ?_
            show z_W 999 256 34 [] [.int (0 : Int32)] m _
            refine w_ri h_m256 (z_at.mk 1 rfl rfl) rfl rfl ?_
            show z_W 1000 1000 941 [(0, .ref 0), (1, .ref 39), (2, .ref 143), (3, .int (0 : Int32))] [.int (0 : Int32), .int (0 : Int32)] m _
            refine w_p h_m1000 5 (pc' := 20) (L' := [(0, .ref 0), (1, .ref 39), (2, .ref 143), (3, .int (6 : Int32))]) (st' := [.ref 0, .int (6 : Int32)]) rfl ?_
            refine w_lene H (x := (6 : Int32)) (pc' := 21) (L' := [(0, .ref 0), (1, .ref 39), (2, .ref 143), (3, .int (6 : Int32))]) h_m1000 (z_at.mk 1 rfl rfl) (by decide) rfl (by decide) rfl rfl rfl ?_
            refine w_p h_m1000 4 (pc' := 1381) (L' := [(0, .ref 0), (1, .ref 39), (2, .ref 143), (3, .int (6 : Int32))]) (st' := [.int (1 : Int32)]) rfl ?_
            refine w_ri h_m1000 (z_at.mk 1 rfl rfl) rfl rfl ?_
            exact hQ _ _ _ _ H (by decide) (by decide)
          by_cases c_8 : (xs 2).toInt = 3
          · refine w_sw (off := 57) (pc' := 88) (L' := [(0, .ref 39), (1, .int (xs 1)), (2, .int (xs 2))]) h_m144 (z_at.mk 33 rfl rfl) (z_off_v (v := 3) c_8 (by decide)) rfl rfl rfl ?_
            refine w_p h_m144 1 (pc' := 89) (L' := [(0, .ref 39), (1, .int (xs 1)), (2, .int (xs 2))]) (st' := [.ref 39]) rfl ?_
            refine w_gf H (pc' := 92) (L' := [(0, .ref 39), (1, .int (xs 1)), (2, .int (xs 2))]) h_m144 (z_at.mk 3 rfl rfl) rfl (u := .ref 106) rfl rfl rfl ?_
            refine w_gf H (pc' := 95) (L' := [(0, .ref 39), (1, .int (xs 1)), (2, .int (xs 2))]) h_m144 (z_at.mk 3 rfl rfl) rfl (u := .int (0 : Int32)) rfl rfl rfl ?_
            refine w_ri h_m144 (z_at.mk 1 rfl rfl) rfl rfl ?_
            show z_W 1000 1000 927 [(0, .ref 0), (1, .ref 39), (2, .ref 143), (3, .int (0 : Int32))] [.int (0 : Int32)] m _
            refine w_p h_m1000 5 (pc' := 932) (L' := [(0, .ref 0), (1, .ref 39), (2, .ref 143), (3, .int (0 : Int32))]) (st' := [.int (1 : Int32), .ref 0, .ref 143, .int (0 : Int32)]) rfl ?_
            refine w_ae H (j := 1) (pc' := 933) (L' := [(0, .ref 0), (1, .ref 39), (2, .ref 143), (3, .int (0 : Int32))]) h_m1000 (z_at.mk 1 rfl rfl) rfl rfl rfl (by decide) rfl (by decide) rfl rfl rfl ?_
            refine w_p h_m1000 4 (pc' := 937) (L' := [(0, .ref 0), (1, .ref 39), (2, .ref 143), (3, .int (0 : Int32))]) (st' := [.int (2 : Int32), .ref 0, .int (xs 1), .ref 143, .int (0 : Int32)]) rfl ?_
            refine w_ae H (j := 2) (pc' := 938) (L' := [(0, .ref 0), (1, .ref 39), (2, .ref 143), (3, .int (0 : Int32))]) h_m1000 (z_at.mk 1 rfl rfl) rfl rfl rfl (by decide) rfl (by decide) rfl rfl rfl ?_
            refine w_cv (H.t rfl) (pc' := 941) (L' := [(0, .ref 0), (1, .ref 39), (2, .ref 143), (3, .int (0 : Int32))]) (rest := [.int (0 : Int32)]) (Ps := [.int (xs 1), .int (xs 2)]) (L0 := [(0, .ref 143), (1, .int (xs 1)), (2, .int (xs 2))]) h_m1000 (z_at.mk 3 rfl rfl) (Or.inl ⟨rfl, rfl⟩) rfl rfl (by decide) (by decide) rfl rfl rfl rfl rfl rfl (by decide) rfl rfl rfl ?_
            refine w_p h_m256 3 (pc' := 3) (L' := [(0, .ref 143), (1, .int (xs 1)), (2, .int (xs 2))]) (st' := [.int (5 : Int32), .int (0 : Int32), .int (xs 2)]) rfl ?_
            refine w_cs (As := [.int (xs 2), .int (0 : Int32), .int (5 : Int32)]) (rest := []) (j := 159) (L0 := [(0, .int (xs 2)), (1, .int (0 : Int32)), (2, .int (5 : Int32))]) (pc' := 6) (L' := [(0, .ref 143), (1, .int (xs 1)), (2, .int (xs 2))]) h_m256 (z_at.mk 3 rfl rfl) (Or.inl ⟨rfl, rfl⟩) rfl rfl rfl rfl rfl ?_
            refine w_p h_m159 2 (pc' := 2) (L' := [(0, .int (xs 2)), (1, .int (0 : Int32)), (2, .int (5 : Int32))]) (st' := [.int (0 : Int32), .int (xs 2)]) rfl ?_
            refine w_f2 (pc' := 5) (L' := [(0, .int (xs 2)), (1, .int (0 : Int32)), (2, .int (5 : Int32))]) h_m159 (z_at.mk 3 rfl rfl) rfl (zc (a := (xs 2).toInt) (b := 0) rfl rfl (decide_eq_false (by omega))) rfl rfl ?_
            refine w_p h_m159 2 (pc' := 7) (L' := [(0, .int (xs 2)), (1, .int (0 : Int32)), (2, .int (5 : Int32))]) (st' := [.int (5 : Int32), .int (xs 2)]) rfl ?_
            refine w_f2 (pc' := 10) (L' := [(0, .int (xs 2)), (1, .int (0 : Int32)), (2, .int (5 : Int32))]) h_m159 (z_at.mk 3 rfl rfl) rfl (zc (a := (xs 2).toInt) (b := 5) rfl rfl (decide_eq_false (by omega))) rfl rfl ?_
            refine w_p h_m159 2 (pc' := 15) (L' := []) (st' := [.int (1 : Int32)]) rfl ?_
            refine w_ri h_m159 (z_at.mk 1 rfl rfl) rfl rfl ?_
            show z_W 999 256 6 [(0, .ref 143), (1, .int (xs 1)), (2, .int (xs 2))] [.int (1 : Int32)] m _
            refine w_p h_m256 4 (pc' := 17) (L' := [(0, .ref 143), (1, .int (xs 1)), (2, .int (xs 2))]) (st' := [.int (99 : Int32), .int (1 : Int32), .int (xs 1)]) rfl ?_
            refine w_cs (As := [.int (xs 1), .int (1 : Int32), .int (99 : Int32)]) (rest := []) (j := 159) (L0 := [(0, .int (xs 1)), (1, .int (1 : Int32)), (2, .int (99 : Int32))]) (pc' := 20) (L' := [(0, .ref 143), (1, .int (xs 1)), (2, .int (xs 2))]) h_m256 (z_at.mk 3 rfl rfl) (Or.inl ⟨rfl, rfl⟩) rfl rfl rfl rfl rfl ?_
            refine w_p h_m159 2 (pc' := 2) (L' := [(0, .int (xs 1)), (1, .int (1 : Int32)), (2, .int (99 : Int32))]) (st' := [.int (1 : Int32), .int (xs 1)]) rfl ?_
            refine w_f2 (pc' := 5) (L' := [(0, .int (xs 1)), (1, .int (1 : Int32)), (2, .int (99 : Int32))]) h_m159 (z_at.mk 3 rfl rfl) rfl (zc (a := (xs 1).toInt) (b := 1) rfl rfl (decide_eq_false (by omega))) rfl rfl ?_
            refine w_p h_m159 2 (pc' := 7) (L' := [(0, .int (xs 1)), (1, .int (1 : Int32)), (2, .int (99 : Int32))]) (st' := [.int (99 : Int32), .int (xs 1)]) rfl ?_
            refine w_f2 (pc' := 10) (L' := [(0, .int (xs 1)), (1, .int (1 : Int32)), (2, .int (99 : Int32))]) h_m159 (z_at.mk 3 rfl rfl) rfl (zc (a := (xs 1).toInt) (b := 99) rfl rfl (decide_eq_false (by omega))) rfl rfl ?_
            refine w_p h_m159 2 (pc' := 15) (L' := []) (st' := [.int (1 : Int32)]) rfl ?_
            refine w_ri h_m159 (z_at.mk 1 rfl rfl) rfl rfl ?_
            show z_W 999 256 20 [(0, .ref 143), (1, .int (xs 1)), (2, .int (xs 2))] [.int (1 : Int32)] m _
            refine w_p h_m256 4 (pc' := 31) (L' := [(0, .ref 143), (1, .int (xs 1)), (2, .int (xs 2))]) (st' := [.int (xs 2), .int (xs 1), .ref 143]) rfl ?_
            refine w_cv (H.t rfl) (pc' := 34) (L' := []) (rest := []) (Ps := [.int (xs 1), .int (xs 2)]) (L0 := [(0, .ref 143), (1, .int (xs 1)), (2, .int (xs 2))]) h_m256 (z_at.mk 3 rfl rfl) (Or.inl ⟨rfl, rfl⟩) rfl rfl (by decide) (by decide) rfl rfl rfl rfl rfl rfl (by decide) rfl rfl rfl ?_
            refine w_p h_m255 2 (pc' := 2) (L' := [(0, .ref 143), (1, .int (xs 1)), (2, .int (xs 2))]) (st' := [.ref 143, .ref 143]) rfl ?_
            refine w_gf H (pc' := 5) (L' := [(0, .ref 143), (1, .int (xs 1)), (2, .int (xs 2))]) h_m255 (z_at.mk 3 rfl rfl) rfl (u := .ref 146) rfl rfl rfl ?_
            refine w_p h_m255 1 (pc' := 6) (L' := [(0, .ref 143), (1, .int (xs 1)), (2, .int (xs 2))]) (st' := [.ref 143, .ref 146, .ref 143]) rfl ?_
            refine w_gf H (pc' := 9) (L' := [(0, .ref 143), (1, .int (xs 1)), (2, .int (xs 2))]) h_m255 (z_at.mk 3 rfl rfl) rfl (u := .ref 149) rfl rfl rfl ?_
            refine w_cv (H.t rfl) (pc' := 12) (L' := [(0, .ref 143), (1, .int (xs 1)), (2, .int (xs 2))]) (rest := []) (Ps := [.ref 146, .ref 149]) (L0 := [(0, .ref 143), (1, .ref 146), (2, .ref 149)]) h_m255 (z_at.mk 3 rfl rfl) (Or.inl ⟨rfl, rfl⟩) rfl rfl (by decide) (by decide) rfl rfl rfl rfl rfl rfl (by decide) rfl rfl rfl ?_
            refine w_keeps H (b1 := 146) (b2 := 149) (ra := (0, 2740, [(17, .int (1024 : Int32)), (16, .int (1 : Int32)), (15, .int (1 : Int32)), (13, .int (12 : Int32)), (12, .int (40 : Int32)), (11, .int (10 : Int32))], some (.int (0 : Int32)))) (rb := (1, 361, [], some (.long (0 : Int64)))) rfl rfl rfl rfl rfl rfl rfl rfl (by decide) (by decide) (by decide) (by decide) ?_
            clear H m; intro m H
            show z_W 998 255 12 [(0, .ref 143), (1, .int (xs 1)), (2, .int (xs 2))] [] m _
            refine w_p h_m255 1 (pc' := 13) (L' := [(0, .ref 143), (1, .int (xs 1)), (2, .int (xs 2))]) (st' := [.ref 143]) rfl ?_
            refine w_gf H (pc' := 16) (L' := [(0, .ref 143), (1, .int (xs 1)), (2, .int (xs 2))]) h_m255 (z_at.mk 3 rfl rfl) rfl (u := .ref 144) rfl rfl rfl ?_
            refine w_p h_m255 2 (pc' := 18) (L' := [(0, .ref 143), (1, .int (xs 1)), (2, .int (xs 2))]) (st' := [.int (0 : Int32), .int (0 : Int32), .ref 144]) rfl ?_
            refine w_as H (t := 0) (j := 0) (u := .int (0 : Int32)) (0, 2740, [(0, .int (0 : Int32)), (17, .int (1024 : Int32)), (16, .int (1 : Int32)), (15, .int (1 : Int32)), (13, .int (12 : Int32)), (12, .int (40 : Int32)), (11, .int (10 : Int32))], some (.int (0 : Int32))) (pc' := 19) (L' := [(0, .ref 143), (1, .int (xs 1)), (2, .int (xs 2))]) h_m255 (z_at.mk 1 rfl rfl) rfl rfl (w_ui _ _ (by decide)) rfl rfl rfl rfl ?_
            clear H m; intro m H
            refine w_p h_m255 1 (pc' := 20) (L' := [(0, .ref 143), (1, .int (xs 1)), (2, .int (xs 2))]) (st' := [.ref 143]) rfl ?_
            refine w_gf H (pc' := 23) (L' := [(0, .ref 143), (1, .int (xs 1)), (2, .int (xs 2))]) h_m255 (z_at.mk 3 rfl rfl) rfl (u := .ref 147) rfl rfl rfl ?_
            refine w_p h_m255 2 (pc' := 25) (L' := [(0, .ref 143), (1, .int (xs 1)), (2, .int (xs 2))]) (st' := [.long (0 : Int64), .int (0 : Int32), .ref 147]) rfl ?_
            refine w_as H (t := 1) (j := 0) (u := .long (0 : Int64)) (1, 361, [(0, .long (0 : Int64))], some (.long (0 : Int64))) (pc' := 26) (L' := [(0, .ref 143), (1, .int (xs 1)), (2, .int (xs 2))]) h_m255 (z_at.mk 1 rfl rfl) rfl rfl (w_ul _) rfl rfl rfl rfl ?_
            clear H m; intro m H
            refine w_p h_m255 6 (pc' := 35) (L' := [(0, .ref 143), (1, .int (xs 1)), (2, .int (xs 2)), (3, .int (2 : Int32))]) (st' := [.ref 143]) rfl ?_
            refine w_gf H (pc' := 38) (L' := [(0, .ref 143), (1, .int (xs 1)), (2, .int (xs 2)), (3, .int (2 : Int32))]) h_m255 (z_at.mk 3 rfl rfl) rfl (u := .ref 144) rfl rfl rfl ?_
            refine w_p h_m255 2 (pc' := 40) (L' := [(0, .ref 143), (1, .int (xs 1)), (2, .int (xs 2)), (3, .int (2 : Int32))]) (st' := [.int (0 : Int32), .int (2 : Int32), .ref 144]) rfl ?_
            refine w_as H (t := 0) (j := 2) (u := .int (0 : Int32)) (0, 2740, [(2, .int (0 : Int32)), (0, .int (0 : Int32)), (17, .int (1024 : Int32)), (16, .int (1 : Int32)), (15, .int (1 : Int32)), (13, .int (12 : Int32)), (12, .int (40 : Int32)), (11, .int (10 : Int32))], some (.int (0 : Int32))) (pc' := 41) (L' := [(0, .ref 143), (1, .int (xs 1)), (2, .int (xs 2)), (3, .int (2 : Int32))]) h_m255 (z_at.mk 1 rfl rfl) rfl rfl (w_ui _ _ (by decide)) rfl rfl rfl rfl ?_
            clear H m; intro m H
            refine w_p h_m255 6 (pc' := 35) (L' := [(0, .ref 143), (1, .int (xs 1)), (2, .int (xs 2)), (3, .int (3 : Int32))]) (st' := [.ref 143]) rfl ?_
            refine w_gf H (pc' := 38) (L' := [(0, .ref 143), (1, .int (xs 1)), (2, .int (xs 2)), (3, .int (3 : Int32))]) h_m255 (z_at.mk 3 rfl rfl) rfl (u := .ref 144) rfl rfl rfl ?_
            refine w_p h_m255 2 (pc' := 40) (L' := [(0, .ref 143), (1, .int (xs 1)), (2, .int (xs 2)), (3, .int (3 : Int32))]) (st' := [.int (0 : Int32), .int (3 : Int32), .ref 144]) rfl ?_
            refine w_as H (t := 0) (j := 3) (u := .int (0 : Int32)) (0, 2740, [(3, .int (0 : Int32)), (2, .int (0 : Int32)), (0, .int (0 : Int32)), (17, .int (1024 : Int32)), (16, .int (1 : Int32)), (15, .int (1 : Int32)), (13, .int (12 : Int32)), (12, .int (40 : Int32)), (11, .int (10 : Int32))], some (.int (0 : Int32))) (pc' := 41) (L' := [(0, .ref 143), (1, .int (xs 1)), (2, .int (xs 2)), (3, .int (3 : Int32))]) h_m255 (z_at.mk 1 rfl rfl) rfl rfl (w_ui _ _ (by decide)) rfl rfl rfl rfl ?_
            clear H m; intro m H
            refine w_p h_m255 6 (pc' := 35) (L' := [(0, .ref 143), (1, .int (xs 1)), (2, .int (xs 2)), (3, .int (4 : Int32))]) (st' := [.ref 143]) rfl ?_
            refine w_gf H (pc' := 38) (L' := [(0, .ref 143), (1, .int (xs 1)), (2, .int (xs 2)), (3, .int (4 : Int32))]) h_m255 (z_at.mk 3 rfl rfl) rfl (u := .ref 144) rfl rfl rfl ?_
            refine w_p h_m255 2 (pc' := 40) (L' := [(0, .ref 143), (1, .int (xs 1)), (2, .int (xs 2)), (3, .int (4 : Int32))]) (st' := [.int (0 : Int32), .int (4 : Int32), .ref 144]) rfl ?_
            refine w_as H (t := 0) (j := 4) (u := .int (0 : Int32)) (0, 2740, [(4, .int (0 : Int32)), (3, .int (0 : Int32)), (2, .int (0 : Int32)), (0, .int (0 : Int32)), (17, .int (1024 : Int32)), (16, .int (1 : Int32)), (15, .int (1 : Int32)), (13, .int (12 : Int32)), (12, .int (40 : Int32)), (11, .int (10 : Int32))], some (.int (0 : Int32))) (pc' := 41) (L' := [(0, .ref 143), (1, .int (xs 1)), (2, .int (xs 2)), (3, .int (4 : Int32))]) h_m255 (z_at.mk 1 rfl rfl) rfl rfl (w_ui _ _ (by decide)) rfl rfl rfl rfl ?_
            clear H m; intro m H
            refine w_p h_m255 6 (pc' := 35) (L' := [(0, .ref 143), (1, .int (xs 1)), (2, .int (xs 2)), (3, .int (5 : Int32))]) (st' := [.ref 143]) rfl ?_
            refine w_gf H (pc' := 38) (L' := [(0, .ref 143), (1, .int (xs 1)), (2, .int (xs 2)), (3, .int (5 : Int32))]) h_m255 (z_at.mk 3 rfl rfl) rfl (u := .ref 144) rfl rfl rfl ?_
            refine w_p h_m255 2 (pc' := 40) (L' := [(0, .ref 143), (1, .int (xs 1)), (2, .int (xs 2)), (3, .int (5 : Int32))]) (st' := [.int (0 : Int32), .int (5 : Int32), .ref 144]) rfl ?_
            refine w_as H (t := 0) (j := 5) (u := .int (0 : Int32)) (0, 2740, [(5, .int (0 : Int32)), (4, .int (0 : Int32)), (3, .int (0 : Int32)), (2, .int (0 : Int32)), (0, .int (0 : Int32)), (17, .int (1024 : Int32)), (16, .int (1 : Int32)), (15, .int (1 : Int32)), (13, .int (12 : Int32)), (12, .int (40 : Int32)), (11, .int (10 : Int32))], some (.int (0 : Int32))) (pc' := 41) (L' := [(0, .ref 143), (1, .int (xs 1)), (2, .int (xs 2)), (3, .int (5 : Int32))]) h_m255 (z_at.mk 1 rfl rfl) rfl rfl (w_ui _ _ (by decide)) rfl rfl rfl rfl ?_
            clear H m; intro m H
            refine w_p h_m255 6 (pc' := 35) (L' := [(0, .ref 143), (1, .int (xs 1)), (2, .int (xs 2)), (3, .int (6 : Int32))]) (st' := [.ref 143]) rfl ?_
            refine w_gf H (pc' := 38) (L' := [(0, .ref 143), (1, .int (xs 1)), (2, .int (xs 2)), (3, .int (6 : Int32))]) h_m255 (z_at.mk 3 rfl rfl) rfl (u := .ref 144) rfl rfl rfl ?_
            refine w_p h_m255 2 (pc' := 40) (L' := [(0, .ref 143), (1, .int (xs 1)), (2, .int (xs 2)), (3, .int (6 : Int32))]) (st' := [.int (0 : Int32), .int (6 : Int32), .ref 144]) rfl ?_
            refine w_as H (t := 0) (j := 6) (u := .int (0 : Int32)) (0, 2740, [(6, .int (0 : Int32)), (5, .int (0 : Int32)), (4, .int (0 : Int32)), (3, .int (0 : Int32)), (2, .int (0 : Int32)), (0, .int (0 : Int32)), (17, .int (1024 : Int32)), (16, .int (1 : Int32)), (15, .int (1 : Int32)), (13, .int (12 : Int32)), (12, .int (40 : Int32)), (11, .int (10 : Int32))], some (.int (0 : Int32))) (pc' := 41) (L' := [(0, .ref 143), (1, .int (xs 1)), (2, .int (xs 2)), (3, .int (6 : Int32))]) h_m255 (z_at.mk 1 rfl rfl) rfl rfl (w_ui _ _ (by decide)) rfl rfl rfl rfl ?_
            clear H m; intro m H
            refine w_p h_m255 6 (pc' := 35) (L' := [(0, .ref 143), (1, .int (xs 1)), (2, .int (xs 2)), (3, .int (7 : Int32))]) (st' := [.ref 143]) rfl ?_
            refine w_gf H (pc' := 38) (L' := [(0, .ref 143), (1, .int (xs 1)), (2, .int (xs 2)), (3, .int (7 : Int32))]) h_m255 (z_at.mk 3 rfl rfl) rfl (u := .ref 144) rfl rfl rfl ?_
            refine w_p h_m255 2 (pc' := 40) (L' := [(0, .ref 143), (1, .int (xs 1)), (2, .int (xs 2)), (3, .int (7 : Int32))]) (st' := [.int (0 : Int32), .int (7 : Int32), .ref 144]) rfl ?_
            refine w_as H (t := 0) (j := 7) (u := .int (0 : Int32)) (0, 2740, [(7, .int (0 : Int32)), (6, .int (0 : Int32)), (5, .int (0 : Int32)), (4, .int (0 : Int32)), (3, .int (0 : Int32)), (2, .int (0 : Int32)), (0, .int (0 : Int32)), (17, .int (1024 : Int32)), (16, .int (1 : Int32)), (15, .int (1 : Int32)), (13, .int (12 : Int32)), (12, .int (40 : Int32)), (11, .int (10 : Int32))], some (.int (0 : Int32))) (pc' := 41) (L' := [(0, .ref 143), (1, .int (xs 1)), (2, .int (xs 2)), (3, .int (7 : Int32))]) h_m255 (z_at.mk 1 rfl rfl) rfl rfl (w_ui _ _ (by decide)) rfl rfl rfl rfl ?_
            clear H m; intro m H
            refine w_p h_m255 6 (pc' := 48) (L' := [(0, .ref 143), (1, .int (xs 1)), (2, .int (xs 2)), (3, .int (8 : Int32))]) (st' := [.ref 143]) rfl ?_
            refine w_gf H (pc' := 51) (L' := [(0, .ref 143), (1, .int (xs 1)), (2, .int (xs 2)), (3, .int (8 : Int32))]) h_m255 (z_at.mk 3 rfl rfl) rfl (u := .ref 144) rfl rfl rfl ?_
            refine w_p h_m255 2 (pc' := 54) (L' := [(0, .ref 143), (1, .int (xs 1)), (2, .int (xs 2)), (3, .int (8 : Int32))]) (st' := [.int (xs 1), .int (12 : Int32), .ref 144]) rfl ?_
            refine w_as H (t := 0) (j := 12) (u := .int (xs 1)) (0, 2740, [(12, .int (xs 1)), (7, .int (0 : Int32)), (6, .int (0 : Int32)), (5, .int (0 : Int32)), (4, .int (0 : Int32)), (3, .int (0 : Int32)), (2, .int (0 : Int32)), (0, .int (0 : Int32)), (17, .int (1024 : Int32)), (16, .int (1 : Int32)), (15, .int (1 : Int32)), (13, .int (12 : Int32)), (11, .int (10 : Int32))], some (.int (0 : Int32))) (pc' := 55) (L' := [(0, .ref 143), (1, .int (xs 1)), (2, .int (xs 2)), (3, .int (8 : Int32))]) h_m255 (z_at.mk 1 rfl rfl) rfl rfl (w_ui _ _ (by decide)) rfl rfl rfl rfl ?_
            clear H m; intro m H
            refine w_p h_m255 4 (pc' := 59) (L' := [(0, .ref 143), (2, .int (xs 2)), (3, .int (0 : Int32))]) (st' := [.ref 143, .int (0 : Int32)]) rfl ?_
            refine w_gf H (pc' := 62) (L' := [(0, .ref 143), (2, .int (xs 2)), (3, .int (0 : Int32))]) h_m255 (z_at.mk 3 rfl rfl) rfl (u := .ref 144) rfl rfl rfl ?_
            refine w_p h_m255 1 (pc' := 64) (L' := [(0, .ref 143), (2, .int (xs 2)), (3, .int (0 : Int32))]) (st' := [.int (9 : Int32), .ref 144, .int (0 : Int32)]) rfl ?_
            refine w_al H (t := 0) (j := 9) (pc' := 65) (L' := [(0, .ref 143), (2, .int (xs 2)), (3, .int (0 : Int32))]) h_m255 (z_at.mk 1 rfl rfl) rfl rfl rfl (u := .int (0 : Int32)) rfl rfl rfl ?_
            refine w_p h_m255 2 (pc' := 98) (L' := [(0, .ref 143), (2, .int (xs 2)), (3, .int (0 : Int32))]) (st' := [.int (xs 2)]) rfl ?_
            refine w_t1 (pc' := 110) (L' := [(0, .ref 143), (2, .int (xs 2)), (3, .int (0 : Int32))]) h_m255 (z_at.mk 3 rfl rfl) rfl (zc (a := (xs 2).toInt) (b := 0) rfl rfl (decide_eq_true (by omega))) rfl rfl ?_
            refine w_p h_m255 2 (pc' := 112) (L' := [(0, .ref 143), (2, .int (xs 2)), (3, .int (0 : Int32))]) (st' := [.int (1 : Int32), .int (xs 2)]) rfl ?_
            refine w_t2 (pc' := 124) (L' := [(0, .ref 143), (2, .int (xs 2)), (3, .int (0 : Int32))]) h_m255 (z_at.mk 3 rfl rfl) rfl (zc (a := (xs 2).toInt) (b := 1) rfl rfl (decide_eq_true (by omega))) rfl rfl ?_
            refine w_p h_m255 2 (pc' := 126) (L' := [(0, .ref 143), (2, .int (xs 2)), (3, .int (0 : Int32))]) (st' := [.int (5 : Int32), .int (xs 2)]) rfl ?_
            refine w_f2 (pc' := 129) (L' := [(0, .ref 143), (2, .int (xs 2)), (3, .int (0 : Int32))]) h_m255 (z_at.mk 3 rfl rfl) rfl (zc (a := (xs 2).toInt) (b := 5) rfl rfl (decide_eq_false (by omega))) rfl rfl ?_
            refine w_p h_m255 1 (pc' := 130) (L' := [(0, .ref 143), (2, .int (xs 2)), (3, .int (0 : Int32))]) (st' := [.ref 143]) rfl ?_
            refine w_gf H (pc' := 133) (L' := [(0, .ref 143), (2, .int (xs 2)), (3, .int (0 : Int32))]) h_m255 (z_at.mk 3 rfl rfl) rfl (u := .ref 144) rfl rfl rfl ?_
            refine w_p h_m255 5 (pc' := 138) (L' := [(0, .ref 143), (2, .int (xs 2)), (3, .int (0 : Int32))]) (st' := [.int (((4 : Int32) + (xs 2)) - (2 : Int32)), .ref 144]) rfl ?_
            have c_9 : (xs 2).toInt + 2 = 5 := by omega
            refine w_top (v' := .int (5 : Int32)) (congrArg Value.int (zi_lit (c := (xs 2).toInt + 2) (zi_sub (a := (xs 2).toInt + 4) (b := 2) (c := (xs 2).toInt + 2) (zi_add (a := 4) (b := (xs 2).toInt) (c := (xs 2).toInt + 4) rfl rfl (by omega) (by omega) (by omega)) rfl (by omega) (by omega) (by omega)) c_9)) ?_
            refine w_al H (t := 0) (j := 5) (pc' := 139) (L' := [(0, .ref 143), (2, .int (xs 2)), (3, .int (0 : Int32))]) h_m255 (z_at.mk 1 rfl rfl) rfl rfl rfl (u := .int (0 : Int32)) rfl rfl rfl ?_
            refine w_p h_m255 4 (pc' := 151) (L' := [(3, .int (0 : Int32)), (0, .ref 143)]) (st' := [.ref 143, .ref 143]) rfl ?_
            refine w_gf H (pc' := 154) (L' := [(3, .int (0 : Int32)), (0, .ref 143)]) h_m255 (z_at.mk 3 rfl rfl) rfl (u := .ref 146) rfl rfl rfl ?_
            refine w_p h_m255 1 (pc' := 155) (L' := [(3, .int (0 : Int32)), (0, .ref 143)]) (st' := [.ref 143, .ref 146, .ref 143]) rfl ?_
            refine w_gf H (pc' := 158) (L' := [(3, .int (0 : Int32)), (0, .ref 143)]) h_m255 (z_at.mk 3 rfl rfl) rfl (u := .ref 149) rfl rfl rfl ?_
            refine w_cv (H.t rfl) (pc' := 161) (L' := [(3, .int (0 : Int32)), (0, .ref 143)]) (rest := []) (Ps := [.ref 146, .ref 149]) (L0 := [(0, .ref 143), (1, .ref 146), (2, .ref 149)]) h_m255 (z_at.mk 3 rfl rfl) (Or.inl ⟨rfl, rfl⟩) rfl rfl (by decide) (by decide) rfl rfl rfl rfl rfl rfl (by decide) rfl rfl rfl ?_
            refine w_back H (b1 := 146) (b2 := 149) (ra := (0, 2740, [(17, .int (1024 : Int32)), (16, .int (1 : Int32)), (15, .int (1 : Int32)), (13, .int (12 : Int32)), (12, .int (40 : Int32)), (11, .int (10 : Int32))], some (.int (0 : Int32)))) (rb := (1, 361, [], some (.long (0 : Int64)))) rfl rfl rfl rfl rfl rfl rfl rfl (by decide) (by decide) (by decide) (by decide) ?_
            clear H m; intro m H
            show z_W 998 255 161 [(3, .int (0 : Int32)), (0, .ref 143)] [] m _
            refine w_p h_m255 1 (pc' := 162) (L' := [(3, .int (0 : Int32)), (0, .ref 143)]) (st' := [.int (0 : Int32)]) rfl ?_
            refine w_ri h_m255 (z_at.mk 1 rfl rfl) rfl rfl ?_
            show z_W 999 256 34 [] [.int (0 : Int32)] m _
            refine w_ri h_m256 (z_at.mk 1 rfl rfl) rfl rfl ?_
            show z_W 1000 1000 941 [(0, .ref 0), (1, .ref 39), (2, .ref 143), (3, .int (0 : Int32))] [.int (0 : Int32), .int (0 : Int32)] m _
            refine w_p h_m1000 5 (pc' := 20) (L' := [(0, .ref 0), (1, .ref 39), (2, .ref 143), (3, .int (6 : Int32))]) (st' := [.ref 0, .int (6 : Int32)]) rfl ?_
            refine w_lene H (x := (6 : Int32)) (pc' := 21) (L' := [(0, .ref 0), (1, .ref 39), (2, .ref 143), (3, .int (6 : Int32))]) h_m1000 (z_at.mk 1 rfl rfl) (by decide) rfl (by decide) rfl rfl rfl ?_
            refine w_p h_m1000 4 (pc' := 1381) (L' := [(0, .ref 0), (1, .ref 39), (2, .ref 143), (3, .int (6 : Int32))]) (st' := [.int (1 : Int32)]) rfl ?_
            refine w_ri h_m1000 (z_at.mk 1 rfl rfl) rfl rfl ?_
            exact hQ _ _ _ _ H (by decide) (by decide)
          by_cases c_9 : (xs 2).toInt = 4
          · refine w_sw (off := 65) (pc' := 96) (L' := [(0, .ref 39), (1, .int (xs 1)), (2, .int (xs 2))]) h_m144 (z_at.mk 33 rfl rfl) (z_off_v (v := 4) c_9 (by decide)) rfl rfl rfl ?_
            refine w_p h_m144 1 (pc' := 97) (L' := [(0, .ref 39), (1, .int (xs 1)), (2, .int (xs 2))]) (st' := [.ref 39]) rfl ?_
            refine w_gf H (pc' := 100) (L' := [(0, .ref 39), (1, .int (xs 1)), (2, .int (xs 2))]) h_m144 (z_at.mk 3 rfl rfl) rfl (u := .ref 106) rfl rfl rfl ?_
            refine w_gf H (pc' := 103) (L' := [(0, .ref 39), (1, .int (xs 1)), (2, .int (xs 2))]) h_m144 (z_at.mk 3 rfl rfl) rfl (u := .int (0 : Int32)) rfl rfl rfl ?_
            refine w_ri h_m144 (z_at.mk 1 rfl rfl) rfl rfl ?_
            show z_W 1000 1000 927 [(0, .ref 0), (1, .ref 39), (2, .ref 143), (3, .int (0 : Int32))] [.int (0 : Int32)] m _
            refine w_p h_m1000 5 (pc' := 932) (L' := [(0, .ref 0), (1, .ref 39), (2, .ref 143), (3, .int (0 : Int32))]) (st' := [.int (1 : Int32), .ref 0, .ref 143, .int (0 : Int32)]) rfl ?_
            refine w_ae H (j := 1) (pc' := 933) (L' := [(0, .ref 0), (1, .ref 39), (2, .ref 143), (3, .int (0 : Int32))]) h_m1000 (z_at.mk 1 rfl rfl) rfl rfl rfl (by decide) rfl (by decide) rfl rfl rfl ?_
            refine w_p h_m1000 4 (pc' := 937) (L' := [(0, .ref 0), (1, .ref 39), (2, .ref 143), (3, .int (0 : Int32))]) (st' := [.int (2 : Int32), .ref 0, .int (xs 1), .ref 143, .int (0 : Int32)]) rfl ?_
            refine w_ae H (j := 2) (pc' := 938) (L' := [(0, .ref 0), (1, .ref 39), (2, .ref 143), (3, .int (0 : Int32))]) h_m1000 (z_at.mk 1 rfl rfl) rfl rfl rfl (by decide) rfl (by decide) rfl rfl rfl ?_
            refine w_cv (H.t rfl) (pc' := 941) (L' := [(0, .ref 0), (1, .ref 39), (2, .ref 143), (3, .int (0 : Int32))]) (rest := [.int (0 : Int32)]) (Ps := [.int (xs 1), .int (xs 2)]) (L0 := [(0, .ref 143), (1, .int (xs 1)), (2, .int (xs 2))]) h_m1000 (z_at.mk 3 rfl rfl) (Or.inl ⟨rfl, rfl⟩) rfl rfl (by decide) (by decide) rfl rfl rfl rfl rfl rfl (by decide) rfl rfl rfl ?_
            refine w_p h_m256 3 (pc' := 3) (L' := [(0, .ref 143), (1, .int (xs 1)), (2, .int (xs 2))]) (st' := [.int (5 : Int32), .int (0 : Int32), .int (xs 2)]) rfl ?_
            refine w_cs (As := [.int (xs 2), .int (0 : Int32), .int (5 : Int32)]) (rest := []) (j := 159) (L0 := [(0, .int (xs 2)), (1, .int (0 : Int32)), (2, .int (5 : Int32))]) (pc' := 6) (L' := [(0, .ref 143), (1, .int (xs 1)), (2, .int (xs 2))]) h_m256 (z_at.mk 3 rfl rfl) (Or.inl ⟨rfl, rfl⟩) rfl rfl rfl rfl rfl ?_
            refine w_p h_m159 2 (pc' := 2) (L' := [(0, .int (xs 2)), (1, .int (0 : Int32)), (2, .int (5 : Int32))]) (st' := [.int (0 : Int32), .int (xs 2)]) rfl ?_
            refine w_f2 (pc' := 5) (L' := [(0, .int (xs 2)), (1, .int (0 : Int32)), (2, .int (5 : Int32))]) h_m159 (z_at.mk 3 rfl rfl) rfl (zc (a := (xs 2).toInt) (b := 0) rfl rfl (decide_eq_false (by omega))) rfl rfl ?_
            refine w_p h_m159 2 (pc' := 7) (L' := [(0, .int (xs 2)), (1, .int (0 : Int32)), (2, .int (5 : Int32))]) (st' := [.int (5 : Int32), .int (xs 2)]) rfl ?_
            refine w_f2 (pc' := 10) (L' := [(0, .int (xs 2)), (1, .int (0 : Int32)), (2, .int (5 : Int32))]) h_m159 (z_at.mk 3 rfl rfl) rfl (zc (a := (xs 2).toInt) (b := 5) rfl rfl (decide_eq_false (by omega))) rfl rfl ?_
            refine w_p h_m159 2 (pc' := 15) (L' := []) (st' := [.int (1 : Int32)]) rfl ?_
            refine w_ri h_m159 (z_at.mk 1 rfl rfl) rfl rfl ?_
            show z_W 999 256 6 [(0, .ref 143), (1, .int (xs 1)), (2, .int (xs 2))] [.int (1 : Int32)] m _
            refine w_p h_m256 4 (pc' := 17) (L' := [(0, .ref 143), (1, .int (xs 1)), (2, .int (xs 2))]) (st' := [.int (99 : Int32), .int (1 : Int32), .int (xs 1)]) rfl ?_
            refine w_cs (As := [.int (xs 1), .int (1 : Int32), .int (99 : Int32)]) (rest := []) (j := 159) (L0 := [(0, .int (xs 1)), (1, .int (1 : Int32)), (2, .int (99 : Int32))]) (pc' := 20) (L' := [(0, .ref 143), (1, .int (xs 1)), (2, .int (xs 2))]) h_m256 (z_at.mk 3 rfl rfl) (Or.inl ⟨rfl, rfl⟩) rfl rfl rfl rfl rfl ?_
            refine w_p h_m159 2 (pc' := 2) (L' := [(0, .int (xs 1)), (1, .int (1 : Int32)), (2, .int (99 : Int32))]) (st' := [.int (1 : Int32), .int (xs 1)]) rfl ?_
            refine w_f2 (pc' := 5) (L' := [(0, .int (xs 1)), (1, .int (1 : Int32)), (2, .int (99 : Int32))]) h_m159 (z_at.mk 3 rfl rfl) rfl (zc (a := (xs 1).toInt) (b := 1) rfl rfl (decide_eq_false (by omega))) rfl rfl ?_
            refine w_p h_m159 2 (pc' := 7) (L' := [(0, .int (xs 1)), (1, .int (1 : Int32)), (2, .int (99 : Int32))]) (st' := [.int (99 : Int32), .int (xs 1)]) rfl ?_
            refine w_f2 (pc' := 10) (L' := [(0, .int (xs 1)), (1, .int (1 : Int32)), (2, .int (99 : Int32))]) h_m159 (z_at.mk 3 rfl rfl) rfl (zc (a := (xs 1).toInt) (b := 99) rfl rfl (decide_eq_false (by omega))) rfl rfl ?_
            refine w_p h_m159 2 (pc' := 15) (L' := []) (st' := [.int (1 : Int32)]) rfl ?_
            refine w_ri h_m159 (z_at.mk 1 rfl rfl) rfl rfl ?_
            show z_W 999 256 20 [(0, .ref 143), (1, .int (xs 1)), (2, .int (xs 2))] [.int (1 : Int32)] m _
            refine w_p h_m256 4 (pc' := 31) (L' := [(0, .ref 143), (1, .int (xs 1)), (2, .int (xs 2))]) (st' := [.int (xs 2), .int (xs 1), .ref 143]) rfl ?_
            refine w_cv (H.t rfl) (pc' := 34) (L' := []) (rest := []) (Ps := [.int (xs 1), .int (xs 2)]) (L0 := [(0, .ref 143), (1, .int (xs 1)), (2, .int (xs 2))]) h_m256 (z_at.mk 3 rfl rfl) (Or.inl ⟨rfl, rfl⟩) rfl rfl (by decide) (by decide) rfl rfl rfl rfl rfl rfl (by decide) rfl rfl rfl ?_
            refine w_p h_m255 2 (pc' := 2) (L' := [(0, .ref 143), (1, .int (xs 1)), (2, .int (xs 2))]) (st' := [.ref 143, .ref 143]) rfl ?_
            refine w_gf H (pc' := 5) (L' := [(0, .ref 143), (1, .int (xs 1)), (2, .int (xs 2))]) h_m255 (z_at.mk 3 rfl rfl) rfl (u := .ref 146) rfl rfl rfl ?_
            refine w_p h_m255 1 (pc' := 6) (L' := [(0, .ref 143), (1, .int (xs 1)), (2, .int (xs 2))]) (st' := [.ref 143, .ref 146, .ref 143]) rfl ?_
            refine w_gf H (pc' := 9) (L' := [(0, .ref 143), (1, .int (xs 1)), (2, .int (xs 2))]) h_m255 (z_at.mk 3 rfl rfl) rfl (u := .ref 149) rfl rfl rfl ?_
            refine w_cv (H.t rfl) (pc' := 12) (L' := [(0, .ref 143), (1, .int (xs 1)), (2, .int (xs 2))]) (rest := []) (Ps := [.ref 146, .ref 149]) (L0 := [(0, .ref 143), (1, .ref 146), (2, .ref 149)]) h_m255 (z_at.mk 3 rfl rfl) (Or.inl ⟨rfl, rfl⟩) rfl rfl (by decide) (by decide) rfl rfl rfl rfl rfl rfl (by decide) rfl rfl rfl ?_
            refine w_keeps H (b1 := 146) (b2 := 149) (ra := (0, 2740, [(17, .int (1024 : Int32)), (16, .int (1 : Int32)), (15, .int (1 : Int32)), (13, .int (12 : Int32)), (12, .int (40 : Int32)), (11, .int (10 : Int32))], some (.int (0 : Int32)))) (rb := (1, 361, [], some (.long (0 : Int64)))) rfl rfl rfl rfl rfl rfl rfl rfl (by decide) (by decide) (by decide) (by decide) ?_
            clear H m; intro m H
            show z_W 998 255 12 [(0, .ref 143), (1, .int (xs 1)), (2, .int (xs 2))] [] m _
            refine w_p h_m255 1 (pc' := 13) (L' := [(0, .ref 143), (1, .int (xs 1)), (2, .int (xs 2))]) (st' := [.ref 143]) rfl ?_
            refine w_gf H (pc' := 16) (L' := [(0, .ref 143), (1, .int (xs 1)), (2, .int (xs 2))]) h_m255 (z_at.mk 3 rfl rfl) rfl (u := .ref 144) rfl rfl rfl ?_
            refine w_p h_m255 2 (pc' := 18) (L' := [(0, .ref 143), (1, .int (xs 1)), (2, .int (xs 2))]) (st' := [.int (0 : Int32), .int (0 : Int32), .ref 144]) rfl ?_
            refine w_as H (t := 0) (j := 0) (u := .int (0 : Int32)) (0, 2740, [(0, .int (0 : Int32)), (17, .int (1024 : Int32)), (16, .int (1 : Int32)), (15, .int (1 : Int32)), (13, .int (12 : Int32)), (12, .int (40 : Int32)), (11, .int (10 : Int32))], some (.int (0 : Int32))) (pc' := 19) (L' := [(0, .ref 143), (1, .int (xs 1)), (2, .int (xs 2))]) h_m255 (z_at.mk 1 rfl rfl) rfl rfl (w_ui _ _ (by decide)) rfl rfl rfl rfl ?_
            clear H m; intro m H
            refine w_p h_m255 1 (pc' := 20) (L' := [(0, .ref 143), (1, .int (xs 1)), (2, .int (xs 2))]) (st' := [.ref 143]) rfl ?_
            refine w_gf H (pc' := 23) (L' := [(0, .ref 143), (1, .int (xs 1)), (2, .int (xs 2))]) h_m255 (z_at.mk 3 rfl rfl) rfl (u := .ref 147) rfl rfl rfl ?_
            refine w_p h_m255 2 (pc' := 25) (L' := [(0, .ref 143), (1, .int (xs 1)), (2, .int (xs 2))]) (st' := [.long (0 : Int64), .int (0 : Int32), .ref 147]) rfl ?_
            refine w_as H (t := 1) (j := 0) (u := .long (0 : Int64)) (1, 361, [(0, .long (0 : Int64))], some (.long (0 : Int64))) (pc' := 26) (L' := [(0, .ref 143), (1, .int (xs 1)), (2, .int (xs 2))]) h_m255 (z_at.mk 1 rfl rfl) rfl rfl (w_ul _) rfl rfl rfl rfl ?_
            clear H m; intro m H
            refine w_p h_m255 6 (pc' := 35) (L' := [(0, .ref 143), (1, .int (xs 1)), (2, .int (xs 2)), (3, .int (2 : Int32))]) (st' := [.ref 143]) rfl ?_
            refine w_gf H (pc' := 38) (L' := [(0, .ref 143), (1, .int (xs 1)), (2, .int (xs 2)), (3, .int (2 : Int32))]) h_m255 (z_at.mk 3 rfl rfl) rfl (u := .ref 144) rfl rfl rfl ?_
            refine w_p h_m255 2 (pc' := 40) (L' := [(0, .ref 143), (1, .int (xs 1)), (2, .int (xs 2)), (3, .int (2 : Int32))]) (st' := [.int (0 : Int32), .int (2 : Int32), .ref 144]) rfl ?_
            refine w_as H (t := 0) (j := 2) (u := .int (0 : Int32)) (0, 2740, [(2, .int (0 : Int32)), (0, .int (0 : Int32)), (17, .int (1024 : Int32)), (16, .int (1 : Int32)), (15, .int (1 : Int32)), (13, .int (12 : Int32)), (12, .int (40 : Int32)), (11, .int (10 : Int32))], some (.int (0 : Int32))) (pc' := 41) (L' := [(0, .ref 143), (1, .int (xs 1)), (2, .int (xs 2)), (3, .int (2 : Int32))]) h_m255 (z_at.mk 1 rfl rfl) rfl rfl (w_ui _ _ (by decide)) rfl rfl rfl rfl ?_
            clear H m; intro m H
            refine w_p h_m255 6 (pc' := 35) (L' := [(0, .ref 143), (1, .int (xs 1)), (2, .int (xs 2)), (3, .int (3 : Int32))]) (st' := [.ref 143]) rfl ?_
            refine w_gf H (pc' := 38) (L' := [(0, .ref 143), (1, .int (xs 1)), (2, .int (xs 2)), (3, .int (3 : Int32))]) h_m255 (z_at.mk 3 rfl rfl) rfl (u := .ref 144) rfl rfl rfl ?_
            refine w_p h_m255 2 (pc' := 40) (L' := [(0, .ref 143), (1, .int (xs 1)), (2, .int (xs 2)), (3, .int (3 : Int32))]) (st' := [.int (0 : Int32), .int (3 : Int32), .ref 144]) rfl ?_
            refine w_as H (t := 0) (j := 3) (u := .int (0 : Int32)) (0, 2740, [(3, .int (0 : Int32)), (2, .int (0 : Int32)), (0, .int (0 : Int32)), (17, .int (1024 : Int32)), (16, .int (1 : Int32)), (15, .int (1 : Int32)), (13, .int (12 : Int32)), (12, .int (40 : Int32)), (11, .int (10 : Int32))], some (.int (0 : Int32))) (pc' := 41) (L' := [(0, .ref 143), (1, .int (xs 1)), (2, .int (xs 2)), (3, .int (3 : Int32))]) h_m255 (z_at.mk 1 rfl rfl) rfl rfl (w_ui _ _ (by decide)) rfl rfl rfl rfl ?_
            clear H m; intro m H
            refine w_p h_m255 6 (pc' := 35) (L' := [(0, .ref 143), (1, .int (xs 1)), (2, .int (xs 2)), (3, .int (4 : Int32))]) (st' := [.ref 143]) rfl ?_
            refine w_gf H (pc' := 38) (L' := [(0, .ref 143), (1, .int (xs 1)), (2, .int (xs 2)), (3, .int (4 : Int32))]) h_m255 (z_at.mk 3 rfl rfl) rfl (u := .ref 144) rfl rfl rfl ?_
            refine w_p h_m255 2 (pc' := 40) (L' := [(0, .ref 143), (1, .int (xs 1)), (2, .int (xs 2)), (3, .int (4 : Int32))]) (st' := [.int (0 : Int32), .int (4 : Int32), .ref 144]) rfl ?_
            refine w_as H (t := 0) (j := 4) (u := .int (0 : Int32)) (0, 2740, [(4, .int (0 : Int32)), (3, .int (0 : Int32)), (2, .int (0 : Int32)), (0, .int (0 : Int32)), (17, .int (1024 : Int32)), (16, .int (1 : Int32)), (15, .int (1 : Int32)), (13, .int (12 : Int32)), (12, .int (40 : Int32)), (11, .int (10 : Int32))], some (.int (0 : Int32))) (pc' := 41) (L' := [(0, .ref 143), (1, .int (xs 1)), (2, .int (xs 2)), (3, .int (4 : Int32))]) h_m255 (z_at.mk 1 rfl rfl) rfl rfl (w_ui _ _ (by decide)) rfl rfl rfl rfl ?_
            clear H m; intro m H
            refine w_p h_m255 6 (pc' := 35) (L' := [(0, .ref 143), (1, .int (xs 1)), (2, .int (xs 2)), (3, .int (5 : Int32))]) (st' := [.ref 143]) rfl ?_
            refine w_gf H (pc' := 38) (L' := [(0, .ref 143), (1, .int (xs 1)), (2, .int (xs 2)), (3, .int (5 : Int32))]) h_m255 (z_at.mk 3 rfl rfl) rfl (u := .ref 144) rfl rfl rfl ?_
            refine w_p h_m255 2 (pc' := 40) (L' := [(0, .ref 143), (1, .int (xs 1)), (2, .int (xs 2)), (3, .int (5 : Int32))]) (st' := [.int (0 : Int32), .int (5 : Int32), .ref 144]) rfl ?_
            refine w_as H (t := 0) (j := 5) (u := .int (0 : Int32)) (0, 2740, [(5, .int (0 : Int32)), (4, .int (0 : Int32)), (3, .int (0 : Int32)), (2, .int (0 : Int32)), (0, .int (0 : Int32)), (17, .int (1024 : Int32)), (16, .int (1 : Int32)), (15, .int (1 : Int32)), (13, .int (12 : Int32)), (12, .int (40 : Int32)), (11, .int (10 : Int32))], some (.int (0 : Int32))) (pc' := 41) (L' := [(0, .ref 143), (1, .int (xs 1)), (2, .int (xs 2)), (3, .int (5 : Int32))]) h_m255 (z_at.mk 1 rfl rfl) rfl rfl (w_ui _ _ (by decide)) rfl rfl rfl rfl ?_
            clear H m; intro m H
            refine w_p h_m255 6 (pc' := 35) (L' := [(0, .ref 143), (1, .int (xs 1)), (2, .int (xs 2)), (3, .int (6 : Int32))]) (st' := [.ref 143]) rfl ?_
            refine w_gf H (pc' := 38) (L' := [(0, .ref 143), (1, .int (xs 1)), (2, .int (xs 2)), (3, .int (6 : Int32))]) h_m255 (z_at.mk 3 rfl rfl) rfl (u := .ref 144) rfl rfl rfl ?_
            refine w_p h_m255 2 (pc' := 40) (L' := [(0, .ref 143), (1, .int (xs 1)), (2, .int (xs 2)), (3, .int (6 : Int32))]) (st' := [.int (0 : Int32), .int (6 : Int32), .ref 144]) rfl ?_
            refine w_as H (t := 0) (j := 6) (u := .int (0 : Int32)) (0, 2740, [(6, .int (0 : Int32)), (5, .int (0 : Int32)), (4, .int (0 : Int32)), (3, .int (0 : Int32)), (2, .int (0 : Int32)), (0, .int (0 : Int32)), (17, .int (1024 : Int32)), (16, .int (1 : Int32)), (15, .int (1 : Int32)), (13, .int (12 : Int32)), (12, .int (40 : Int32)), (11, .int (10 : Int32))], some (.int (0 : Int32))) (pc' := 41) (L' := [(0, .ref 143), (1, .int (xs 1)), (2, .int (xs 2)), (3, .int (6 : Int32))]) h_m255 (z_at.mk 1 rfl rfl) rfl rfl (w_ui _ _ (by decide)) rfl rfl rfl rfl ?_
            clear H m; intro m H
            refine w_p h_m255 6 (pc' := 35) (L' := [(0, .ref 143), (1, .int (xs 1)), (2, .int (xs 2)), (3, .int (7 : Int32))]) (st' := [.ref 143]) rfl ?_
            refine w_gf H (pc' := 38) (L' := [(0, .ref 143), (1, .int (xs 1)), (2, .int (xs 2)), (3, .int (7 : Int32))]) h_m255 (z_at.mk 3 rfl rfl) rfl (u := .ref 144) rfl rfl rfl ?_
            refine w_p h_m255 2 (pc' := 40) (L' := [(0, .ref 143), (1, .int (xs 1)), (2, .int (xs 2)), (3, .int (7 : Int32))]) (st' := [.int (0 : Int32), .int (7 : Int32), .ref 144]) rfl ?_
            refine w_as H (t := 0) (j := 7) (u := .int (0 : Int32)) (0, 2740, [(7, .int (0 : Int32)), (6, .int (0 : Int32)), (5, .int (0 : Int32)), (4, .int (0 : Int32)), (3, .int (0 : Int32)), (2, .int (0 : Int32)), (0, .int (0 : Int32)), (17, .int (1024 : Int32)), (16, .int (1 : Int32)), (15, .int (1 : Int32)), (13, .int (12 : Int32)), (12, .int (40 : Int32)), (11, .int (10 : Int32))], some (.int (0 : Int32))) (pc' := 41) (L' := [(0, .ref 143), (1, .int (xs 1)), (2, .int (xs 2)), (3, .int (7 : Int32))]) h_m255 (z_at.mk 1 rfl rfl) rfl rfl (w_ui _ _ (by decide)) rfl rfl rfl rfl ?_
            clear H m; intro m H
            refine w_p h_m255 6 (pc' := 48) (L' := [(0, .ref 143), (1, .int (xs 1)), (2, .int (xs 2)), (3, .int (8 : Int32))]) (st' := [.ref 143]) rfl ?_
            refine w_gf H (pc' := 51) (L' := [(0, .ref 143), (1, .int (xs 1)), (2, .int (xs 2)), (3, .int (8 : Int32))]) h_m255 (z_at.mk 3 rfl rfl) rfl (u := .ref 144) rfl rfl rfl ?_
            refine w_p h_m255 2 (pc' := 54) (L' := [(0, .ref 143), (1, .int (xs 1)), (2, .int (xs 2)), (3, .int (8 : Int32))]) (st' := [.int (xs 1), .int (12 : Int32), .ref 144]) rfl ?_
            refine w_as H (t := 0) (j := 12) (u := .int (xs 1)) (0, 2740, [(12, .int (xs 1)), (7, .int (0 : Int32)), (6, .int (0 : Int32)), (5, .int (0 : Int32)), (4, .int (0 : Int32)), (3, .int (0 : Int32)), (2, .int (0 : Int32)), (0, .int (0 : Int32)), (17, .int (1024 : Int32)), (16, .int (1 : Int32)), (15, .int (1 : Int32)), (13, .int (12 : Int32)), (11, .int (10 : Int32))], some (.int (0 : Int32))) (pc' := 55) (L' := [(0, .ref 143), (1, .int (xs 1)), (2, .int (xs 2)), (3, .int (8 : Int32))]) h_m255 (z_at.mk 1 rfl rfl) rfl rfl (w_ui _ _ (by decide)) rfl rfl rfl rfl ?_
            clear H m; intro m H
            refine w_p h_m255 4 (pc' := 59) (L' := [(0, .ref 143), (2, .int (xs 2)), (3, .int (0 : Int32))]) (st' := [.ref 143, .int (0 : Int32)]) rfl ?_
            refine w_gf H (pc' := 62) (L' := [(0, .ref 143), (2, .int (xs 2)), (3, .int (0 : Int32))]) h_m255 (z_at.mk 3 rfl rfl) rfl (u := .ref 144) rfl rfl rfl ?_
            refine w_p h_m255 1 (pc' := 64) (L' := [(0, .ref 143), (2, .int (xs 2)), (3, .int (0 : Int32))]) (st' := [.int (9 : Int32), .ref 144, .int (0 : Int32)]) rfl ?_
            refine w_al H (t := 0) (j := 9) (pc' := 65) (L' := [(0, .ref 143), (2, .int (xs 2)), (3, .int (0 : Int32))]) h_m255 (z_at.mk 1 rfl rfl) rfl rfl rfl (u := .int (0 : Int32)) rfl rfl rfl ?_
            refine w_p h_m255 2 (pc' := 98) (L' := [(0, .ref 143), (2, .int (xs 2)), (3, .int (0 : Int32))]) (st' := [.int (xs 2)]) rfl ?_
            refine w_t1 (pc' := 110) (L' := [(0, .ref 143), (2, .int (xs 2)), (3, .int (0 : Int32))]) h_m255 (z_at.mk 3 rfl rfl) rfl (zc (a := (xs 2).toInt) (b := 0) rfl rfl (decide_eq_true (by omega))) rfl rfl ?_
            refine w_p h_m255 2 (pc' := 112) (L' := [(0, .ref 143), (2, .int (xs 2)), (3, .int (0 : Int32))]) (st' := [.int (1 : Int32), .int (xs 2)]) rfl ?_
            refine w_t2 (pc' := 124) (L' := [(0, .ref 143), (2, .int (xs 2)), (3, .int (0 : Int32))]) h_m255 (z_at.mk 3 rfl rfl) rfl (zc (a := (xs 2).toInt) (b := 1) rfl rfl (decide_eq_true (by omega))) rfl rfl ?_
            refine w_p h_m255 2 (pc' := 126) (L' := [(0, .ref 143), (2, .int (xs 2)), (3, .int (0 : Int32))]) (st' := [.int (5 : Int32), .int (xs 2)]) rfl ?_
            refine w_f2 (pc' := 129) (L' := [(0, .ref 143), (2, .int (xs 2)), (3, .int (0 : Int32))]) h_m255 (z_at.mk 3 rfl rfl) rfl (zc (a := (xs 2).toInt) (b := 5) rfl rfl (decide_eq_false (by omega))) rfl rfl ?_
            refine w_p h_m255 1 (pc' := 130) (L' := [(0, .ref 143), (2, .int (xs 2)), (3, .int (0 : Int32))]) (st' := [.ref 143]) rfl ?_
            refine w_gf H (pc' := 133) (L' := [(0, .ref 143), (2, .int (xs 2)), (3, .int (0 : Int32))]) h_m255 (z_at.mk 3 rfl rfl) rfl (u := .ref 144) rfl rfl rfl ?_
            refine w_p h_m255 5 (pc' := 138) (L' := [(0, .ref 143), (2, .int (xs 2)), (3, .int (0 : Int32))]) (st' := [.int (((4 : Int32) + (xs 2)) - (2 : Int32)), .ref 144]) rfl ?_
            have c_10 : (xs 2).toInt + 2 = 6 := by omega
            refine w_top (v' := .int (6 : Int32)) (congrArg Value.int (zi_lit (c := (xs 2).toInt + 2) (zi_sub (a := (xs 2).toInt + 4) (b := 2) (c := (xs 2).toInt + 2) (zi_add (a := 4) (b := (xs 2).toInt) (c := (xs 2).toInt + 4) rfl rfl (by omega) (by omega) (by omega)) rfl (by omega) (by omega) (by omega)) c_10)) ?_
            refine w_al H (t := 0) (j := 6) (pc' := 139) (L' := [(0, .ref 143), (2, .int (xs 2)), (3, .int (0 : Int32))]) h_m255 (z_at.mk 1 rfl rfl) rfl rfl rfl (u := .int (0 : Int32)) rfl rfl rfl ?_
            refine w_p h_m255 4 (pc' := 151) (L' := [(3, .int (0 : Int32)), (0, .ref 143)]) (st' := [.ref 143, .ref 143]) rfl ?_
            refine w_gf H (pc' := 154) (L' := [(3, .int (0 : Int32)), (0, .ref 143)]) h_m255 (z_at.mk 3 rfl rfl) rfl (u := .ref 146) rfl rfl rfl ?_
            refine w_p h_m255 1 (pc' := 155) (L' := [(3, .int (0 : Int32)), (0, .ref 143)]) (st' := [.ref 143, .ref 146, .ref 143]) rfl ?_
            refine w_gf H (pc' := 158) (L' := [(3, .int (0 : Int32)), (0, .ref 143)]) h_m255 (z_at.mk 3 rfl rfl) rfl (u := .ref 149) rfl rfl rfl ?_
            refine w_cv (H.t rfl) (pc' := 161) (L' := [(3, .int (0 : Int32)), (0, .ref 143)]) (rest := []) (Ps := [.ref 146, .ref 149]) (L0 := [(0, .ref 143), (1, .ref 146), (2, .ref 149)]) h_m255 (z_at.mk 3 rfl rfl) (Or.inl ⟨rfl, rfl⟩) rfl rfl (by decide) (by decide) rfl rfl rfl rfl rfl rfl (by decide) rfl rfl rfl ?_
            refine w_back H (b1 := 146) (b2 := 149) (ra := (0, 2740, [(17, .int (1024 : Int32)), (16, .int (1 : Int32)), (15, .int (1 : Int32)), (13, .int (12 : Int32)), (12, .int (40 : Int32)), (11, .int (10 : Int32))], some (.int (0 : Int32)))) (rb := (1, 361, [], some (.long (0 : Int64)))) rfl rfl rfl rfl rfl rfl rfl rfl (by decide) (by decide) (by decide) (by decide) ?_
            clear H m; intro m H
            show z_W 998 255 161 [(3, .int (0 : Int32)), (0, .ref 143)] [] m _
            refine w_p h_m255 1 (pc' := 162) (L' := [(3, .int (0 : Int32)), (0, .ref 143)]) (st' := [.int (0 : Int32)]) rfl ?_
            refine w_ri h_m255 (z_at.mk 1 rfl rfl) rfl rfl ?_
            show z_W 999 256 34 [] [.int (0 : Int32)] m _
            refine w_ri h_m256 (z_at.mk 1 rfl rfl) rfl rfl ?_
            show z_W 1000 1000 941 [(0, .ref 0), (1, .ref 39), (2, .ref 143), (3, .int (0 : Int32))] [.int (0 : Int32), .int (0 : Int32)] m _
            refine w_p h_m1000 5 (pc' := 20) (L' := [(0, .ref 0), (1, .ref 39), (2, .ref 143), (3, .int (6 : Int32))]) (st' := [.ref 0, .int (6 : Int32)]) rfl ?_
            refine w_lene H (x := (6 : Int32)) (pc' := 21) (L' := [(0, .ref 0), (1, .ref 39), (2, .ref 143), (3, .int (6 : Int32))]) h_m1000 (z_at.mk 1 rfl rfl) (by decide) rfl (by decide) rfl rfl rfl ?_
            refine w_p h_m1000 4 (pc' := 1381) (L' := [(0, .ref 0), (1, .ref 39), (2, .ref 143), (3, .int (6 : Int32))]) (st' := [.int (1 : Int32)]) rfl ?_
            refine w_ri h_m1000 (z_at.mk 1 rfl rfl) rfl rfl ?_
            exact hQ _ _ _ _ H (by decide) (by decide)
          refine w_sw (off := 73) (pc' := 104) (L' := [(0, .ref 39), (1, .int (xs 1)), (2, .int (xs 2))]) h_m144 (z_at.mk 33 rfl rfl) (z_off_out (by omega)) rfl rfl rfl ?_
          refine w_p h_m144 1 (pc' := 105) (L' := [(0, .ref 39), (1, .int (xs 1)), (2, .int (xs 2))]) (st' := [.ref 39]) rfl ?_
          refine w_gf H (pc' := 108) (L' := [(0, .ref 39), (1, .int (xs 1)), (2, .int (xs 2))]) h_m144 (z_at.mk 3 rfl rfl) rfl (u := .ref 106) rfl rfl rfl ?_
          refine w_gf H (pc' := 111) (L' := [(0, .ref 39), (1, .int (xs 1)), (2, .int (xs 2))]) h_m144 (z_at.mk 3 rfl rfl) rfl (u := .int (0 : Int32)) rfl rfl rfl ?_
          refine w_ri h_m144 (z_at.mk 1 rfl rfl) rfl rfl ?_
          show z_W 1000 1000 927 [(0, .ref 0), (1, .ref 39), (2, .ref 143), (3, .int (0 : Int32))] [.int (0 : Int32)] m _
          refine w_p h_m1000 5 (pc' := 932) (L' := [(0, .ref 0), (1, .ref 39), (2, .ref 143), (3, .int (0 : Int32))]) (st' := [.int (1 : Int32), .ref 0, .ref 143, .int (0 : Int32)]) rfl ?_
          refine w_ae H (j := 1) (pc' := 933) (L' := [(0, .ref 0), (1, .ref 39), (2, .ref 143), (3, .int (0 : Int32))]) h_m1000 (z_at.mk 1 rfl rfl) rfl rfl rfl (by decide) rfl (by decide) rfl rfl rfl ?_
          refine w_p h_m1000 4 (pc' := 937) (L' := [(0, .ref 0), (1, .ref 39), (2, .ref 143), (3, .int (0 : Int32))]) (st' := [.int (2 : Int32), .ref 0, .int (xs 1), .ref 143, .int (0 : Int32)]) rfl ?_
          refine w_ae H (j := 2) (pc' := 938) (L' := [(0, .ref 0), (1, .ref 39), (2, .ref 143), (3, .int (0 : Int32))]) h_m1000 (z_at.mk 1 rfl rfl) rfl rfl rfl (by decide) rfl (by decide) rfl rfl rfl ?_
          refine w_cv (H.t rfl) (pc' := 941) (L' := [(0, .ref 0), (1, .ref 39), (2, .ref 143), (3, .int (0 : Int32))]) (rest := [.int (0 : Int32)]) (Ps := [.int (xs 1), .int (xs 2)]) (L0 := [(0, .ref 143), (1, .int (xs 1)), (2, .int (xs 2))]) h_m1000 (z_at.mk 3 rfl rfl) (Or.inl ⟨rfl, rfl⟩) rfl rfl (by decide) (by decide) rfl rfl rfl rfl rfl rfl (by decide) rfl rfl rfl ?_
          refine w_p h_m256 3 (pc' := 3) (L' := [(0, .ref 143), (1, .int (xs 1)), (2, .int (xs 2))]) (st' := [.int (5 : Int32), .int (0 : Int32), .int (xs 2)]) rfl ?_
          refine w_cs (As := [.int (xs 2), .int (0 : Int32), .int (5 : Int32)]) (rest := []) (j := 159) (L0 := [(0, .int (xs 2)), (1, .int (0 : Int32)), (2, .int (5 : Int32))]) (pc' := 6) (L' := [(0, .ref 143), (1, .int (xs 1)), (2, .int (xs 2))]) h_m256 (z_at.mk 3 rfl rfl) (Or.inl ⟨rfl, rfl⟩) rfl rfl rfl rfl rfl ?_
          refine w_p h_m159 2 (pc' := 2) (L' := [(0, .int (xs 2)), (1, .int (0 : Int32)), (2, .int (5 : Int32))]) (st' := [.int (0 : Int32), .int (xs 2)]) rfl ?_
          refine w_f2 (pc' := 5) (L' := [(0, .int (xs 2)), (1, .int (0 : Int32)), (2, .int (5 : Int32))]) h_m159 (z_at.mk 3 rfl rfl) rfl (zc (a := (xs 2).toInt) (b := 0) rfl rfl (decide_eq_false (by omega))) rfl rfl ?_
          refine w_p h_m159 2 (pc' := 7) (L' := [(0, .int (xs 2)), (1, .int (0 : Int32)), (2, .int (5 : Int32))]) (st' := [.int (5 : Int32), .int (xs 2)]) rfl ?_
          refine w_f2 (pc' := 10) (L' := [(0, .int (xs 2)), (1, .int (0 : Int32)), (2, .int (5 : Int32))]) h_m159 (z_at.mk 3 rfl rfl) rfl (zc (a := (xs 2).toInt) (b := 5) rfl rfl (decide_eq_false (by omega))) rfl rfl ?_
          refine w_p h_m159 2 (pc' := 15) (L' := []) (st' := [.int (1 : Int32)]) rfl ?_
          refine w_ri h_m159 (z_at.mk 1 rfl rfl) rfl rfl ?_
          show z_W 999 256 6 [(0, .ref 143), (1, .int (xs 1)), (2, .int (xs 2))] [.int (1 : Int32)] m _
          refine w_p h_m256 4 (pc' := 17) (L' := [(0, .ref 143), (1, .int (xs 1)), (2, .int (xs 2))]) (st' := [.int (99 : Int32), .int (1 : Int32), .int (xs 1)]) rfl ?_
          refine w_cs (As := [.int (xs 1), .int (1 : Int32), .int (99 : Int32)]) (rest := []) (j := 159) (L0 := [(0, .int (xs 1)), (1, .int (1 : Int32)), (2, .int (99 : Int32))]) (pc' := 20) (L' := [(0, .ref 143), (1, .int (xs 1)), (2, .int (xs 2))]) h_m256 (z_at.mk 3 rfl rfl) (Or.inl ⟨rfl, rfl⟩) rfl rfl rfl rfl rfl ?_
          refine w_p h_m159 2 (pc' := 2) (L' := [(0, .int (xs 1)), (1, .int (1 : Int32)), (2, .int (99 : Int32))]) (st' := [.int (1 : Int32), .int (xs 1)]) rfl ?_
          refine w_f2 (pc' := 5) (L' := [(0, .int (xs 1)), (1, .int (1 : Int32)), (2, .int (99 : Int32))]) h_m159 (z_at.mk 3 rfl rfl) rfl (zc (a := (xs 1).toInt) (b := 1) rfl rfl (decide_eq_false (by omega))) rfl rfl ?_
          refine w_p h_m159 2 (pc' := 7) (L' := [(0, .int (xs 1)), (1, .int (1 : Int32)), (2, .int (99 : Int32))]) (st' := [.int (99 : Int32), .int (xs 1)]) rfl ?_
          refine w_f2 (pc' := 10) (L' := [(0, .int (xs 1)), (1, .int (1 : Int32)), (2, .int (99 : Int32))]) h_m159 (z_at.mk 3 rfl rfl) rfl (zc (a := (xs 1).toInt) (b := 99) rfl rfl (decide_eq_false (by omega))) rfl rfl ?_
          refine w_p h_m159 2 (pc' := 15) (L' := []) (st' := [.int (1 : Int32)]) rfl ?_
          refine w_ri h_m159 (z_at.mk 1 rfl rfl) rfl rfl ?_
          show z_W 999 256 20 [(0, .ref 143), (1, .int (xs 1)), (2, .int (xs 2))] [.int (1 : Int32)] m _
          refine w_p h_m256 4 (pc' := 31) (L' := [(0, .ref 143), (1, .int (xs 1)), (2, .int (xs 2))]) (st' := [.int (xs 2), .int (xs 1), .ref 143]) rfl ?_
          refine w_cv (H.t rfl) (pc' := 34) (L' := []) (rest := []) (Ps := [.int (xs 1), .int (xs 2)]) (L0 := [(0, .ref 143), (1, .int (xs 1)), (2, .int (xs 2))]) h_m256 (z_at.mk 3 rfl rfl) (Or.inl ⟨rfl, rfl⟩) rfl rfl (by decide) (by decide) rfl rfl rfl rfl rfl rfl (by decide) rfl rfl rfl ?_
          refine w_p h_m255 2 (pc' := 2) (L' := [(0, .ref 143), (1, .int (xs 1)), (2, .int (xs 2))]) (st' := [.ref 143, .ref 143]) rfl ?_
          refine w_gf H (pc' := 5) (L' := [(0, .ref 143), (1, .int (xs 1)), (2, .int (xs 2))]) h_m255 (z_at.mk 3 rfl rfl) rfl (u := .ref 146) rfl rfl rfl ?_
          refine w_p h_m255 1 (pc' := 6) (L' := [(0, .ref 143), (1, .int (xs 1)), (2, .int (xs 2))]) (st' := [.ref 143, .ref 146, .ref 143]) rfl ?_
          refine w_gf H (pc' := 9) (L' := [(0, .ref 143), (1, .int (xs 1)), (2, .int (xs 2))]) h_m255 (z_at.mk 3 rfl rfl) rfl (u := .ref 149) rfl rfl rfl ?_
          refine w_cv (H.t rfl) (pc' := 12) (L' := [(0, .ref 143), (1, .int (xs 1)), (2, .int (xs 2))]) (rest := []) (Ps := [.ref 146, .ref 149]) (L0 := [(0, .ref 143), (1, .ref 146), (2, .ref 149)]) h_m255 (z_at.mk 3 rfl rfl) (Or.inl ⟨rfl, rfl⟩) rfl rfl (by decide) (by decide) rfl rfl rfl rfl rfl rfl (by decide) rfl rfl rfl ?_
          refine w_keeps H (b1 := 146) (b2 := 149) (ra := (0, 2740, [(17, .int (1024 : Int32)), (16, .int (1 : Int32)), (15, .int (1 : Int32)), (13, .int (12 : Int32)), (12, .int (40 : Int32)), (11, .int (10 : Int32))], some (.int (0 : Int32)))) (rb := (1, 361, [], some (.long (0 : Int64)))) rfl rfl rfl rfl rfl rfl rfl rfl (by decide) (by decide) (by decide) (by decide) ?_
          clear H m; intro m H
          show z_W 998 255 12 [(0, .ref 143), (1, .int (xs 1)), (2, .int (xs 2))] [] m _
          refine w_p h_m255 1 (pc' := 13) (L' := [(0, .ref 143), (1, .int (xs 1)), (2, .int (xs 2))]) (st' := [.ref 143]) rfl ?_
          refine w_gf H (pc' := 16) (L' := [(0, .ref 143), (1, .int (xs 1)), (2, .int (xs 2))]) h_m255 (z_at.mk 3 rfl rfl) rfl (u := .ref 144) rfl rfl rfl ?_
          refine w_p h_m255 2 (pc' := 18) (L' := [(0, .ref 143), (1, .int (xs 1)), (2, .int (xs 2))]) (st' := [.int (0 : Int32), .int (0 : Int32), .ref 144]) rfl ?_
          refine w_as H (t := 0) (j := 0) (u := .int (0 : Int32)) (0, 2740, [(0, .int (0 : Int32)), (17, .int (1024 : Int32)), (16, .int (1 : Int32)), (15, .int (1 : Int32)), (13, .int (12 : Int32)), (12, .int (40 : Int32)), (11, .int (10 : Int32))], some (.int (0 : Int32))) (pc' := 19) (L' := [(0, .ref 143), (1, .int (xs 1)), (2, .int (xs 2))]) h_m255 (z_at.mk 1 rfl rfl) rfl rfl (w_ui _ _ (by decide)) rfl rfl rfl rfl ?_
          clear H m; intro m H
          refine w_p h_m255 1 (pc' := 20) (L' := [(0, .ref 143), (1, .int (xs 1)), (2, .int (xs 2))]) (st' := [.ref 143]) rfl ?_
          refine w_gf H (pc' := 23) (L' := [(0, .ref 143), (1, .int (xs 1)), (2, .int (xs 2))]) h_m255 (z_at.mk 3 rfl rfl) rfl (u := .ref 147) rfl rfl rfl ?_
          refine w_p h_m255 2 (pc' := 25) (L' := [(0, .ref 143), (1, .int (xs 1)), (2, .int (xs 2))]) (st' := [.long (0 : Int64), .int (0 : Int32), .ref 147]) rfl ?_
          refine w_as H (t := 1) (j := 0) (u := .long (0 : Int64)) (1, 361, [(0, .long (0 : Int64))], some (.long (0 : Int64))) (pc' := 26) (L' := [(0, .ref 143), (1, .int (xs 1)), (2, .int (xs 2))]) h_m255 (z_at.mk 1 rfl rfl) rfl rfl (w_ul _) rfl rfl rfl rfl ?_
          clear H m; intro m H
          refine w_p h_m255 6 (pc' := 35) (L' := [(0, .ref 143), (1, .int (xs 1)), (2, .int (xs 2)), (3, .int (2 : Int32))]) (st' := [.ref 143]) rfl ?_
          refine w_gf H (pc' := 38) (L' := [(0, .ref 143), (1, .int (xs 1)), (2, .int (xs 2)), (3, .int (2 : Int32))]) h_m255 (z_at.mk 3 rfl rfl) rfl (u := .ref 144) rfl rfl rfl ?_
          refine w_p h_m255 2 (pc' := 40) (L' := [(0, .ref 143), (1, .int (xs 1)), (2, .int (xs 2)), (3, .int (2 : Int32))]) (st' := [.int (0 : Int32), .int (2 : Int32), .ref 144]) rfl ?_
          refine w_as H (t := 0) (j := 2) (u := .int (0 : Int32)) (0, 2740, [(2, .int (0 : Int32)), (0, .int (0 : Int32)), (17, .int (1024 : Int32)), (16, .int (1 : Int32)), (15, .int (1 : Int32)), (13, .int (12 : Int32)), (12, .int (40 : Int32)), (11, .int (10 : Int32))], some (.int (0 : Int32))) (pc' := 41) (L' := [(0, .ref 143), (1, .int (xs 1)), (2, .int (xs 2)), (3, .int (2 : Int32))]) h_m255 (z_at.mk 1 rfl rfl) rfl rfl (w_ui _ _ (by decide)) rfl rfl rfl rfl ?_
          clear H m; intro m H
          refine w_p h_m255 6 (pc' := 35) (L' := [(0, .ref 143), (1, .int (xs 1)), (2, .int (xs 2)), (3, .int (3 : Int32))]) (st' := [.ref 143]) rfl ?_
          refine w_gf H (pc' := 38) (L' := [(0, .ref 143), (1, .int (xs 1)), (2, .int (xs 2)), (3, .int (3 : Int32))]) h_m255 (z_at.mk 3 rfl rfl) rfl (u := .ref 144) rfl rfl rfl ?_
          refine w_p h_m255 2 (pc' := 40) (L' := [(0, .ref 143), (1, .int (xs 1)), (2, .int (xs 2)), (3, .int (3 : Int32))]) (st' := [.int (0 : Int32), .int (3 : Int32), .ref 144]) rfl ?_
          refine w_as H (t := 0) (j := 3) (u := .int (0 : Int32)) (0, 2740, [(3, .int (0 : Int32)), (2, .int (0 : Int32)), (0, .int (0 : Int32)), (17, .int (1024 : Int32)), (16, .int (1 : Int32)), (15, .int (1 : Int32)), (13, .int (12 : Int32)), (12, .int (40 : Int32)), (11, .int (10 : Int32))], some (.int (0 : Int32))) (pc' := 41) (L' := [(0, .ref 143), (1, .int (xs 1)), (2, .int (xs 2)), (3, .int (3 : Int32))]) h_m255 (z_at.mk 1 rfl rfl) rfl rfl (w_ui _ _ (by decide)) rfl rfl rfl rfl ?_
          clear H m; intro m H
          refine w_p h_m255 6 (pc' := 35) (L' := [(0, .ref 143), (1, .int (xs 1)), (2, .int (xs 2)), (3, .int (4 : Int32))]) (st' := [.ref 143]) rfl ?_
          refine w_gf H (pc' := 38) (L' := [(0, .ref 143), (1, .int (xs 1)), (2, .int (xs 2)), (3, .int (4 : Int32))]) h_m255 (z_at.mk 3 rfl rfl) rfl (u := .ref 144) rfl rfl rfl ?_
          refine w_p h_m255 2 (pc' := 40) (L' := [(0, .ref 143), (1, .int (xs 1)), (2, .int (xs 2)), (3, .int (4 : Int32))]) (st' := [.int (0 : Int32), .int (4 : Int32), .ref 144]) rfl ?_
          refine w_as H (t := 0) (j := 4) (u := .int (0 : Int32)) (0, 2740, [(4, .int (0 : Int32)), (3, .int (0 : Int32)), (2, .int (0 : Int32)), (0, .int (0 : Int32)), (17, .int (1024 : Int32)), (16, .int (1 : Int32)), (15, .int (1 : Int32)), (13, .int (12 : Int32)), (12, .int (40 : Int32)), (11, .int (10 : Int32))], some (.int (0 : Int32))) (pc' := 41) (L' := [(0, .ref 143), (1, .int (xs 1)), (2, .int (xs 2)), (3, .int (4 : Int32))]) h_m255 (z_at.mk 1 rfl rfl) rfl rfl (w_ui _ _ (by decide)) rfl rfl rfl rfl ?_
          clear H m; intro m H
          refine w_p h_m255 6 (pc' := 35) (L' := [(0, .ref 143), (1, .int (xs 1)), (2, .int (xs 2)), (3, .int (5 : Int32))]) (st' := [.ref 143]) rfl ?_
          refine w_gf H (pc' := 38) (L' := [(0, .ref 143), (1, .int (xs 1)), (2, .int (xs 2)), (3, .int (5 : Int32))]) h_m255 (z_at.mk 3 rfl rfl) rfl (u := .ref 144) rfl rfl rfl ?_
          refine w_p h_m255 2 (pc' := 40) (L' := [(0, .ref 143), (1, .int (xs 1)), (2, .int (xs 2)), (3, .int (5 : Int32))]) (st' := [.int (0 : Int32), .int (5 : Int32), .ref 144]) rfl ?_
          refine w_as H (t := 0) (j := 5) (u := .int (0 : Int32)) (0, 2740, [(5, .int (0 : Int32)), (4, .int (0 : Int32)), (3, .int (0 : Int32)), (2, .int (0 : Int32)), (0, .int (0 : Int32)), (17, .int (1024 : Int32)), (16, .int (1 : Int32)), (15, .int (1 : Int32)), (13, .int (12 : Int32)), (12, .int (40 : Int32)), (11, .int (10 : Int32))], some (.int (0 : Int32))) (pc' := 41) (L' := [(0, .ref 143), (1, .int (xs 1)), (2, .int (xs 2)), (3, .int (5 : Int32))]) h_m255 (z_at.mk 1 rfl rfl) rfl rfl (w_ui _ _ (by decide)) rfl rfl rfl rfl ?_
          clear H m; intro m H
          refine w_p h_m255 6 (pc' := 35) (L' := [(0, .ref 143), (1, .int (xs 1)), (2, .int (xs 2)), (3, .int (6 : Int32))]) (st' := [.ref 143]) rfl ?_
          refine w_gf H (pc' := 38) (L' := [(0, .ref 143), (1, .int (xs 1)), (2, .int (xs 2)), (3, .int (6 : Int32))]) h_m255 (z_at.mk 3 rfl rfl) rfl (u := .ref 144) rfl rfl rfl ?_
          refine w_p h_m255 2 (pc' := 40) (L' := [(0, .ref 143), (1, .int (xs 1)), (2, .int (xs 2)), (3, .int (6 : Int32))]) (st' := [.int (0 : Int32), .int (6 : Int32), .ref 144]) rfl ?_
          refine w_as H (t := 0) (j := 6) (u := .int (0 : Int32)) (0, 2740, [(6, .int (0 : Int32)), (5, .int (0 : Int32)), (4, .int (0 : Int32)), (3, .int (0 : Int32)), (2, .int (0 : Int32)), (0, .int (0 : Int32)), (17, .int (1024 : Int32)), (16, .int (1 : Int32)), (15, .int (1 : Int32)), (13, .int (12 : Int32)), (12, .int (40 : Int32)), (11, .int (10 : Int32))], some (.int (0 : Int32))) (pc' := 41) (L' := [(0, .ref 143), (1, .int (xs 1)), (2, .int (xs 2)), (3, .int (6 : Int32))]) h_m255 (z_at.mk 1 rfl rfl) rfl rfl (w_ui _ _ (by decide)) rfl rfl rfl rfl ?_
          clear H m; intro m H
          refine w_p h_m255 6 (pc' := 35) (L' := [(0, .ref 143), (1, .int (xs 1)), (2, .int (xs 2)), (3, .int (7 : Int32))]) (st' := [.ref 143]) rfl ?_
          refine w_gf H (pc' := 38) (L' := [(0, .ref 143), (1, .int (xs 1)), (2, .int (xs 2)), (3, .int (7 : Int32))]) h_m255 (z_at.mk 3 rfl rfl) rfl (u := .ref 144) rfl rfl rfl ?_
          refine w_p h_m255 2 (pc' := 40) (L' := [(0, .ref 143), (1, .int (xs 1)), (2, .int (xs 2)), (3, .int (7 : Int32))]) (st' := [.int (0 : Int32), .int (7 : Int32), .ref 144]) rfl ?_
          refine w_as H (t := 0) (j := 7) (u := .int (0 : Int32)) (0, 2740, [(7, .int (0 : Int32)), (6, .int (0 : Int32)), (5, .int (0 : Int32)), (4, .int (0 : Int32)), (3, .int (0 : Int32)), (2, .int (0 : Int32)), (0, .int (0 : Int32)), (17, .int (1024 : Int32)), (16, .int (1 : Int32)), (15, .int (1 : Int32)), (13, .int (12 : Int32)), (12, .int (40 : Int32)), (11, .int (10 : Int32))], some (.int (0 : Int32))) (pc' := 41) (L' := [(0, .ref 143), (1, .int (xs 1)), (2, .int (xs 2)), (3, .int (7 : Int32))]) h_m255 (z_at.mk 1 rfl rfl) rfl rfl (w_ui _ _ (by decide)) rfl rfl rfl rfl ?_
          clear H m; intro m H
          refine w_p h_m255 6 (pc' := 48) (L' := [(0, .ref 143), (1, .int (xs 1)), (2, .int (xs 2)), (3, .int (8 : Int32))]) (st' := [.ref 143]) rfl ?_
          refine w_gf H (pc' := 51) (L' := [(0, .ref 143), (1, .int (xs 1)), (2, .int (xs 2)), (3, .int (8 : Int32))]) h_m255 (z_at.mk 3 rfl rfl) rfl (u := .ref 144) rfl rfl rfl ?_
          refine w_p h_m255 2 (pc' := 54) (L' := [(0, .ref 143), (1, .int (xs 1)), (2, .int (xs 2)), (3, .int (8 : Int32))]) (st' := [.int (xs 1), .int (12 : Int32), .ref 144]) rfl ?_
          refine w_as H (t := 0) (j := 12) (u := .int (xs 1)) (0, 2740, [(12, .int (xs 1)), (7, .int (0 : Int32)), (6, .int (0 : Int32)), (5, .int (0 : Int32)), (4, .int (0 : Int32)), (3, .int (0 : Int32)), (2, .int (0 : Int32)), (0, .int (0 : Int32)), (17, .int (1024 : Int32)), (16, .int (1 : Int32)), (15, .int (1 : Int32)), (13, .int (12 : Int32)), (11, .int (10 : Int32))], some (.int (0 : Int32))) (pc' := 55) (L' := [(0, .ref 143), (1, .int (xs 1)), (2, .int (xs 2)), (3, .int (8 : Int32))]) h_m255 (z_at.mk 1 rfl rfl) rfl rfl (w_ui _ _ (by decide)) rfl rfl rfl rfl ?_
          clear H m; intro m H
          refine w_p h_m255 4 (pc' := 59) (L' := [(0, .ref 143), (2, .int (xs 2)), (3, .int (0 : Int32))]) (st' := [.ref 143, .int (0 : Int32)]) rfl ?_
          refine w_gf H (pc' := 62) (L' := [(0, .ref 143), (2, .int (xs 2)), (3, .int (0 : Int32))]) h_m255 (z_at.mk 3 rfl rfl) rfl (u := .ref 144) rfl rfl rfl ?_
          refine w_p h_m255 1 (pc' := 64) (L' := [(0, .ref 143), (2, .int (xs 2)), (3, .int (0 : Int32))]) (st' := [.int (9 : Int32), .ref 144, .int (0 : Int32)]) rfl ?_
          refine w_al H (t := 0) (j := 9) (pc' := 65) (L' := [(0, .ref 143), (2, .int (xs 2)), (3, .int (0 : Int32))]) h_m255 (z_at.mk 1 rfl rfl) rfl rfl rfl (u := .int (0 : Int32)) rfl rfl rfl ?_
          refine w_p h_m255 2 (pc' := 98) (L' := [(0, .ref 143), (2, .int (xs 2)), (3, .int (0 : Int32))]) (st' := [.int (xs 2)]) rfl ?_
          refine w_t1 (pc' := 110) (L' := [(0, .ref 143), (2, .int (xs 2)), (3, .int (0 : Int32))]) h_m255 (z_at.mk 3 rfl rfl) rfl (zc (a := (xs 2).toInt) (b := 0) rfl rfl (decide_eq_true (by omega))) rfl rfl ?_
          refine w_p h_m255 2 (pc' := 112) (L' := [(0, .ref 143), (2, .int (xs 2)), (3, .int (0 : Int32))]) (st' := [.int (1 : Int32), .int (xs 2)]) rfl ?_
          refine w_t2 (pc' := 124) (L' := [(0, .ref 143), (2, .int (xs 2)), (3, .int (0 : Int32))]) h_m255 (z_at.mk 3 rfl rfl) rfl (zc (a := (xs 2).toInt) (b := 1) rfl rfl (decide_eq_true (by omega))) rfl rfl ?_
          refine w_p h_m255 2 (pc' := 126) (L' := [(0, .ref 143), (2, .int (xs 2)), (3, .int (0 : Int32))]) (st' := [.int (5 : Int32), .int (xs 2)]) rfl ?_
          refine w_t2 (pc' := 142) (L' := [(0, .ref 143), (2, .int (xs 2)), (3, .int (0 : Int32))]) h_m255 (z_at.mk 3 rfl rfl) rfl (zc (a := (xs 2).toInt) (b := 5) rfl rfl (decide_eq_true (by omega))) rfl rfl ?_
          refine w_p h_m255 1 (pc' := 143) (L' := [(0, .ref 143), (2, .int (xs 2)), (3, .int (0 : Int32))]) (st' := [.ref 143]) rfl ?_
          refine w_gf H (pc' := 146) (L' := [(0, .ref 143), (2, .int (xs 2)), (3, .int (0 : Int32))]) h_m255 (z_at.mk 3 rfl rfl) rfl (u := .ref 144) rfl rfl rfl ?_
          refine w_p h_m255 1 (pc' := 147) (L' := [(0, .ref 143), (2, .int (xs 2)), (3, .int (0 : Int32))]) (st' := [.int (0 : Int32), .ref 144]) rfl ?_
          refine w_al H (t := 0) (j := 0) (pc' := 148) (L' := [(0, .ref 143)]) h_m255 (z_at.mk 1 rfl rfl) rfl rfl rfl (u := .int (0 : Int32)) rfl rfl rfl ?_
          refine w_p h_m255 3 (pc' := 151) (L' := [(3, .int (0 : Int32)), (0, .ref 143)]) (st' := [.ref 143, .ref 143]) rfl ?_
          refine w_gf H (pc' := 154) (L' := [(3, .int (0 : Int32)), (0, .ref 143)]) h_m255 (z_at.mk 3 rfl rfl) rfl (u := .ref 146) rfl rfl rfl ?_
          refine w_p h_m255 1 (pc' := 155) (L' := [(3, .int (0 : Int32)), (0, .ref 143)]) (st' := [.ref 143, .ref 146, .ref 143]) rfl ?_
          refine w_gf H (pc' := 158) (L' := [(3, .int (0 : Int32)), (0, .ref 143)]) h_m255 (z_at.mk 3 rfl rfl) rfl (u := .ref 149) rfl rfl rfl ?_
          refine w_cv (H.t rfl) (pc' := 161) (L' := [(3, .int (0 : Int32)), (0, .ref 143)]) (rest := []) (Ps := [.ref 146, .ref 149]) (L0 := [(0, .ref 143), (1, .ref 146), (2, .ref 149)]) h_m255 (z_at.mk 3 rfl rfl) (Or.inl ⟨rfl, rfl⟩) rfl rfl (by decide) (by decide) rfl rfl rfl rfl rfl rfl (by decide) rfl rfl rfl ?_
          refine w_back H (b1 := 146) (b2 := 149) (ra := (0, 2740, [(17, .int (1024 : Int32)), (16, .int (1 : Int32)), (15, .int (1 : Int32)), (13, .int (12 : Int32)), (12, .int (40 : Int32)), (11, .int (10 : Int32))], some (.int (0 : Int32)))) (rb := (1, 361, [], some (.long (0 : Int64)))) rfl rfl rfl rfl rfl rfl rfl rfl (by decide) (by decide) (by decide) (by decide) ?_
          clear H m; intro m H
          show z_W 998 255 161 [(3, .int (0 : Int32)), (0, .ref 143)] [] m _
          refine w_p h_m255 1 (pc' := 162) (L' := [(3, .int (0 : Int32)), (0, .ref 143)]) (st' := [.int (0 : Int32)]) rfl ?_
          refine w_ri h_m255 (z_at.mk 1 rfl rfl) rfl rfl ?_
          show z_W 999 256 34 [] [.int (0 : Int32)] m _
          refine w_ri h_m256 (z_at.mk 1 rfl rfl) rfl rfl ?_
          show z_W 1000 1000 941 [(0, .ref 0), (1, .ref 39), (2, .ref 143), (3, .int (0 : Int32))] [.int (0 : Int32), .int (0 : Int32)] m _
          refine w_p h_m1000 5 (pc' := 20) (L' := [(0, .ref 0), (1, .ref 39), (2, .ref 143), (3, .int (6 : Int32))]) (st' := [.ref 0, .int (6 : Int32)]) rfl ?_
          refine w_lene H (x := (6 : Int32)) (pc' := 21) (L' := [(0, .ref 0), (1, .ref 39), (2, .ref 143), (3, .int (6 : Int32))]) h_m1000 (z_at.mk 1 rfl rfl) (by decide) rfl (by decide) rfl rfl rfl ?_
          refine w_p h_m1000 4 (pc' := 1381) (L' := [(0, .ref 0), (1, .ref 39), (2, .ref 143), (3, .int (6 : Int32))]) (st' := [.int (1 : Int32)]) rfl ?_
          refine w_ri h_m1000 (z_at.mk 1 rfl rfl) rfl rfl ?_
          exact hQ _ _ _ _ H (by decide) (by decide)
        · refine w_f2 (pc' := 22) (L' := []) h_m144 (z_at.mk 3 rfl rfl) rfl (zc (a := (xs 1).toInt) (b := 99) rfl rfl (decide_eq_false (by omega))) rfl rfl ?_
          refine w_p h_m144 1 (pc' := 24) (L' := []) (st' := [.int (-2 : Int32)]) rfl ?_
          refine w_ri h_m144 (z_at.mk 1 rfl rfl) rfl rfl ?_
          show z_W 1000 1000 927 [(0, .ref 0), (1, .ref 39), (2, .ref 143), (3, .int (0 : Int32))] [.int (-2 : Int32)] m _
          refine w_p h_m1000 5 (pc' := 932) (L' := [(0, .ref 0), (1, .ref 39), (2, .ref 143), (3, .int (0 : Int32))]) (st' := [.int (1 : Int32), .ref 0, .ref 143, .int (-2 : Int32)]) rfl ?_
          refine w_ae H (j := 1) (pc' := 933) (L' := [(0, .ref 0), (1, .ref 39), (2, .ref 143), (3, .int (0 : Int32))]) h_m1000 (z_at.mk 1 rfl rfl) rfl rfl rfl (by decide) rfl (by decide) rfl rfl rfl ?_
          refine w_p h_m1000 4 (pc' := 937) (L' := [(0, .ref 0), (1, .ref 39), (2, .ref 143), (3, .int (0 : Int32))]) (st' := [.int (2 : Int32), .ref 0, .int (xs 1), .ref 143, .int (-2 : Int32)]) rfl ?_
          refine w_ae H (j := 2) (pc' := 938) (L' := [(0, .ref 0), (1, .ref 39), (2, .ref 143), (3, .int (0 : Int32))]) h_m1000 (z_at.mk 1 rfl rfl) rfl rfl rfl (by decide) rfl (by decide) rfl rfl rfl ?_
          refine w_cv (H.t rfl) (pc' := 941) (L' := [(0, .ref 0), (1, .ref 39), (2, .ref 143), (3, .int (0 : Int32))]) (rest := [.int (-2 : Int32)]) (Ps := [.int (xs 1), .int (xs 2)]) (L0 := [(0, .ref 143), (1, .int (xs 1)), (2, .int (xs 2))]) h_m1000 (z_at.mk 3 rfl rfl) (Or.inl ⟨rfl, rfl⟩) rfl rfl (by decide) (by decide) rfl rfl rfl rfl rfl rfl (by decide) rfl rfl rfl ?_
          refine w_p h_m256 3 (pc' := 3) (L' := [(0, .ref 143), (1, .int (xs 1)), (2, .int (xs 2))]) (st' := [.int (5 : Int32), .int (0 : Int32), .int (xs 2)]) rfl ?_
          refine w_cs (As := [.int (xs 2), .int (0 : Int32), .int (5 : Int32)]) (rest := []) (j := 159) (L0 := [(0, .int (xs 2)), (1, .int (0 : Int32)), (2, .int (5 : Int32))]) (pc' := 6) (L' := [(0, .ref 143), (1, .int (xs 1)), (2, .int (xs 2))]) h_m256 (z_at.mk 3 rfl rfl) (Or.inl ⟨rfl, rfl⟩) rfl rfl rfl rfl rfl ?_
          refine w_p h_m159 2 (pc' := 2) (L' := [(0, .int (xs 2)), (1, .int (0 : Int32)), (2, .int (5 : Int32))]) (st' := [.int (0 : Int32), .int (xs 2)]) rfl ?_
          refine w_f2 (pc' := 5) (L' := [(0, .int (xs 2)), (1, .int (0 : Int32)), (2, .int (5 : Int32))]) h_m159 (z_at.mk 3 rfl rfl) rfl (zc (a := (xs 2).toInt) (b := 0) rfl rfl (decide_eq_false (by omega))) rfl rfl ?_
          refine w_p h_m159 2 (pc' := 7) (L' := [(0, .int (xs 2)), (1, .int (0 : Int32)), (2, .int (5 : Int32))]) (st' := [.int (5 : Int32), .int (xs 2)]) rfl ?_
          refine w_f2 (pc' := 10) (L' := [(0, .int (xs 2)), (1, .int (0 : Int32)), (2, .int (5 : Int32))]) h_m159 (z_at.mk 3 rfl rfl) rfl (zc (a := (xs 2).toInt) (b := 5) rfl rfl (decide_eq_false (by omega))) rfl rfl ?_
          refine w_p h_m159 2 (pc' := 15) (L' := []) (st' := [.int (1 : Int32)]) rfl ?_
          refine w_ri h_m159 (z_at.mk 1 rfl rfl) rfl rfl ?_
          show z_W 999 256 6 [(0, .ref 143), (1, .int (xs 1)), (2, .int (xs 2))] [.int (1 : Int32)] m _
          refine w_p h_m256 4 (pc' := 17) (L' := [(0, .ref 143), (1, .int (xs 1)), (2, .int (xs 2))]) (st' := [.int (99 : Int32), .int (1 : Int32), .int (xs 1)]) rfl ?_
          refine w_cs (As := [.int (xs 1), .int (1 : Int32), .int (99 : Int32)]) (rest := []) (j := 159) (L0 := [(0, .int (xs 1)), (1, .int (1 : Int32)), (2, .int (99 : Int32))]) (pc' := 20) (L' := [(0, .ref 143), (1, .int (xs 1)), (2, .int (xs 2))]) h_m256 (z_at.mk 3 rfl rfl) (Or.inl ⟨rfl, rfl⟩) rfl rfl rfl rfl rfl ?_
          refine w_p h_m159 2 (pc' := 2) (L' := [(0, .int (xs 1)), (1, .int (1 : Int32)), (2, .int (99 : Int32))]) (st' := [.int (1 : Int32), .int (xs 1)]) rfl ?_
          refine w_f2 (pc' := 5) (L' := [(0, .int (xs 1)), (1, .int (1 : Int32)), (2, .int (99 : Int32))]) h_m159 (z_at.mk 3 rfl rfl) rfl (zc (a := (xs 1).toInt) (b := 1) rfl rfl (decide_eq_false (by omega))) rfl rfl ?_
          refine w_p h_m159 2 (pc' := 7) (L' := [(0, .int (xs 1)), (1, .int (1 : Int32)), (2, .int (99 : Int32))]) (st' := [.int (99 : Int32), .int (xs 1)]) rfl ?_
          refine w_t2 (pc' := 14) (L' := []) h_m159 (z_at.mk 3 rfl rfl) rfl (zc (a := (xs 1).toInt) (b := 99) rfl rfl (decide_eq_true (by omega))) rfl rfl ?_
          refine w_p h_m159 1 (pc' := 15) (L' := []) (st' := [.int (0 : Int32)]) rfl ?_
          refine w_ri h_m159 (z_at.mk 1 rfl rfl) rfl rfl ?_
          show z_W 999 256 20 [(0, .ref 143), (1, .int (xs 1)), (2, .int (xs 2))] [.int (0 : Int32)] m _
          refine w_p h_m256 3 (pc' := 34) (L' := []) (st' := [.int (-2 : Int32)]) rfl ?_
          refine w_ri h_m256 (z_at.mk 1 rfl rfl) rfl rfl ?_
          show z_W 1000 1000 941 [(0, .ref 0), (1, .ref 39), (2, .ref 143), (3, .int (0 : Int32))] [.int (-2 : Int32), .int (-2 : Int32)] m _
          refine w_p h_m1000 5 (pc' := 20) (L' := [(0, .ref 0), (1, .ref 39), (2, .ref 143), (3, .int (6 : Int32))]) (st' := [.ref 0, .int (6 : Int32)]) rfl ?_
          refine w_lene H (x := (6 : Int32)) (pc' := 21) (L' := [(0, .ref 0), (1, .ref 39), (2, .ref 143), (3, .int (6 : Int32))]) h_m1000 (z_at.mk 1 rfl rfl) (by decide) rfl (by decide) rfl rfl rfl ?_
          refine w_p h_m1000 4 (pc' := 1381) (L' := [(0, .ref 0), (1, .ref 39), (2, .ref 143), (3, .int (6 : Int32))]) (st' := [.int (1 : Int32)]) rfl ?_
          refine w_ri h_m1000 (z_at.mk 1 rfl rfl) rfl rfl ?_
          exact hQ _ _ _ _ H (by decide) (by decide)
    · refine w_f2 (pc' := 9) (L' := []) h_m144 (z_at.mk 3 rfl rfl) rfl (zc (a := (xs 2).toInt) (b := 5) rfl rfl (decide_eq_false (by omega))) rfl rfl ?_
      refine w_p h_m144 1 (pc' := 10) (L' := []) (st' := [.int (-1 : Int32)]) rfl ?_
      refine w_ri h_m144 (z_at.mk 1 rfl rfl) rfl rfl ?_
      show z_W 1000 1000 927 [(0, .ref 0), (1, .ref 39), (2, .ref 143), (3, .int (0 : Int32))] [.int (-1 : Int32)] m _
      refine w_p h_m1000 5 (pc' := 932) (L' := [(0, .ref 0), (1, .ref 39), (2, .ref 143), (3, .int (0 : Int32))]) (st' := [.int (1 : Int32), .ref 0, .ref 143, .int (-1 : Int32)]) rfl ?_
      refine w_ae H (j := 1) (pc' := 933) (L' := [(0, .ref 0), (1, .ref 39), (2, .ref 143), (3, .int (0 : Int32))]) h_m1000 (z_at.mk 1 rfl rfl) rfl rfl rfl (by decide) rfl (by decide) rfl rfl rfl ?_
      refine w_p h_m1000 4 (pc' := 937) (L' := [(0, .ref 0), (1, .ref 39), (2, .ref 143), (3, .int (0 : Int32))]) (st' := [.int (2 : Int32), .ref 0, .int (xs 1), .ref 143, .int (-1 : Int32)]) rfl ?_
      refine w_ae H (j := 2) (pc' := 938) (L' := [(0, .ref 0), (1, .ref 39), (2, .ref 143), (3, .int (0 : Int32))]) h_m1000 (z_at.mk 1 rfl rfl) rfl rfl rfl (by decide) rfl (by decide) rfl rfl rfl ?_
      refine w_cv (H.t rfl) (pc' := 941) (L' := [(0, .ref 0), (1, .ref 39), (2, .ref 143), (3, .int (0 : Int32))]) (rest := [.int (-1 : Int32)]) (Ps := [.int (xs 1), .int (xs 2)]) (L0 := [(0, .ref 143), (1, .int (xs 1)), (2, .int (xs 2))]) h_m1000 (z_at.mk 3 rfl rfl) (Or.inl ⟨rfl, rfl⟩) rfl rfl (by decide) (by decide) rfl rfl rfl rfl rfl rfl (by decide) rfl rfl rfl ?_
      refine w_p h_m256 3 (pc' := 3) (L' := [(0, .ref 143), (1, .int (xs 1)), (2, .int (xs 2))]) (st' := [.int (5 : Int32), .int (0 : Int32), .int (xs 2)]) rfl ?_
      refine w_cs (As := [.int (xs 2), .int (0 : Int32), .int (5 : Int32)]) (rest := []) (j := 159) (L0 := [(0, .int (xs 2)), (1, .int (0 : Int32)), (2, .int (5 : Int32))]) (pc' := 6) (L' := [(0, .ref 143), (1, .int (xs 1)), (2, .int (xs 2))]) h_m256 (z_at.mk 3 rfl rfl) (Or.inl ⟨rfl, rfl⟩) rfl rfl rfl rfl rfl ?_
      refine w_p h_m159 2 (pc' := 2) (L' := [(0, .int (xs 2)), (1, .int (0 : Int32)), (2, .int (5 : Int32))]) (st' := [.int (0 : Int32), .int (xs 2)]) rfl ?_
      refine w_f2 (pc' := 5) (L' := [(0, .int (xs 2)), (1, .int (0 : Int32)), (2, .int (5 : Int32))]) h_m159 (z_at.mk 3 rfl rfl) rfl (zc (a := (xs 2).toInt) (b := 0) rfl rfl (decide_eq_false (by omega))) rfl rfl ?_
      refine w_p h_m159 2 (pc' := 7) (L' := [(0, .int (xs 2)), (1, .int (0 : Int32)), (2, .int (5 : Int32))]) (st' := [.int (5 : Int32), .int (xs 2)]) rfl ?_
      refine w_t2 (pc' := 14) (L' := []) h_m159 (z_at.mk 3 rfl rfl) rfl (zc (a := (xs 2).toInt) (b := 5) rfl rfl (decide_eq_true (by omega))) rfl rfl ?_
      refine w_p h_m159 1 (pc' := 15) (L' := []) (st' := [.int (0 : Int32)]) rfl ?_
      refine w_ri h_m159 (z_at.mk 1 rfl rfl) rfl rfl ?_
      show z_W 999 256 6 [(0, .ref 143), (1, .int (xs 1)), (2, .int (xs 2))] [.int (0 : Int32)] m _
      refine w_p h_m256 3 (pc' := 34) (L' := []) (st' := [.int (-1 : Int32)]) rfl ?_
      refine w_ri h_m256 (z_at.mk 1 rfl rfl) rfl rfl ?_
      show z_W 1000 1000 941 [(0, .ref 0), (1, .ref 39), (2, .ref 143), (3, .int (0 : Int32))] [.int (-1 : Int32), .int (-1 : Int32)] m _
      refine w_p h_m1000 5 (pc' := 20) (L' := [(0, .ref 0), (1, .ref 39), (2, .ref 143), (3, .int (6 : Int32))]) (st' := [.ref 0, .int (6 : Int32)]) rfl ?_
      refine w_lene H (x := (6 : Int32)) (pc' := 21) (L' := [(0, .ref 0), (1, .ref 39), (2, .ref 143), (3, .int (6 : Int32))]) h_m1000 (z_at.mk 1 rfl rfl) (by decide) rfl (by decide) rfl rfl rfl ?_
      refine w_p h_m1000 4 (pc' := 1381) (L' := [(0, .ref 0), (1, .ref 39), (2, .ref 143), (3, .int (6 : Int32))]) (st' := [.int (1 : Int32)]) rfl ?_
      refine w_ri h_m1000 (z_at.mk 1 rfl rfl) rfl rfl ?_
      exact hQ _ _ _ _ H (by decide) (by decide)
