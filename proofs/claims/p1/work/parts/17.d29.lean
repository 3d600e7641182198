/-! THE ROADS of calls 29 on a fresh object (by wip/px_cmd.py) -/
set_option maxHeartbeats 400000000 in
set_option maxRecDepth 20000 in
theorem w_c29 {xs : Nat → Int32} {m : zM} {Q : Option Value → zM → Prop} (H : w_ok 6 xs 168 63950 w_T0 m) (hQ : ∀ N S T m, w_ok 6 xs N S T m → N ≤ 600039 → S ≤ 7302250 → Q (some (.int 1)) m) : z_W 1000 1000 1079 [(0, .ref 0), (1, .ref 39), (2, .ref 143), (3, .int (0 : Int32))] [] m Q := by
  have b1 := zi_bd (xs 1)
  have b2 := zi_bd (xs 2)
  have b3 := zi_bd (xs 3)
  have b4 := zi_bd (xs 4)
  have b5 := zi_bd (xs 5)
  refine w_p h_m1000 5 (pc' := 1084) (L' := [(0, .ref 0), (1, .ref 39), (2, .ref 143), (3, .int (0 : Int32))]) (st' := [.int (1 : Int32), .ref 0, .ref 39]) rfl ?_
  refine w_ae H (j := 1) (pc' := 1085) (L' := [(0, .ref 0), (1, .ref 39), (2, .ref 143), (3, .int (0 : Int32))]) h_m1000 (z_at.mk 1 rfl rfl) rfl rfl rfl (by decide) rfl (by decide) rfl rfl rfl ?_
  refine w_p h_m1000 4 (pc' := 1089) (L' := [(0, .ref 0), (1, .ref 39), (2, .ref 143), (3, .int (0 : Int32))]) (st' := [.int (2 : Int32), .ref 0, .int (xs 1), .ref 39]) rfl ?_
  refine w_ae H (j := 2) (pc' := 1090) (L' := [(0, .ref 0), (1, .ref 39), (2, .ref 143), (3, .int (0 : Int32))]) h_m1000 (z_at.mk 1 rfl rfl) rfl rfl rfl (by decide) rfl (by decide) rfl rfl rfl ?_
  refine w_cv (H.t rfl) (pc' := 1093) (L' := [(0, .ref 0), (1, .ref 39), (2, .ref 143), (3, .int (0 : Int32))]) (rest := []) (Ps := [.int (xs 1), .int (xs 2)]) (L0 := [(0, .ref 39), (1, .int (xs 1)), (2, .int (xs 2))]) h_m1000 (z_at.mk 3 rfl rfl) (Or.inl ⟨rfl, rfl⟩) rfl rfl (by decide) (by decide) rfl rfl rfl rfl rfl rfl (by decide) rfl rfl rfl ?_
  refine w_p h_m150 1 (pc' := 1) (L' := [(0, .ref 39), (1, .int (xs 1)), (2, .int (xs 2))]) (st' := [.int (xs 1)]) rfl ?_
  refine w_cs (As := [.int (xs 1)]) (rest := []) (j := 58) (L0 := [(0, .int (xs 1))]) (pc' := 4) (L' := [(0, .ref 39), (1, .int (xs 1)), (2, .int (xs 2))]) h_m150 (z_at.mk 3 rfl rfl) (Or.inl ⟨rfl, rfl⟩) rfl rfl rfl rfl rfl ?_
  refine w_p h_m58 1 (pc' := 1) (L' := [(0, .int (xs 1))]) (st' := [.int (xs 1)]) rfl ?_
  by_cases c_1 : (xs 1).toInt < 0
  · refine w_t1 (pc' := 14) (L' := []) h_m58 (z_at.mk 3 rfl rfl) rfl (zc (a := (xs 1).toInt) (b := 0) rfl rfl (decide_eq_true (by omega))) rfl rfl ?_
    refine w_p h_m58 1 (pc' := 15) (L' := []) (st' := [.int (0 : Int32)]) rfl ?_
    refine w_ri h_m58 (z_at.mk 1 rfl rfl) rfl rfl ?_
    show z_W 999 150 4 [(0, .ref 39), (1, .int (xs 1)), (2, .int (xs 2))] [.int (0 : Int32)] m _
    refine w_p h_m150 2 (pc' := 8) (L' := [(0, .ref 39), (1, .int (xs 1)), (2, .int (xs 2))]) (st' := [.int (-1 : Int32)]) rfl ?_
    refine w_ri h_m150 (z_at.mk 1 rfl rfl) rfl rfl ?_
    show z_W 1000 1000 1093 [(0, .ref 0), (1, .ref 39), (2, .ref 143), (3, .int (0 : Int32))] [.int (-1 : Int32)] m _
    refine w_p h_m1000 5 (pc' := 1098) (L' := [(0, .ref 0), (1, .ref 39), (2, .ref 143), (3, .int (0 : Int32))]) (st' := [.int (1 : Int32), .ref 0, .ref 143, .int (-1 : Int32)]) rfl ?_
    refine w_ae H (j := 1) (pc' := 1099) (L' := [(0, .ref 0), (1, .ref 39), (2, .ref 143), (3, .int (0 : Int32))]) h_m1000 (z_at.mk 1 rfl rfl) rfl rfl rfl (by decide) rfl (by decide) rfl rfl rfl ?_
    refine w_p h_m1000 4 (pc' := 1103) (L' := [(0, .ref 0), (1, .ref 39), (2, .ref 143), (3, .int (0 : Int32))]) (st' := [.int (2 : Int32), .ref 0, .int (xs 1), .ref 143, .int (-1 : Int32)]) rfl ?_
    refine w_ae H (j := 2) (pc' := 1104) (L' := [(0, .ref 0), (1, .ref 39), (2, .ref 143), (3, .int (0 : Int32))]) h_m1000 (z_at.mk 1 rfl rfl) rfl rfl rfl (by decide) rfl (by decide) rfl rfl rfl ?_
    refine w_cv (H.t rfl) (pc' := 1107) (L' := [(0, .ref 0), (1, .ref 39), (2, .ref 143), (3, .int (0 : Int32))]) (rest := [.int (-1 : Int32)]) (Ps := [.int (xs 1), .int (xs 2)]) (L0 := [(0, .ref 143), (1, .int (xs 1)), (2, .int (xs 2))]) h_m1000 (z_at.mk 3 rfl rfl) (Or.inl ⟨rfl, rfl⟩) rfl rfl (by decide) (by decide) rfl rfl rfl rfl rfl rfl (by decide) rfl rfl rfl ?_
    refine w_p h_m264 1 (pc' := 1) (L' := [(0, .ref 143), (1, .int (xs 1)), (2, .int (xs 2))]) (st' := [.int (xs 1)]) rfl ?_
    refine w_cs (As := [.int (xs 1)]) (rest := []) (j := 262) (L0 := [(0, .int (xs 1))]) (pc' := 4) (L' := [(0, .ref 143), (1, .int (xs 1)), (2, .int (xs 2))]) h_m264 (z_at.mk 3 rfl rfl) (Or.inl ⟨rfl, rfl⟩) rfl rfl rfl rfl rfl ?_
    refine w_p h_m262 3 (pc' := 3) (L' := [(0, .int (xs 1))]) (st' := [.int (5 : Int32), .int (0 : Int32), .int (xs 1)]) rfl ?_
    refine w_cs (As := [.int (xs 1), .int (0 : Int32), .int (5 : Int32)]) (rest := []) (j := 159) (L0 := [(0, .int (xs 1)), (1, .int (0 : Int32)), (2, .int (5 : Int32))]) (pc' := 6) (L' := [(0, .int (xs 1))]) h_m262 (z_at.mk 3 rfl rfl) (Or.inl ⟨rfl, rfl⟩) rfl rfl rfl rfl rfl ?_
    refine w_p h_m159 2 (pc' := 2) (L' := [(0, .int (xs 1)), (1, .int (0 : Int32)), (2, .int (5 : Int32))]) (st' := [.int (0 : Int32), .int (xs 1)]) rfl ?_
    refine w_t2 (pc' := 14) (L' := []) h_m159 (z_at.mk 3 rfl rfl) rfl (zc (a := (xs 1).toInt) (b := 0) rfl rfl (decide_eq_true (by omega))) rfl rfl ?_
    refine w_p h_m159 1 (pc' := 15) (L' := []) (st' := [.int (0 : Int32)]) rfl ?_
    refine w_ri h_m159 (z_at.mk 1 rfl rfl) rfl rfl ?_
    show z_W 998 262 6 [(0, .int (xs 1))] [.int (0 : Int32)] m _
    refine w_ri h_m262 (z_at.mk 1 rfl rfl) rfl rfl ?_
    show z_W 999 264 4 [(0, .ref 143), (1, .int (xs 1)), (2, .int (xs 2))] [.int (0 : Int32)] m _
    refine w_p h_m264 2 (pc' := 8) (L' := [(0, .ref 143), (1, .int (xs 1)), (2, .int (xs 2))]) (st' := [.int (-1 : Int32)]) rfl ?_
    refine w_ri h_m264 (z_at.mk 1 rfl rfl) rfl rfl ?_
    show z_W 1000 1000 1107 [(0, .ref 0), (1, .ref 39), (2, .ref 143), (3, .int (0 : Int32))] [.int (-1 : Int32), .int (-1 : Int32)] m _
    refine w_p h_m1000 5 (pc' := 20) (L' := [(0, .ref 0), (1, .ref 39), (2, .ref 143), (3, .int (6 : Int32))]) (st' := [.ref 0, .int (6 : Int32)]) rfl ?_
    refine w_lene H (x := (6 : Int32)) (pc' := 21) (L' := [(0, .ref 0), (1, .ref 39), (2, .ref 143), (3, .int (6 : Int32))]) h_m1000 (z_at.mk 1 rfl rfl) (by decide) rfl (by decide) rfl rfl rfl ?_
    refine w_p h_m1000 4 (pc' := 1381) (L' := [(0, .ref 0), (1, .ref 39), (2, .ref 143), (3, .int (6 : Int32))]) (st' := [.int (1 : Int32)]) rfl ?_
    refine w_ri h_m1000 (z_at.mk 1 rfl rfl) rfl rfl ?_
    exact hQ _ _ _ _ H (by decide) (by decide)
  · refine w_f1 (pc' := 4) (L' := [(0, .int (xs 1))]) h_m58 (z_at.mk 3 rfl rfl) rfl (zc (a := (xs 1).toInt) (b := 0) rfl rfl (decide_eq_false (by omega))) rfl rfl ?_
    refine w_p h_m58 2 (pc' := 7) (L' := [(0, .int (xs 1))]) (st' := [.int (6 : Int32), .int (xs 1)]) rfl ?_
    by_cases c_2 : (xs 1).toInt < 6
    · refine w_f2 (pc' := 10) (L' := [(0, .int (xs 1))]) h_m58 (z_at.mk 3 rfl rfl) rfl (zc (a := (xs 1).toInt) (b := 6) rfl rfl (decide_eq_false (by omega))) rfl rfl ?_
      refine w_p h_m58 2 (pc' := 15) (L' := []) (st' := [.int (1 : Int32)]) rfl ?_
      refine w_ri h_m58 (z_at.mk 1 rfl rfl) rfl rfl ?_
      show z_W 999 150 4 [(0, .ref 39), (1, .int (xs 1)), (2, .int (xs 2))] [.int (1 : Int32)] m _
      refine w_p h_m150 3 (pc' := 12) (L' := [(0, .ref 39), (1, .int (xs 1)), (2, .int (xs 2))]) (st' := [.int (60 : Int32), .int (xs 2)]) rfl ?_
      by_cases c_3 : (xs 2).toInt ≤ 60
      · refine w_t2 (pc' := 18) (L' := [(0, .ref 39), (1, .int (xs 1)), (2, .int (xs 2))]) h_m150 (z_at.mk 3 rfl rfl) rfl (zc (a := (xs 2).toInt) (b := 60) rfl rfl (decide_eq_true (by omega))) rfl rfl ?_
        refine w_p h_m150 1 (pc' := 19) (L' := [(0, .ref 39), (1, .int (xs 1)), (2, .int (xs 2))]) (st' := [.int (xs 2)]) rfl ?_
        by_cases c_4 : (xs 2).toInt < 0
        · refine w_f1 (pc' := 22) (L' := [(0, .ref 39), (1, .int (xs 1)), (2, .int (xs 2))]) h_m150 (z_at.mk 3 rfl rfl) rfl (zc (a := (xs 2).toInt) (b := 0) rfl rfl (decide_eq_false (by omega))) rfl rfl ?_
          refine w_p h_m150 1 (pc' := 24) (L' := [(0, .ref 39), (1, .int (xs 1)), (2, .int (xs 2))]) (st' := [.int (-14 : Int32)]) rfl ?_
          refine w_ri h_m150 (z_at.mk 1 rfl rfl) rfl rfl ?_
          show z_W 1000 1000 1093 [(0, .ref 0), (1, .ref 39), (2, .ref 143), (3, .int (0 : Int32))] [.int (-14 : Int32)] m _
          refine w_p h_m1000 5 (pc' := 1098) (L' := [(0, .ref 0), (1, .ref 39), (2, .ref 143), (3, .int (0 : Int32))]) (st' := [.int (1 : Int32), .ref 0, .ref 143, .int (-14 : Int32)]) rfl ?_
          refine w_ae H (j := 1) (pc' := 1099) (L' := [(0, .ref 0), (1, .ref 39), (2, .ref 143), (3, .int (0 : Int32))]) h_m1000 (z_at.mk 1 rfl rfl) rfl rfl rfl (by decide) rfl (by decide) rfl rfl rfl ?_
          refine w_p h_m1000 4 (pc' := 1103) (L' := [(0, .ref 0), (1, .ref 39), (2, .ref 143), (3, .int (0 : Int32))]) (st' := [.int (2 : Int32), .ref 0, .int (xs 1), .ref 143, .int (-14 : Int32)]) rfl ?_
          refine w_ae H (j := 2) (pc' := 1104) (L' := [(0, .ref 0), (1, .ref 39), (2, .ref 143), (3, .int (0 : Int32))]) h_m1000 (z_at.mk 1 rfl rfl) rfl rfl rfl (by decide) rfl (by decide) rfl rfl rfl ?_
          refine w_cv (H.t rfl) (pc' := 1107) (L' := [(0, .ref 0), (1, .ref 39), (2, .ref 143), (3, .int (0 : Int32))]) (rest := [.int (-14 : Int32)]) (Ps := [.int (xs 1), .int (xs 2)]) (L0 := [(0, .ref 143), (1, .int (xs 1)), (2, .int (xs 2))]) h_m1000 (z_at.mk 3 rfl rfl) (Or.inl ⟨rfl, rfl⟩) rfl rfl (by decide) (by decide) rfl rfl rfl rfl rfl rfl (by decide) rfl rfl rfl ?_
          refine w_p h_m264 1 (pc' := 1) (L' := [(0, .ref 143), (1, .int (xs 1)), (2, .int (xs 2))]) (st' := [.int (xs 1)]) rfl ?_
          refine w_cs (As := [.int (xs 1)]) (rest := []) (j := 262) (L0 := [(0, .int (xs 1))]) (pc' := 4) (L' := [(0, .ref 143), (1, .int (xs 1)), (2, .int (xs 2))]) h_m264 (z_at.mk 3 rfl rfl) (Or.inl ⟨rfl, rfl⟩) rfl rfl rfl rfl rfl ?_
          refine w_p h_m262 3 (pc' := 3) (L' := [(0, .int (xs 1))]) (st' := [.int (5 : Int32), .int (0 : Int32), .int (xs 1)]) rfl ?_
          refine w_cs (As := [.int (xs 1), .int (0 : Int32), .int (5 : Int32)]) (rest := []) (j := 159) (L0 := [(0, .int (xs 1)), (1, .int (0 : Int32)), (2, .int (5 : Int32))]) (pc' := 6) (L' := [(0, .int (xs 1))]) h_m262 (z_at.mk 3 rfl rfl) (Or.inl ⟨rfl, rfl⟩) rfl rfl rfl rfl rfl ?_
          refine w_p h_m159 2 (pc' := 2) (L' := [(0, .int (xs 1)), (1, .int (0 : Int32)), (2, .int (5 : Int32))]) (st' := [.int (0 : Int32), .int (xs 1)]) rfl ?_
          refine w_f2 (pc' := 5) (L' := [(0, .int (xs 1)), (1, .int (0 : Int32)), (2, .int (5 : Int32))]) h_m159 (z_at.mk 3 rfl rfl) rfl (zc (a := (xs 1).toInt) (b := 0) rfl rfl (decide_eq_false (by omega))) rfl rfl ?_
          refine w_p h_m159 2 (pc' := 7) (L' := [(0, .int (xs 1)), (1, .int (0 : Int32)), (2, .int (5 : Int32))]) (st' := [.int (5 : Int32), .int (xs 1)]) rfl ?_
          refine w_f2 (pc' := 10) (L' := [(0, .int (xs 1)), (1, .int (0 : Int32)), (2, .int (5 : Int32))]) h_m159 (z_at.mk 3 rfl rfl) rfl (zc (a := (xs 1).toInt) (b := 5) rfl rfl (decide_eq_false (by omega))) rfl rfl ?_
          refine w_p h_m159 2 (pc' := 15) (L' := []) (st' := [.int (1 : Int32)]) rfl ?_
          refine w_ri h_m159 (z_at.mk 1 rfl rfl) rfl rfl ?_
          show z_W 998 262 6 [(0, .int (xs 1))] [.int (1 : Int32)] m _
          refine w_ri h_m262 (z_at.mk 1 rfl rfl) rfl rfl ?_
          show z_W 999 264 4 [(0, .ref 143), (1, .int (xs 1)), (2, .int (xs 2))] [.int (1 : Int32)] m _
          refine w_p h_m264 3 (pc' := 12) (L' := [(0, .ref 143), (1, .int (xs 1)), (2, .int (xs 2))]) (st' := [.int (60 : Int32), .int (xs 2)]) rfl ?_
          refine w_t2 (pc' := 18) (L' := [(0, .ref 143), (1, .int (xs 1)), (2, .int (xs 2))]) h_m264 (z_at.mk 3 rfl rfl) rfl (zc (a := (xs 2).toInt) (b := 60) rfl rfl (decide_eq_true (by omega))) rfl rfl ?_
          refine w_p h_m264 1 (pc' := 19) (L' := [(0, .ref 143), (1, .int (xs 1)), (2, .int (xs 2))]) (st' := [.int (xs 2)]) rfl ?_
          refine w_f1 (pc' := 22) (L' := [(0, .ref 143), (1, .int (xs 1)), (2, .int (xs 2))]) h_m264 (z_at.mk 3 rfl rfl) rfl (zc (a := (xs 2).toInt) (b := 0) rfl rfl (decide_eq_false (by omega))) rfl rfl ?_
          refine w_p h_m264 1 (pc' := 24) (L' := [(0, .ref 143), (1, .int (xs 1)), (2, .int (xs 2))]) (st' := [.int (-14 : Int32)]) rfl ?_
          refine w_ri h_m264 (z_at.mk 1 rfl rfl) rfl rfl ?_
          show z_W 1000 1000 1107 [(0, .ref 0), (1, .ref 39), (2, .ref 143), (3, .int (0 : Int32))] [.int (-14 : Int32), .int (-14 : Int32)] m _
          refine w_p h_m1000 5 (pc' := 20) (L' := [(0, .ref 0), (1, .ref 39), (2, .ref 143), (3, .int (6 : Int32))]) (st' := [.ref 0, .int (6 : Int32)]) rfl ?_
          refine w_lene H (x := (6 : Int32)) (pc' := 21) (L' := [(0, .ref 0), (1, .ref 39), (2, .ref 143), (3, .int (6 : Int32))]) h_m1000 (z_at.mk 1 rfl rfl) (by decide) rfl (by decide) rfl rfl rfl ?_
          refine w_p h_m1000 4 (pc' := 1381) (L' := [(0, .ref 0), (1, .ref 39), (2, .ref 143), (3, .int (6 : Int32))]) (st' := [.int (1 : Int32)]) rfl ?_
          refine w_ri h_m1000 (z_at.mk 1 rfl rfl) rfl rfl ?_
          exact hQ _ _ _ _ H (by decide) (by decide)
        · refine w_t1 (pc' := 25) (L' := [(0, .ref 39), (1, .int (xs 1)), (2, .int (xs 2))]) h_m150 (z_at.mk 3 rfl rfl) rfl (zc (a := (xs 2).toInt) (b := 0) rfl rfl (decide_eq_true (by omega))) rfl rfl ?_
          refine w_p h_m150 1 (pc' := 26) (L' := [(0, .ref 39), (1, .int (xs 1)), (2, .int (xs 2))]) (st' := [.ref 39]) rfl ?_
          refine w_gf H (pc' := 29) (L' := [(0, .ref 39), (1, .int (xs 1)), (2, .int (xs 2))]) h_m150 (z_at.mk 3 rfl rfl) rfl (u := .ref 134) rfl rfl rfl ?_
          refine w_p h_m150 2 (pc' := 31) (L' := [(0, .ref 39), (1, .int (xs 1)), (2, .int (xs 2))]) (st' := [.int (xs 2), .int (xs 1), .ref 134]) rfl ?_
          refine w_cv (H.t rfl) (pc' := 34) (L' := [(0, .ref 39), (1, .int (xs 1)), (2, .int (xs 2))]) (rest := []) (Ps := [.int (xs 1), .int (xs 2)]) (L0 := [(0, .ref 134), (1, .int (xs 1)), (2, .int (xs 2))]) h_m150 (z_at.mk 3 rfl rfl) (Or.inl ⟨rfl, rfl⟩) rfl rfl (by decide) (by decide) rfl rfl rfl rfl rfl rfl (by decide) rfl rfl rfl ?_
          refine w_p h_m60 1 (pc' := 1) (L' := [(0, .ref 134), (1, .int (xs 1)), (2, .int (xs 2))]) (st' := [.int (xs 1)]) rfl ?_
          refine w_cs (As := [.int (xs 1)]) (rest := []) (j := 58) (L0 := [(0, .int (xs 1))]) (pc' := 4) (L' := [(0, .ref 134), (1, .int (xs 1)), (2, .int (xs 2))]) h_m60 (z_at.mk 3 rfl rfl) (Or.inl ⟨rfl, rfl⟩) rfl rfl rfl rfl rfl ?_
          refine w_p h_m58 1 (pc' := 1) (L' := [(0, .int (xs 1))]) (st' := [.int (xs 1)]) rfl ?_
          refine w_f1 (pc' := 4) (L' := [(0, .int (xs 1))]) h_m58 (z_at.mk 3 rfl rfl) rfl (zc (a := (xs 1).toInt) (b := 0) rfl rfl (decide_eq_false (by omega))) rfl rfl ?_
          refine w_p h_m58 2 (pc' := 7) (L' := [(0, .int (xs 1))]) (st' := [.int (6 : Int32), .int (xs 1)]) rfl ?_
          refine w_f2 (pc' := 10) (L' := [(0, .int (xs 1))]) h_m58 (z_at.mk 3 rfl rfl) rfl (zc (a := (xs 1).toInt) (b := 6) rfl rfl (decide_eq_false (by omega))) rfl rfl ?_
          refine w_p h_m58 2 (pc' := 15) (L' := []) (st' := [.int (1 : Int32)]) rfl ?_
          refine w_ri h_m58 (z_at.mk 1 rfl rfl) rfl rfl ?_
          show z_W 998 60 4 [(0, .ref 134), (1, .int (xs 1)), (2, .int (xs 2))] [.int (1 : Int32)] m _
          refine w_p h_m60 2 (pc' := 8) (L' := [(0, .ref 134), (1, .int (xs 1)), (2, .int (xs 2))]) (st' := [.int (xs 2)]) rfl ?_
          refine w_f1 (pc' := 11) (L' := [(0, .ref 134), (1, .int (xs 1)), (2, .int (xs 2))]) h_m60 (z_at.mk 3 rfl rfl) rfl (zc (a := (xs 2).toInt) (b := 0) rfl rfl (decide_eq_false (by omega))) rfl rfl ?_
          refine w_p h_m60 2 (pc' := 14) (L' := [(0, .ref 134), (1, .int (xs 1)), (2, .int (xs 2))]) (st' := [.int (60 : Int32), .int (xs 2)]) rfl ?_
          refine w_t2 (pc' := 18) (L' := [(0, .ref 134), (1, .int (xs 1)), (2, .int (xs 2))]) h_m60 (z_at.mk 3 rfl rfl) rfl (zc (a := (xs 2).toInt) (b := 60) rfl rfl (decide_eq_true (by omega))) rfl rfl ?_
          refine w_p h_m60 1 (pc' := 19) (L' := [(0, .ref 134), (1, .int (xs 1)), (2, .int (xs 2))]) (st' := [.ref 134]) rfl ?_
          refine w_gf H (pc' := 22) (L' := [(0, .ref 134), (1, .int (xs 1)), (2, .int (xs 2))]) h_m60 (z_at.mk 3 rfl rfl) rfl (u := .ref 142) rfl rfl rfl ?_
          refine w_p h_m60 2 (pc' := 24) (L' := [(0, .ref 134), (1, .int (xs 1)), (2, .int (xs 2))]) (st' := [.int (xs 2), .int (xs 1), .ref 142]) rfl ?_
          refine w_asy H (t := 0) (n := 6) (c := (xs 1).toInt) (u := .int (xs 2)) (pc' := 25) (L' := [(0, .ref 134), (1, .int (xs 1)), (2, .int (xs 2))]) h_m60 (z_at.mk 1 rfl rfl) rfl rfl (w_ui _ _ (by decide)) rfl (by omega) (by omega) rfl rfl rfl ?_
          clear H m; intro m H
          refine w_p h_m60 2 (pc' := 27) (L' := [(0, .ref 134), (1, .int (xs 1)), (2, .int (xs 2)), (3, .int (0 : Int32))]) (st' := []) rfl ?_
          refine w_mk rfl (fun j hj => by rcases (show j = 0 ∨ j = 1 ∨ j = 2 ∨ j = 3 ∨ j = 4 ∨ j = 5 by omega) with rfl | rfl | rfl | rfl | rfl | rfl <;> rfl) (fun j hj => by rcases (show j = 0 ∨ j = 1 ∨ j = 2 ∨ j = 3 ∨ j = 4 ∨ j = 5 by omega) with rfl | rfl | rfl | rfl | rfl | rfl <;> rfl) ⟨by omega, by omega⟩ (by omega) ?_ 60 (0 : Int32) m (by decide) (by have : (0 : Int32).toInt = 0 := rfl; omega) H
          clear H m; intro m H
          show z_W 999 150 34 [(0, .ref 39), (1, .int (xs 1)), (2, .int (xs 2))] [] m _
          refine w_p h_m150 1 (pc' := 35) (L' := [(0, .ref 39), (1, .int (xs 1)), (2, .int (xs 2))]) (st' := [.int (1 : Int32)]) rfl ?_
          refine w_ri h_m150 (z_at.mk 1 rfl rfl) rfl rfl ?_
          show z_W 1000 1000 1093 [(0, .ref 0), (1, .ref 39), (2, .ref 143), (3, .int (0 : Int32))] [.int (1 : Int32)] m _
          refine w_p h_m1000 5 (pc' := 1098) (L' := [(0, .ref 0), (1, .ref 39), (2, .ref 143), (3, .int (0 : Int32))]) (st' := [.int (1 : Int32), .ref 0, .ref 143, .int (1 : Int32)]) rfl ?_
          refine w_ae H (j := 1) (pc' := 1099) (L' := [(0, .ref 0), (1, .ref 39), (2, .ref 143), (3, .int (0 : Int32))]) h_m1000 (z_at.mk 1 rfl rfl) rfl rfl rfl (by decide) rfl (by decide) rfl rfl rfl ?_
          refine w_p h_m1000 4 (pc' := 1103) (L' := [(0, .ref 0), (1, .ref 39), (2, .ref 143), (3, .int (0 : Int32))]) (st' := [.int (2 : Int32), .ref 0, .int (xs 1), .ref 143, .int (1 : Int32)]) rfl ?_
          refine w_ae H (j := 2) (pc' := 1104) (L' := [(0, .ref 0), (1, .ref 39), (2, .ref 143), (3, .int (0 : Int32))]) h_m1000 (z_at.mk 1 rfl rfl) rfl rfl rfl (by decide) rfl (by decide) rfl rfl rfl ?_
          refine w_cv (H.t rfl) (pc' := 1107) (L' := [(0, .ref 0), (1, .ref 39), (2, .ref 143), (3, .int (0 : Int32))]) (rest := [.int (1 : Int32)]) (Ps := [.int (xs 1), .int (xs 2)]) (L0 := [(0, .ref 143), (1, .int (xs 1)), (2, .int (xs 2))]) h_m1000 (z_at.mk 3 rfl rfl) (Or.inl ⟨rfl, rfl⟩) rfl rfl (by decide) (by decide) rfl rfl rfl rfl rfl rfl (by decide) rfl rfl rfl ?_
          refine w_p h_m264 1 (pc' := 1) (L' := [(0, .ref 143), (1, .int (xs 1)), (2, .int (xs 2))]) (st' := [.int (xs 1)]) rfl ?_
          refine w_cs (As := [.int (xs 1)]) (rest := []) (j := 262) (L0 := [(0, .int (xs 1))]) (pc' := 4) (L' := [(0, .ref 143), (1, .int (xs 1)), (2, .int (xs 2))]) h_m264 (z_at.mk 3 rfl rfl) (Or.inl ⟨rfl, rfl⟩) rfl rfl rfl rfl rfl ?_
          refine w_p h_m262 3 (pc' := 3) (L' := [(0, .int (xs 1))]) (st' := [.int (5 : Int32), .int (0 : Int32), .int (xs 1)]) rfl ?_
          refine w_cs (As := [.int (xs 1), .int (0 : Int32), .int (5 : Int32)]) (rest := []) (j := 159) (L0 := [(0, .int (xs 1)), (1, .int (0 : Int32)), (2, .int (5 : Int32))]) (pc' := 6) (L' := [(0, .int (xs 1))]) h_m262 (z_at.mk 3 rfl rfl) (Or.inl ⟨rfl, rfl⟩) rfl rfl rfl rfl rfl ?_
          refine w_p h_m159 2 (pc' := 2) (L' := [(0, .int (xs 1)), (1, .int (0 : Int32)), (2, .int (5 : Int32))]) (st' := [.int (0 : Int32), .int (xs 1)]) rfl ?_
          refine w_f2 (pc' := 5) (L' := [(0, .int (xs 1)), (1, .int (0 : Int32)), (2, .int (5 : Int32))]) h_m159 (z_at.mk 3 rfl rfl) rfl (zc (a := (xs 1).toInt) (b := 0) rfl rfl (decide_eq_false (by omega))) rfl rfl ?_
          refine w_p h_m159 2 (pc' := 7) (L' := [(0, .int (xs 1)), (1, .int (0 : Int32)), (2, .int (5 : Int32))]) (st' := [.int (5 : Int32), .int (xs 1)]) rfl ?_
          refine w_f2 (pc' := 10) (L' := [(0, .int (xs 1)), (1, .int (0 : Int32)), (2, .int (5 : Int32))]) h_m159 (z_at.mk 3 rfl rfl) rfl (zc (a := (xs 1).toInt) (b := 5) rfl rfl (decide_eq_false (by omega))) rfl rfl ?_
          refine w_p h_m159 2 (pc' := 15) (L' := []) (st' := [.int (1 : Int32)]) rfl ?_
          refine w_ri h_m159 (z_at.mk 1 rfl rfl) rfl rfl ?_
          show z_W 998 262 6 [(0, .int (xs 1))] [.int (1 : Int32)] m _
          refine w_ri h_m262 (z_at.mk 1 rfl rfl) rfl rfl ?_
          show z_W 999 264 4 [(0, .ref 143), (1, .int (xs 1)), (2, .int (xs 2))] [.int (1 : Int32)] m _
          refine w_p h_m264 3 (pc' := 12) (L' := [(0, .ref 143), (1, .int (xs 1)), (2, .int (xs 2))]) (st' := [.int (60 : Int32), .int (xs 2)]) rfl ?_
          refine w_t2 (pc' := 18) (L' := [(0, .ref 143), (1, .int (xs 1)), (2, .int (xs 2))]) h_m264 (z_at.mk 3 rfl rfl) rfl (zc (a := (xs 2).toInt) (b := 60) rfl rfl (decide_eq_true (by omega))) rfl rfl ?_
          refine w_p h_m264 1 (pc' := 19) (L' := [(0, .ref 143), (1, .int (xs 1)), (2, .int (xs 2))]) (st' := [.int (xs 2)]) rfl ?_
          refine w_t1 (pc' := 25) (L' := [(0, .ref 143), (1, .int (xs 1)), (2, .int (xs 2))]) h_m264 (z_at.mk 3 rfl rfl) rfl (zc (a := (xs 2).toInt) (b := 0) rfl rfl (decide_eq_true (by omega))) rfl rfl ?_
          refine w_p h_m264 1 (pc' := 26) (L' := [(0, .ref 143), (1, .int (xs 1)), (2, .int (xs 2))]) (st' := [.ref 143]) rfl ?_
          refine w_gf H (pc' := 29) (L' := [(0, .ref 143), (1, .int (xs 1)), (2, .int (xs 2))]) h_m264 (z_at.mk 3 rfl rfl) rfl (u := .ref 166) rfl rfl rfl ?_
          refine w_p h_m264 2 (pc' := 31) (L' := [(0, .ref 143), (1, .int (xs 1)), (2, .int (xs 2))]) (st' := [.int (xs 2), .int (xs 1), .ref 166]) rfl ?_
          refine w_asy H (t := 0) (n := 6) (c := (xs 1).toInt) (u := .int (xs 2)) (pc' := 32) (L' := [(0, .ref 143), (1, .int (xs 1)), (2, .int (xs 2))]) h_m264 (z_at.mk 1 rfl rfl) rfl rfl (w_ui _ _ (by decide)) rfl (by omega) (by omega) rfl rfl rfl ?_
          clear H m; intro m H
          refine w_p h_m264 6 (pc' := 41) (L' := [(0, .ref 143), (1, .int (xs 1)), (3, .int (0 : Int32))]) (st' := [.ref 143]) rfl ?_
          refine w_gf H (pc' := 44) (L' := [(0, .ref 143), (1, .int (xs 1)), (3, .int (0 : Int32))]) h_m264 (z_at.mk 3 rfl rfl) rfl (u := .ref 167) rfl rfl rfl ?_
          refine w_p h_m264 6 (pc' := 51) (L' := [(0, .ref 143), (1, .int (xs 1)), (3, .int (0 : Int32))]) (st' := [.long (0 : Int64), .int (((60 : Int32) * (xs 1)) + (0 : Int32)), .ref 167]) rfl ?_
          refine w_asx H (t := 1) (n := 360) (c := 60 * (xs 1).toInt) (u := .long (0 : Int64)) (1, 360, [], some (.long (0 : Int64))) (pc' := 52) (L' := [(0, .ref 143), (1, .int (xs 1)), (3, .int (0 : Int32))]) h_m264 (z_at.mk 1 rfl rfl) rfl rfl (w_ul _) (zi_add (a := 60 * (xs 1).toInt) (b := 0) (c := 60 * (xs 1).toInt) (zi_mul (a := 60) (b := (xs 1).toInt) (c := 60 * (xs 1).toInt) rfl rfl (by omega) (by omega) (by omega)) rfl (by omega) (by omega) (by omega)) (by omega) (by omega) rfl ⟨rfl, rfl⟩ (w_kn_n) (Or.inr ⟨rfl, rfl⟩) rfl rfl ?_
          clear H m; intro m H
          refine w_p h_m264 6 (pc' := 41) (L' := [(0, .ref 143), (1, .int (xs 1)), (3, .int (1 : Int32))]) (st' := [.ref 143]) rfl ?_
          refine w_gf H (pc' := 44) (L' := [(0, .ref 143), (1, .int (xs 1)), (3, .int (1 : Int32))]) h_m264 (z_at.mk 3 rfl rfl) rfl (u := .ref 167) rfl rfl rfl ?_
          refine w_p h_m264 6 (pc' := 51) (L' := [(0, .ref 143), (1, .int (xs 1)), (3, .int (1 : Int32))]) (st' := [.long (0 : Int64), .int (((60 : Int32) * (xs 1)) + (1 : Int32)), .ref 167]) rfl ?_
          refine w_asx H (t := 1) (n := 360) (c := 60 * (xs 1).toInt + 1) (u := .long (0 : Int64)) (1, 360, [], some (.long (0 : Int64))) (pc' := 52) (L' := [(0, .ref 143), (1, .int (xs 1)), (3, .int (1 : Int32))]) h_m264 (z_at.mk 1 rfl rfl) rfl rfl (w_ul _) (zi_add (a := 60 * (xs 1).toInt) (b := 1) (c := 60 * (xs 1).toInt + 1) (zi_mul (a := 60) (b := (xs 1).toInt) (c := 60 * (xs 1).toInt) rfl rfl (by omega) (by omega) (by omega)) rfl (by omega) (by omega) (by omega)) (by omega) (by omega) rfl ⟨rfl, rfl⟩ (w_kn_n) (Or.inr ⟨rfl, rfl⟩) rfl rfl ?_
          clear H m; intro m H
          refine w_p h_m264 6 (pc' := 41) (L' := [(0, .ref 143), (1, .int (xs 1)), (3, .int (2 : Int32))]) (st' := [.ref 143]) rfl ?_
          refine w_gf H (pc' := 44) (L' := [(0, .ref 143), (1, .int (xs 1)), (3, .int (2 : Int32))]) h_m264 (z_at.mk 3 rfl rfl) rfl (u := .ref 167) rfl rfl rfl ?_
          refine w_p h_m264 6 (pc' := 51) (L' := [(0, .ref 143), (1, .int (xs 1)), (3, .int (2 : Int32))]) (st' := [.long (0 : Int64), .int (((60 : Int32) * (xs 1)) + (2 : Int32)), .ref 167]) rfl ?_
          refine w_asx H (t := 1) (n := 360) (c := 60 * (xs 1).toInt + 2) (u := .long (0 : Int64)) (1, 360, [], some (.long (0 : Int64))) (pc' := 52) (L' := [(0, .ref 143), (1, .int (xs 1)), (3, .int (2 : Int32))]) h_m264 (z_at.mk 1 rfl rfl) rfl rfl (w_ul _) (zi_add (a := 60 * (xs 1).toInt) (b := 2) (c := 60 * (xs 1).toInt + 2) (zi_mul (a := 60) (b := (xs 1).toInt) (c := 60 * (xs 1).toInt) rfl rfl (by omega) (by omega) (by omega)) rfl (by omega) (by omega) (by omega)) (by omega) (by omega) rfl ⟨rfl, rfl⟩ (w_kn_n) (Or.inr ⟨rfl, rfl⟩) rfl rfl ?_
          clear H m; intro m H
          refine w_p h_m264 6 (pc' := 41) (L' := [(0, .ref 143), (1, .int (xs 1)), (3, .int (3 : Int32))]) (st' := [.ref 143]) rfl ?_
          refine w_gf H (pc' := 44) (L' := [(0, .ref 143), (1, .int (xs 1)), (3, .int (3 : Int32))]) h_m264 (z_at.mk 3 rfl rfl) rfl (u := .ref 167) rfl rfl rfl ?_
          refine w_p h_m264 6 (pc' := 51) (L' := [(0, .ref 143), (1, .int (xs 1)), (3, .int (3 : Int32))]) (st' := [.long (0 : Int64), .int (((60 : Int32) * (xs 1)) + (3 : Int32)), .ref 167]) rfl ?_
          refine w_asx H (t := 1) (n := 360) (c := 60 * (xs 1).toInt + 3) (u := .long (0 : Int64)) (1, 360, [], some (.long (0 : Int64))) (pc' := 52) (L' := [(0, .ref 143), (1, .int (xs 1)), (3, .int (3 : Int32))]) h_m264 (z_at.mk 1 rfl rfl) rfl rfl (w_ul _) (zi_add (a := 60 * (xs 1).toInt) (b := 3) (c := 60 * (xs 1).toInt + 3) (zi_mul (a := 60) (b := (xs 1).toInt) (c := 60 * (xs 1).toInt) rfl rfl (by omega) (by omega) (by omega)) rfl (by omega) (by omega) (by omega)) (by omega) (by omega) rfl ⟨rfl, rfl⟩ (w_kn_n) (Or.inr ⟨rfl, rfl⟩) rfl rfl ?_
          clear H m; intro m H
          refine w_p h_m264 6 (pc' := 41) (L' := [(0, .ref 143), (1, .int (xs 1)), (3, .int (4 : Int32))]) (st' := [.ref 143]) rfl ?_
          refine w_gf H (pc' := 44) (L' := [(0, .ref 143), (1, .int (xs 1)), (3, .int (4 : Int32))]) h_m264 (z_at.mk 3 rfl rfl) rfl (u := .ref 167) rfl rfl rfl ?_
          refine w_p h_m264 6 (pc' := 51) (L' := [(0, .ref 143), (1, .int (xs 1)), (3, .int (4 : Int32))]) (st' := [.long (0 : Int64), .int (((60 : Int32) * (xs 1)) + (4 : Int32)), .ref 167]) rfl ?_
          refine w_asx H (t := 1) (n := 360) (c := 60 * (xs 1).toInt + 4) (u := .long (0 : Int64)) (1, 360, [], some (.long (0 : Int64))) (pc' := 52) (L' := [(0, .ref 143), (1, .int (xs 1)), (3, .int (4 : Int32))]) h_m264 (z_at.mk 1 rfl rfl) rfl rfl (w_ul _) (zi_add (a := 60 * (xs 1).toInt) (b := 4) (c := 60 * (xs 1).toInt + 4) (zi_mul (a := 60) (b := (xs 1).toInt) (c := 60 * (xs 1).toInt) rfl rfl (by omega) (by omega) (by omega)) rfl (by omega) (by omega) (by omega)) (by omega) (by omega) rfl ⟨rfl, rfl⟩ (w_kn_n) (Or.inr ⟨rfl, rfl⟩) rfl rfl ?_
          clear H m; intro m H
          refine w_p h_m264 6 (pc' := 41) (L' := [(0, .ref 143), (1, .int (xs 1)), (3, .int (5 : Int32))]) (st' := [.ref 143]) rfl ?_
          refine w_gf H (pc' := 44) (L' := [(0, .ref 143), (1, .int (xs 1)), (3, .int (5 : Int32))]) h_m264 (z_at.mk 3 rfl rfl) rfl (u := .ref 167) rfl rfl rfl ?_
          refine w_p h_m264 6 (pc' := 51) (L' := [(0, .ref 143), (1, .int (xs 1)), (3, .int (5 : Int32))]) (st' := [.long (0 : Int64), .int (((60 : Int32) * (xs 1)) + (5 : Int32)), .ref 167]) rfl ?_
          refine w_asx H (t := 1) (n := 360) (c := 60 * (xs 1).toInt + 5) (u := .long (0 : Int64)) (1, 360, [], some (.long (0 : Int64))) (pc' := 52) (L' := [(0, .ref 143), (1, .int (xs 1)), (3, .int (5 : Int32))]) h_m264 (z_at.mk 1 rfl rfl) rfl rfl (w_ul _) (zi_add (a := 60 * (xs 1).toInt) (b := 5) (c := 60 * (xs 1).toInt + 5) (zi_mul (a := 60) (b := (xs 1).toInt) (c := 60 * (xs 1).toInt) rfl rfl (by omega) (by omega) (by omega)) rfl (by omega) (by omega) (by omega)) (by omega) (by omega) rfl ⟨rfl, rfl⟩ (w_kn_n) (Or.inr ⟨rfl, rfl⟩) rfl rfl ?_
          clear H m; intro m H
          refine w_p h_m264 6 (pc' := 41) (L' := [(0, .ref 143), (1, .int (xs 1)), (3, .int (6 : Int32))]) (st' := [.ref 143]) rfl ?_
          refine w_gf H (pc' := 44) (L' := [(0, .ref 143), (1, .int (xs 1)), (3, .int (6 : Int32))]) h_m264 (z_at.mk 3 rfl rfl) rfl (u := .ref 167) rfl rfl rfl ?_
          refine w_p h_m264 6 (pc' := 51) (L' := [(0, .ref 143), (1, .int (xs 1)), (3, .int (6 : Int32))]) (st' := [.long (0 : Int64), .int (((60 : Int32) * (xs 1)) + (6 : Int32)), .ref 167]) rfl ?_
          refine w_asx H (t := 1) (n := 360) (c := 60 * (xs 1).toInt + 6) (u := .long (0 : Int64)) (1, 360, [], some (.long (0 : Int64))) (pc' := 52) (L' := [(0, .ref 143), (1, .int (xs 1)), (3, .int (6 : Int32))]) h_m264 (z_at.mk 1 rfl rfl) rfl rfl (w_ul _) (zi_add (a := 60 * (xs 1).toInt) (b := 6) (c := 60 * (xs 1).toInt + 6) (zi_mul (a := 60) (b := (xs 1).toInt) (c := 60 * (xs 1).toInt) rfl rfl (by omega) (by omega) (by omega)) rfl (by omega) (by omega) (by omega)) (by omega) (by omega) rfl ⟨rfl, rfl⟩ (w_kn_n) (Or.inr ⟨rfl, rfl⟩) rfl rfl ?_
          clear H m; intro m H
          refine w_p h_m264 6 (pc' := 41) (L' := [(0, .ref 143), (1, .int (xs 1)), (3, .int (7 : Int32))]) (st' := [.ref 143]) rfl ?_
          refine w_gf H (pc' := 44) (L' := [(0, .ref 143), (1, .int (xs 1)), (3, .int (7 : Int32))]) h_m264 (z_at.mk 3 rfl rfl) rfl (u := .ref 167) rfl rfl rfl ?_
          refine w_p h_m264 6 (pc' := 51) (L' := [(0, .ref 143), (1, .int (xs 1)), (3, .int (7 : Int32))]) (st' := [.long (0 : Int64), .int (((60 : Int32) * (xs 1)) + (7 : Int32)), .ref 167]) rfl ?_
          refine w_asx H (t := 1) (n := 360) (c := 60 * (xs 1).toInt + 7) (u := .long (0 : Int64)) (1, 360, [], some (.long (0 : Int64))) (pc' := 52) (L' := [(0, .ref 143), (1, .int (xs 1)), (3, .int (7 : Int32))]) h_m264 (z_at.mk 1 rfl rfl) rfl rfl (w_ul _) (zi_add (a := 60 * (xs 1).toInt) (b := 7) (c := 60 * (xs 1).toInt + 7) (zi_mul (a := 60) (b := (xs 1).toInt) (c := 60 * (xs 1).toInt) rfl rfl (by omega) (by omega) (by omega)) rfl (by omega) (by omega) (by omega)) (by omega) (by omega) rfl ⟨rfl, rfl⟩ (w_kn_n) (Or.inr ⟨rfl, rfl⟩) rfl rfl ?_
          clear H m; intro m H
          refine w_p h_m264 6 (pc' := 41) (L' := [(0, .ref 143), (1, .int (xs 1)), (3, .int (8 : Int32))]) (st' := [.ref 143]) rfl ?_
          refine w_gf H (pc' := 44) (L' := [(0, .ref 143), (1, .int (xs 1)), (3, .int (8 : Int32))]) h_m264 (z_at.mk 3 rfl rfl) rfl (u := .ref 167) rfl rfl rfl ?_
          refine w_p h_m264 6 (pc' := 51) (L' := [(0, .ref 143), (1, .int (xs 1)), (3, .int (8 : Int32))]) (st' := [.long (0 : Int64), .int (((60 : Int32) * (xs 1)) + (8 : Int32)), .ref 167]) rfl ?_
          refine w_asx H (t := 1) (n := 360) (c := 60 * (xs 1).toInt + 8) (u := .long (0 : Int64)) (1, 360, [], some (.long (0 : Int64))) (pc' := 52) (L' := [(0, .ref 143), (1, .int (xs 1)), (3, .int (8 : Int32))]) h_m264 (z_at.mk 1 rfl rfl) rfl rfl (w_ul _) (zi_add (a := 60 * (xs 1).toInt) (b := 8) (c := 60 * (xs 1).toInt + 8) (zi_mul (a := 60) (b := (xs 1).toInt) (c := 60 * (xs 1).toInt) rfl rfl (by omega) (by omega) (by omega)) rfl (by omega) (by omega) (by omega)) (by omega) (by omega) rfl ⟨rfl, rfl⟩ (w_kn_n) (Or.inr ⟨rfl, rfl⟩) rfl rfl ?_
          clear H m; intro m H
          refine w_p h_m264 6 (pc' := 41) (L' := [(0, .ref 143), (1, .int (xs 1)), (3, .int (9 : Int32))]) (st' := [.ref 143]) rfl ?_
          refine w_gf H (pc' := 44) (L' := [(0, .ref 143), (1, .int (xs 1)), (3, .int (9 : Int32))]) h_m264 (z_at.mk 3 rfl rfl) rfl (u := .ref 167) rfl rfl rfl ?_
          refine w_p h_m264 6 (pc' := 51) (L' := [(0, .ref 143), (1, .int (xs 1)), (3, .int (9 : Int32))]) (st' := [.long (0 : Int64), .int (((60 : Int32) * (xs 1)) + (9 : Int32)), .ref 167]) rfl ?_
          refine w_asx H (t := 1) (n := 360) (c := 60 * (xs 1).toInt + 9) (u := .long (0 : Int64)) (1, 360, [], some (.long (0 : Int64))) (pc' := 52) (L' := [(0, .ref 143), (1, .int (xs 1)), (3, .int (9 : Int32))]) h_m264 (z_at.mk 1 rfl rfl) rfl rfl (w_ul _) (zi_add (a := 60 * (xs 1).toInt) (b := 9) (c := 60 * (xs 1).toInt + 9) (zi_mul (a := 60) (b := (xs 1).toInt) (c := 60 * (xs 1).toInt) rfl rfl (by omega) (by omega) (by omega)) rfl (by omega) (by omega) (by omega)) (by omega) (by omega) rfl ⟨rfl, rfl⟩ (w_kn_n) (Or.inr ⟨rfl, rfl⟩) rfl rfl ?_
          clear H m; intro m H
          refine w_p h_m264 6 (pc' := 41) (L' := [(0, .ref 143), (1, .int (xs 1)), (3, .int (10 : Int32))]) (st' := [.ref 143]) rfl ?_
          refine w_gf H (pc' := 44) (L' := [(0, .ref 143), (1, .int (xs 1)), (3, .int (10 : Int32))]) h_m264 (z_at.mk 3 rfl rfl) rfl (u := .ref 167) rfl rfl rfl ?_
          refine w_p h_m264 6 (pc' := 51) (L' := [(0, .ref 143), (1, .int (xs 1)), (3, .int (10 : Int32))]) (st' := [.long (0 : Int64), .int (((60 : Int32) * (xs 1)) + (10 : Int32)), .ref 167]) rfl ?_
          refine w_asx H (t := 1) (n := 360) (c := 60 * (xs 1).toInt + 10) (u := .long (0 : Int64)) (1, 360, [], some (.long (0 : Int64))) (pc' := 52) (L' := [(0, .ref 143), (1, .int (xs 1)), (3, .int (10 : Int32))]) h_m264 (z_at.mk 1 rfl rfl) rfl rfl (w_ul _) (zi_add (a := 60 * (xs 1).toInt) (b := 10) (c := 60 * (xs 1).toInt + 10) (zi_mul (a := 60) (b := (xs 1).toInt) (c := 60 * (xs 1).toInt) rfl rfl (by omega) (by omega) (by omega)) rfl (by omega) (by omega) (by omega)) (by omega) (by omega) rfl ⟨rfl, rfl⟩ (w_kn_n) (Or.inr ⟨rfl, rfl⟩) rfl rfl ?_
          clear H m; intro m H
          refine w_p h_m264 6 (pc' := 41) (L' := [(0, .ref 143), (1, .int (xs 1)), (3, .int (11 : Int32))]) (st' := [.ref 143]) rfl ?_
          refine w_gf H (pc' := 44) (L' := [(0, .ref 143), (1, .int (xs 1)), (3, .int (11 : Int32))]) h_m264 (z_at.mk 3 rfl rfl) rfl (u := .ref 167) rfl rfl rfl ?_
          refine w_p h_m264 6 (pc' := 51) (L' := [(0, .ref 143), (1, .int (xs 1)), (3, .int (11 : Int32))]) (st' := [.long (0 : Int64), .int (((60 : Int32) * (xs 1)) + (11 : Int32)), .ref 167]) rfl ?_
          refine w_asx H (t := 1) (n := 360) (c := 60 * (xs 1).toInt + 11) (u := .long (0 : Int64)) (1, 360, [], some (.long (0 : Int64))) (pc' := 52) (L' := [(0, .ref 143), (1, .int (xs 1)), (3, .int (11 : Int32))]) h_m264 (z_at.mk 1 rfl rfl) rfl rfl (w_ul _) (zi_add (a := 60 * (xs 1).toInt) (b := 11) (c := 60 * (xs 1).toInt + 11) (zi_mul (a := 60) (b := (xs 1).toInt) (c := 60 * (xs 1).toInt) rfl rfl (by omega) (by omega) (by omega)) rfl (by omega) (by omega) (by omega)) (by omega) (by omega) rfl ⟨rfl, rfl⟩ (w_kn_n) (Or.inr ⟨rfl, rfl⟩) rfl rfl ?_
          clear H m; intro m H
          refine w_p h_m264 6 (pc' := 41) (L' := [(0, .ref 143), (1, .int (xs 1)), (3, .int (12 : Int32))]) (st' := [.ref 143]) rfl ?_
          refine w_gf H (pc' := 44) (L' := [(0, .ref 143), (1, .int (xs 1)), (3, .int (12 : Int32))]) h_m264 (z_at.mk 3 rfl rfl) rfl (u := .ref 167) rfl rfl rfl ?_
          refine w_p h_m264 6 (pc' := 51) (L' := [(0, .ref 143), (1, .int (xs 1)), (3, .int (12 : Int32))]) (st' := [.long (0 : Int64), .int (((60 : Int32) * (xs 1)) + (12 : Int32)), .ref 167]) rfl ?_
          refine w_asx H (t := 1) (n := 360) (c := 60 * (xs 1).toInt + 12) (u := .long (0 : Int64)) (1, 360, [], some (.long (0 : Int64))) (pc' := 52) (L' := [(0, .ref 143), (1, .int (xs 1)), (3, .int (12 : Int32))]) h_m264 (z_at.mk 1 rfl rfl) rfl rfl (w_ul _) (zi_add (a := 60 * (xs 1).toInt) (b := 12) (c := 60 * (xs 1).toInt + 12) (zi_mul (a := 60) (b := (xs 1).toInt) (c := 60 * (xs 1).toInt) rfl rfl (by omega) (by omega) (by omega)) rfl (by omega) (by omega) (by omega)) (by omega) (by omega) rfl ⟨rfl, rfl⟩ (w_kn_n) (Or.inr ⟨rfl, rfl⟩) rfl rfl ?_
          clear H m; intro m H
          refine w_p h_m264 6 (pc' := 41) (L' := [(0, .ref 143), (1, .int (xs 1)), (3, .int (13 : Int32))]) (st' := [.ref 143]) rfl ?_
          refine w_gf H (pc' := 44) (L' := [(0, .ref 143), (1, .int (xs 1)), (3, .int (13 : Int32))]) h_m264 (z_at.mk 3 rfl rfl) rfl (u := .ref 167) rfl rfl rfl ?_
          refine w_p h_m264 6 (pc' := 51) (L' := [(0, .ref 143), (1, .int (xs 1)), (3, .int (13 : Int32))]) (st' := [.long (0 : Int64), .int (((60 : Int32) * (xs 1)) + (13 : Int32)), .ref 167]) rfl ?_
          refine w_asx H (t := 1) (n := 360) (c := 60 * (xs 1).toInt + 13) (u := .long (0 : Int64)) (1, 360, [], some (.long (0 : Int64))) (pc' := 52) (L' := [(0, .ref 143), (1, .int (xs 1)), (3, .int (13 : Int32))]) h_m264 (z_at.mk 1 rfl rfl) rfl rfl (w_ul _) (zi_add (a := 60 * (xs 1).toInt) (b := 13) (c := 60 * (xs 1).toInt + 13) (zi_mul (a := 60) (b := (xs 1).toInt) (c := 60 * (xs 1).toInt) rfl rfl (by omega) (by omega) (by omega)) rfl (by omega) (by omega) (by omega)) (by omega) (by omega) rfl ⟨rfl, rfl⟩ (w_kn_n) (Or.inr ⟨rfl, rfl⟩) rfl rfl ?_
          clear H m; intro m H
          refine w_p h_m264 6 (pc' := 41) (L' := [(0, .ref 143), (1, .int (xs 1)), (3, .int (14 : Int32))]) (st' := [.ref 143]) rfl ?_
          refine w_gf H (pc' := 44) (L' := [(0, .ref 143), (1, .int (xs 1)), (3, .int (14 : Int32))]) h_m264 (z_at.mk 3 rfl rfl) rfl (u := .ref 167) rfl rfl rfl ?_
          refine w_p h_m264 6 (pc' := 51) (L' := [(0, .ref 143), (1, .int (xs 1)), (3, .int (14 : Int32))]) (st' := [.long (0 : Int64), .int (((60 : Int32) * (xs 1)) + (14 : Int32)), .ref 167]) rfl ?_
          refine w_asx H (t := 1) (n := 360) (c := 60 * (xs 1).toInt + 14) (u := .long (0 : Int64)) (1, 360, [], some (.long (0 : Int64))) (pc' := 52) (L' := [(0, .ref 143), (1, .int (xs 1)), (3, .int (14 : Int32))]) h_m264 (z_at.mk 1 rfl rfl) rfl rfl (w_ul _) (zi_add (a := 60 * (xs 1).toInt) (b := 14) (c := 60 * (xs 1).toInt + 14) (zi_mul (a := 60) (b := (xs 1).toInt) (c := 60 * (xs 1).toInt) rfl rfl (by omega) (by omega) (by omega)) rfl (by omega) (by omega) (by omega)) (by omega) (by omega) rfl ⟨rfl, rfl⟩ (w_kn_n) (Or.inr ⟨rfl, rfl⟩) rfl rfl ?_
          clear H m; intro m H
          refine w_p h_m264 6 (pc' := 41) (L' := [(0, .ref 143), (1, .int (xs 1)), (3, .int (15 : Int32))]) (st' := [.ref 143]) rfl ?_
          refine w_gf H (pc' := 44) (L' := [(0, .ref 143), (1, .int (xs 1)), (3, .int (15 : Int32))]) h_m264 (z_at.mk 3 rfl rfl) rfl (u := .ref 167) rfl rfl rfl ?_
          refine w_p h_m264 6 (pc' := 51) (L' := [(0, .ref 143), (1, .int (xs 1)), (3, .int (15 : Int32))]) (st' := [.long (0 : Int64), .int (((60 : Int32) * (xs 1)) + (15 : Int32)), .ref 167]) rfl ?_
          refine w_asx H (t := 1) (n := 360) (c := 60 * (xs 1).toInt + 15) (u := .long (0 : Int64)) (1, 360, [], some (.long (0 : Int64))) (pc' := 52) (L' := [(0, .ref 143), (1, .int (xs 1)), (3, .int (15 : Int32))]) h_m264 (z_at.mk 1 rfl rfl) rfl rfl (w_ul _) (zi_add (a := 60 * (xs 1).toInt) (b := 15) (c := 60 * (xs 1).toInt + 15) (zi_mul (a := 60) (b := (xs 1).toInt) (c := 60 * (xs 1).toInt) rfl rfl (by omega) (by omega) (by omega)) rfl (by omega) (by omega) (by omega)) (by omega) (by omega) rfl ⟨rfl, rfl⟩ (w_kn_n) (Or.inr ⟨rfl, rfl⟩) rfl rfl ?_
          clear H m; intro m H
          refine w_p h_m264 6 (pc' := 41) (L' := [(0, .ref 143), (1, .int (xs 1)), (3, .int (16 : Int32))]) (st' := [.ref 143]) rfl ?_
          refine w_gf H (pc' := 44) (L' := [(0, .ref 143), (1, .int (xs 1)), (3, .int (16 : Int32))]) h_m264 (z_at.mk 3 rfl rfl) rfl (u := .ref 167) rfl rfl rfl ?_
          refine w_p h_m264 6 (pc' := 51) (L' := [(0, .ref 143), (1, .int (xs 1)), (3, .int (16 : Int32))]) (st' := [.long (0 : Int64), .int (((60 : Int32) * (xs 1)) + (16 : Int32)), .ref 167]) rfl ?_
          refine w_asx H (t := 1) (n := 360) (c := 60 * (xs 1).toInt + 16) (u := .long (0 : Int64)) (1, 360, [], some (.long (0 : Int64))) (pc' := 52) (L' := [(0, .ref 143), (1, .int (xs 1)), (3, .int (16 : Int32))]) h_m264 (z_at.mk 1 rfl rfl) rfl rfl (w_ul _) (zi_add (a := 60 * (xs 1).toInt) (b := 16) (c := 60 * (xs 1).toInt + 16) (zi_mul (a := 60) (b := (xs 1).toInt) (c := 60 * (xs 1).toInt) rfl rfl (by omega) (by omega) (by omega)) rfl (by omega) (by omega) (by omega)) (by omega) (by omega) rfl ⟨rfl, rfl⟩ (w_kn_n) (Or.inr ⟨rfl, rfl⟩) rfl rfl ?_
          clear H m; intro m H
          refine w_p h_m264 6 (pc' := 41) (L' := [(0, .ref 143), (1, .int (xs 1)), (3, .int (17 : Int32))]) (st' := [.ref 143]) rfl ?_
          refine w_gf H (pc' := 44) (L' := [(0, .ref 143), (1, .int (xs 1)), (3, .int (17 : Int32))]) h_m264 (z_at.mk 3 rfl rfl) rfl (u := .ref 167) rfl rfl rfl ?_
          refine w_p h_m264 6 (pc' := 51) (L' := [(0, .ref 143), (1, .int (xs 1)), (3, .int (17 : Int32))]) (st' := [.long (0 : Int64), .int (((60 : Int32) * (xs 1)) + (17 : Int32)), .ref 167]) rfl ?_
          refine w_asx H (t := 1) (n := 360) (c := 60 * (xs 1).toInt + 17) (u := .long (0 : Int64)) (1, 360, [], some (.long (0 : Int64))) (pc' := 52) (L' := [(0, .ref 143), (1, .int (xs 1)), (3, .int (17 : Int32))]) h_m264 (z_at.mk 1 rfl rfl) rfl rfl (w_ul _) (zi_add (a := 60 * (xs 1).toInt) (b := 17) (c := 60 * (xs 1).toInt + 17) (zi_mul (a := 60) (b := (xs 1).toInt) (c := 60 * (xs 1).toInt) rfl rfl (by omega) (by omega) (by omega)) rfl (by omega) (by omega) (by omega)) (by omega) (by omega) rfl ⟨rfl, rfl⟩ (w_kn_n) (Or.inr ⟨rfl, rfl⟩) rfl rfl ?_
          clear H m; intro m H
          refine w_p h_m264 6 (pc' := 41) (L' := [(0, .ref 143), (1, .int (xs 1)), (3, .int (18 : Int32))]) (st' := [.ref 143]) rfl ?_
          refine w_gf H (pc' := 44) (L' := [(0, .ref 143), (1, .int (xs 1)), (3, .int (18 : Int32))]) h_m264 (z_at.mk 3 rfl rfl) rfl (u := .ref 167) rfl rfl rfl ?_
          refine w_p h_m264 6 (pc' := 51) (L' := [(0, .ref 143), (1, .int (xs 1)), (3, .int (18 : Int32))]) (st' := [.long (0 : Int64), .int (((60 : Int32) * (xs 1)) + (18 : Int32)), .ref 167]) rfl ?_
          refine w_asx H (t := 1) (n := 360) (c := 60 * (xs 1).toInt + 18) (u := .long (0 : Int64)) (1, 360, [], some (.long (0 : Int64))) (pc' := 52) (L' := [(0, .ref 143), (1, .int (xs 1)), (3, .int (18 : Int32))]) h_m264 (z_at.mk 1 rfl rfl) rfl rfl (w_ul _) (zi_add (a := 60 * (xs 1).toInt) (b := 18) (c := 60 * (xs 1).toInt + 18) (zi_mul (a := 60) (b := (xs 1).toInt) (c := 60 * (xs 1).toInt) rfl rfl (by omega) (by omega) (by omega)) rfl (by omega) (by omega) (by omega)) (by omega) (by omega) rfl ⟨rfl, rfl⟩ (w_kn_n) (Or.inr ⟨rfl, rfl⟩) rfl rfl ?_
          clear H m; intro m H
          refine w_p h_m264 6 (pc' := 41) (L' := [(0, .ref 143), (1, .int (xs 1)), (3, .int (19 : Int32))]) (st' := [.ref 143]) rfl ?_
          refine w_gf H (pc' := 44) (L' := [(0, .ref 143), (1, .int (xs 1)), (3, .int (19 : Int32))]) h_m264 (z_at.mk 3 rfl rfl) rfl (u := .ref 167) rfl rfl rfl ?_
          refine w_p h_m264 6 (pc' := 51) (L' := [(0, .ref 143), (1, .int (xs 1)), (3, .int (19 : Int32))]) (st' := [.long (0 : Int64), .int (((60 : Int32) * (xs 1)) + (19 : Int32)), .ref 167]) rfl ?_
          refine w_asx H (t := 1) (n := 360) (c := 60 * (xs 1).toInt + 19) (u := .long (0 : Int64)) (1, 360, [], some (.long (0 : Int64))) (pc' := 52) (L' := [(0, .ref 143), (1, .int (xs 1)), (3, .int (19 : Int32))]) h_m264 (z_at.mk 1 rfl rfl) rfl rfl (w_ul _) (zi_add (a := 60 * (xs 1).toInt) (b := 19) (c := 60 * (xs 1).toInt + 19) (zi_mul (a := 60) (b := (xs 1).toInt) (c := 60 * (xs 1).toInt) rfl rfl (by omega) (by omega) (by omega)) rfl (by omega) (by omega) (by omega)) (by omega) (by omega) rfl ⟨rfl, rfl⟩ (w_kn_n) (Or.inr ⟨rfl, rfl⟩) rfl rfl ?_
          clear H m; intro m H
          refine w_p h_m264 6 (pc' := 41) (L' := [(0, .ref 143), (1, .int (xs 1)), (3, .int (20 : Int32))]) (st' := [.ref 143]) rfl ?_
          refine w_gf H (pc' := 44) (L' := [(0, .ref 143), (1, .int (xs 1)), (3, .int (20 : Int32))]) h_m264 (z_at.mk 3 rfl rfl) rfl (u := .ref 167) rfl rfl rfl ?_
          refine w_p h_m264 6 (pc' := 51) (L' := [(0, .ref 143), (1, .int (xs 1)), (3, .int (20 : Int32))]) (st' := [.long (0 : Int64), .int (((60 : Int32) * (xs 1)) + (20 : Int32)), .ref 167]) rfl ?_
          refine w_asx H (t := 1) (n := 360) (c := 60 * (xs 1).toInt + 20) (u := .long (0 : Int64)) (1, 360, [], some (.long (0 : Int64))) (pc' := 52) (L' := [(0, .ref 143), (1, .int (xs 1)), (3, .int (20 : Int32))]) h_m264 (z_at.mk 1 rfl rfl) rfl rfl (w_ul _) (zi_add (a := 60 * (xs 1).toInt) (b := 20) (c := 60 * (xs 1).toInt + 20) (zi_mul (a := 60) (b := (xs 1).toInt) (c := 60 * (xs 1).toInt) rfl rfl (by omega) (by omega) (by omega)) rfl (by omega) (by omega) (by omega)) (by omega) (by omega) rfl ⟨rfl, rfl⟩ (w_kn_n) (Or.inr ⟨rfl, rfl⟩) rfl rfl ?_
          clear H m; intro m H
          refine w_p h_m264 6 (pc' := 41) (L' := [(0, .ref 143), (1, .int (xs 1)), (3, .int (21 : Int32))]) (st' := [.ref 143]) rfl ?_
          refine w_gf H (pc' := 44) (L' := [(0, .ref 143), (1, .int (xs 1)), (3, .int (21 : Int32))]) h_m264 (z_at.mk 3 rfl rfl) rfl (u := .ref 167) rfl rfl rfl ?_
          refine w_p h_m264 6 (pc' := 51) (L' := [(0, .ref 143), (1, .int (xs 1)), (3, .int (21 : Int32))]) (st' := [.long (0 : Int64), .int (((60 : Int32) * (xs 1)) + (21 : Int32)), .ref 167]) rfl ?_
          refine w_asx H (t := 1) (n := 360) (c := 60 * (xs 1).toInt + 21) (u := .long (0 : Int64)) (1, 360, [], some (.long (0 : Int64))) (pc' := 52) (L' := [(0, .ref 143), (1, .int (xs 1)), (3, .int (21 : Int32))]) h_m264 (z_at.mk 1 rfl rfl) rfl rfl (w_ul _) (zi_add (a := 60 * (xs 1).toInt) (b := 21) (c := 60 * (xs 1).toInt + 21) (zi_mul (a := 60) (b := (xs 1).toInt) (c := 60 * (xs 1).toInt) rfl rfl (by omega) (by omega) (by omega)) rfl (by omega) (by omega) (by omega)) (by omega) (by omega) rfl ⟨rfl, rfl⟩ (w_kn_n) (Or.inr ⟨rfl, rfl⟩) rfl rfl ?_
          clear H m; intro m H
          refine w_p h_m264 6 (pc' := 41) (L' := [(0, .ref 143), (1, .int (xs 1)), (3, .int (22 : Int32))]) (st' := [.ref 143]) rfl ?_
          refine w_gf H (pc' := 44) (L' := [(0, .ref 143), (1, .int (xs 1)), (3, .int (22 : Int32))]) h_m264 (z_at.mk 3 rfl rfl) rfl (u := .ref 167) rfl rfl rfl ?_
          refine w_p h_m264 6 (pc' := 51) (L' := [(0, .ref 143), (1, .int (xs 1)), (3, .int (22 : Int32))]) (st' := [.long (0 : Int64), .int (((60 : Int32) * (xs 1)) + (22 : Int32)), .ref 167]) rfl ?_
          refine w_asx H (t := 1) (n := 360) (c := 60 * (xs 1).toInt + 22) (u := .long (0 : Int64)) (1, 360, [], some (.long (0 : Int64))) (pc' := 52) (L' := [(0, .ref 143), (1, .int (xs 1)), (3, .int (22 : Int32))]) h_m264 (z_at.mk 1 rfl rfl) rfl rfl (w_ul _) (zi_add (a := 60 * (xs 1).toInt) (b := 22) (c := 60 * (xs 1).toInt + 22) (zi_mul (a := 60) (b := (xs 1).toInt) (c := 60 * (xs 1).toInt) rfl rfl (by omega) (by omega) (by omega)) rfl (by omega) (by omega) (by omega)) (by omega) (by omega) rfl ⟨rfl, rfl⟩ (w_kn_n) (Or.inr ⟨rfl, rfl⟩) rfl rfl ?_
          clear H m; intro m H
          refine w_p h_m264 6 (pc' := 41) (L' := [(0, .ref 143), (1, .int (xs 1)), (3, .int (23 : Int32))]) (st' := [.ref 143]) rfl ?_
          refine w_gf H (pc' := 44) (L' := [(0, .ref 143), (1, .int (xs 1)), (3, .int (23 : Int32))]) h_m264 (z_at.mk 3 rfl rfl) rfl (u := .ref 167) rfl rfl rfl ?_
          refine w_p h_m264 6 (pc' := 51) (L' := [(0, .ref 143), (1, .int (xs 1)), (3, .int (23 : Int32))]) (st' := [.long (0 : Int64), .int (((60 : Int32) * (xs 1)) + (23 : Int32)), .ref 167]) rfl ?_
          refine w_asx H (t := 1) (n := 360) (c := 60 * (xs 1).toInt + 23) (u := .long (0 : Int64)) (1, 360, [], some (.long (0 : Int64))) (pc' := 52) (L' := [(0, .ref 143), (1, .int (xs 1)), (3, .int (23 : Int32))]) h_m264 (z_at.mk 1 rfl rfl) rfl rfl (w_ul _) (zi_add (a := 60 * (xs 1).toInt) (b := 23) (c := 60 * (xs 1).toInt + 23) (zi_mul (a := 60) (b := (xs 1).toInt) (c := 60 * (xs 1).toInt) rfl rfl (by omega) (by omega) (by omega)) rfl (by omega) (by omega) (by omega)) (by omega) (by omega) rfl ⟨rfl, rfl⟩ (w_kn_n) (Or.inr ⟨rfl, rfl⟩) rfl rfl ?_
          clear H m; intro m H
          refine w_p h_m264 6 (pc' := 41) (L' := [(0, .ref 143), (1, .int (xs 1)), (3, .int (24 : Int32))]) (st' := [.ref 143]) rfl ?_
          refine w_gf H (pc' := 44) (L' := [(0, .ref 143), (1, .int (xs 1)), (3, .int (24 : Int32))]) h_m264 (z_at.mk 3 rfl rfl) rfl (u := .ref 167) rfl rfl rfl ?_
          refine w_p h_m264 6 (pc' := 51) (L' := [(0, .ref 143), (1, .int (xs 1)), (3, .int (24 : Int32))]) (st' := [.long (0 : Int64), .int (((60 : Int32) * (xs 1)) + (24 : Int32)), .ref 167]) rfl ?_
          refine w_asx H (t := 1) (n := 360) (c := 60 * (xs 1).toInt + 24) (u := .long (0 : Int64)) (1, 360, [], some (.long (0 : Int64))) (pc' := 52) (L' := [(0, .ref 143), (1, .int (xs 1)), (3, .int (24 : Int32))]) h_m264 (z_at.mk 1 rfl rfl) rfl rfl (w_ul _) (zi_add (a := 60 * (xs 1).toInt) (b := 24) (c := 60 * (xs 1).toInt + 24) (zi_mul (a := 60) (b := (xs 1).toInt) (c := 60 * (xs 1).toInt) rfl rfl (by omega) (by omega) (by omega)) rfl (by omega) (by omega) (by omega)) (by omega) (by omega) rfl ⟨rfl, rfl⟩ (w_kn_n) (Or.inr ⟨rfl, rfl⟩) rfl rfl ?_
          clear H m; intro m H
          refine w_p h_m264 6 (pc' := 41) (L' := [(0, .ref 143), (1, .int (xs 1)), (3, .int (25 : Int32))]) (st' := [.ref 143]) rfl ?_
          refine w_gf H (pc' := 44) (L' := [(0, .ref 143), (1, .int (xs 1)), (3, .int (25 : Int32))]) h_m264 (z_at.mk 3 rfl rfl) rfl (u := .ref 167) rfl rfl rfl ?_
          refine w_p h_m264 6 (pc' := 51) (L' := [(0, .ref 143), (1, .int (xs 1)), (3, .int (25 : Int32))]) (st' := [.long (0 : Int64), .int (((60 : Int32) * (xs 1)) + (25 : Int32)), .ref 167]) rfl ?_
          refine w_asx H (t := 1) (n := 360) (c := 60 * (xs 1).toInt + 25) (u := .long (0 : Int64)) (1, 360, [], some (.long (0 : Int64))) (pc' := 52) (L' := [(0, .ref 143), (1, .int (xs 1)), (3, .int (25 : Int32))]) h_m264 (z_at.mk 1 rfl rfl) rfl rfl (w_ul _) (zi_add (a := 60 * (xs 1).toInt) (b := 25) (c := 60 * (xs 1).toInt + 25) (zi_mul (a := 60) (b := (xs 1).toInt) (c := 60 * (xs 1).toInt) rfl rfl (by omega) (by omega) (by omega)) rfl (by omega) (by omega) (by omega)) (by omega) (by omega) rfl ⟨rfl, rfl⟩ (w_kn_n) (Or.inr ⟨rfl, rfl⟩) rfl rfl ?_
          clear H m; intro m H
          refine w_p h_m264 6 (pc' := 41) (L' := [(0, .ref 143), (1, .int (xs 1)), (3, .int (26 : Int32))]) (st' := [.ref 143]) rfl ?_
          refine w_gf H (pc' := 44) (L' := [(0, .ref 143), (1, .int (xs 1)), (3, .int (26 : Int32))]) h_m264 (z_at.mk 3 rfl rfl) rfl (u := .ref 167) rfl rfl rfl ?_
          refine w_p h_m264 6 (pc' := 51) (L' := [(0, .ref 143), (1, .int (xs 1)), (3, .int (26 : Int32))]) (st' := [.long (0 : Int64), .int (((60 : Int32) * (xs 1)) + (26 : Int32)), .ref 167]) rfl ?_
          refine w_asx H (t := 1) (n := 360) (c := 60 * (xs 1).toInt + 26) (u := .long (0 : Int64)) (1, 360, [], some (.long (0 : Int64))) (pc' := 52) (L' := [(0, .ref 143), (1, .int (xs 1)), (3, .int (26 : Int32))]) h_m264 (z_at.mk 1 rfl rfl) rfl rfl (w_ul _) (zi_add (a := 60 * (xs 1).toInt) (b := 26) (c := 60 * (xs 1).toInt + 26) (zi_mul (a := 60) (b := (xs 1).toInt) (c := 60 * (xs 1).toInt) rfl rfl (by omega) (by omega) (by omega)) rfl (by omega) (by omega) (by omega)) (by omega) (by omega) rfl ⟨rfl, rfl⟩ (w_kn_n) (Or.inr ⟨rfl, rfl⟩) rfl rfl ?_
          clear H m; intro m H
          refine w_p h_m264 6 (pc' := 41) (L' := [(0, .ref 143), (1, .int (xs 1)), (3, .int (27 : Int32))]) (st' := [.ref 143]) rfl ?_
          refine w_gf H (pc' := 44) (L' := [(0, .ref 143), (1, .int (xs 1)), (3, .int (27 : Int32))]) h_m264 (z_at.mk 3 rfl rfl) rfl (u := .ref 167) rfl rfl rfl ?_
          refine w_p h_m264 6 (pc' := 51) (L' := [(0, .ref 143), (1, .int (xs 1)), (3, .int (27 : Int32))]) (st' := [.long (0 : Int64), .int (((60 : Int32) * (xs 1)) + (27 : Int32)), .ref 167]) rfl ?_
          refine w_asx H (t := 1) (n := 360) (c := 60 * (xs 1).toInt + 27) (u := .long (0 : Int64)) (1, 360, [], some (.long (0 : Int64))) (pc' := 52) (L' := [(0, .ref 143), (1, .int (xs 1)), (3, .int (27 : Int32))]) h_m264 (z_at.mk 1 rfl rfl) rfl rfl (w_ul _) (zi_add (a := 60 * (xs 1).toInt) (b := 27) (c := 60 * (xs 1).toInt + 27) (zi_mul (a := 60) (b := (xs 1).toInt) (c := 60 * (xs 1).toInt) rfl rfl (by omega) (by omega) (by omega)) rfl (by omega) (by omega) (by omega)) (by omega) (by omega) rfl ⟨rfl, rfl⟩ (w_kn_n) (Or.inr ⟨rfl, rfl⟩) rfl rfl ?_
          clear H m; intro m H
          refine w_p h_m264 6 (pc' := 41) (L' := [(0, .ref 143), (1, .int (xs 1)), (3, .int (28 : Int32))]) (st' := [.ref 143]) rfl ?_
          refine w_gf H (pc' := 44) (L' := [(0, .ref 143), (1, .int (xs 1)), (3, .int (28 : Int32))]) h_m264 (z_at.mk 3 rfl rfl) rfl (u := .ref 167) rfl rfl rfl ?_
          refine w_p h_m264 6 (pc' := 51) (L' := [(0, .ref 143), (1, .int (xs 1)), (3, .int (28 : Int32))]) (st' := [.long (0 : Int64), .int (((60 : Int32) * (xs 1)) + (28 : Int32)), .ref 167]) rfl ?_
          refine w_asx H (t := 1) (n := 360) (c := 60 * (xs 1).toInt + 28) (u := .long (0 : Int64)) (1, 360, [], some (.long (0 : Int64))) (pc' := 52) (L' := [(0, .ref 143), (1, .int (xs 1)), (3, .int (28 : Int32))]) h_m264 (z_at.mk 1 rfl rfl) rfl rfl (w_ul _) (zi_add (a := 60 * (xs 1).toInt) (b := 28) (c := 60 * (xs 1).toInt + 28) (zi_mul (a := 60) (b := (xs 1).toInt) (c := 60 * (xs 1).toInt) rfl rfl (by omega) (by omega) (by omega)) rfl (by omega) (by omega) (by omega)) (by omega) (by omega) rfl ⟨rfl, rfl⟩ (w_kn_n) (Or.inr ⟨rfl, rfl⟩) rfl rfl ?_
          clear H m; intro m H
          refine w_p h_m264 6 (pc' := 41) (L' := [(0, .ref 143), (1, .int (xs 1)), (3, .int (29 : Int32))]) (st' := [.ref 143]) rfl ?_
          refine w_gf H (pc' := 44) (L' := [(0, .ref 143), (1, .int (xs 1)), (3, .int (29 : Int32))]) h_m264 (z_at.mk 3 rfl rfl) rfl (u := .ref 167) rfl rfl rfl ?_
          refine w_p h_m264 6 (pc' := 51) (L' := [(0, .ref 143), (1, .int (xs 1)), (3, .int (29 : Int32))]) (st' := [.long (0 : Int64), .int (((60 : Int32) * (xs 1)) + (29 : Int32)), .ref 167]) rfl ?_
          refine w_asx H (t := 1) (n := 360) (c := 60 * (xs 1).toInt + 29) (u := .long (0 : Int64)) (1, 360, [], some (.long (0 : Int64))) (pc' := 52) (L' := [(0, .ref 143), (1, .int (xs 1)), (3, .int (29 : Int32))]) h_m264 (z_at.mk 1 rfl rfl) rfl rfl (w_ul _) (zi_add (a := 60 * (xs 1).toInt) (b := 29) (c := 60 * (xs 1).toInt + 29) (zi_mul (a := 60) (b := (xs 1).toInt) (c := 60 * (xs 1).toInt) rfl rfl (by omega) (by omega) (by omega)) rfl (by omega) (by omega) (by omega)) (by omega) (by omega) rfl ⟨rfl, rfl⟩ (w_kn_n) (Or.inr ⟨rfl, rfl⟩) rfl rfl ?_
          clear H m; intro m H
          refine w_p h_m264 6 (pc' := 41) (L' := [(0, .ref 143), (1, .int (xs 1)), (3, .int (30 : Int32))]) (st' := [.ref 143]) rfl ?_
          refine w_gf H (pc' := 44) (L' := [(0, .ref 143), (1, .int (xs 1)), (3, .int (30 : Int32))]) h_m264 (z_at.mk 3 rfl rfl) rfl (u := .ref 167) rfl rfl rfl ?_
          refine w_p h_m264 6 (pc' := 51) (L' := [(0, .ref 143), (1, .int (xs 1)), (3, .int (30 : Int32))]) (st' := [.long (0 : Int64), .int (((60 : Int32) * (xs 1)) + (30 : Int32)), .ref 167]) rfl ?_
          refine w_asx H (t := 1) (n := 360) (c := 60 * (xs 1).toInt + 30) (u := .long (0 : Int64)) (1, 360, [], some (.long (0 : Int64))) (pc' := 52) (L' := [(0, .ref 143), (1, .int (xs 1)), (3, .int (30 : Int32))]) h_m264 (z_at.mk 1 rfl rfl) rfl rfl (w_ul _) (zi_add (a := 60 * (xs 1).toInt) (b := 30) (c := 60 * (xs 1).toInt + 30) (zi_mul (a := 60) (b := (xs 1).toInt) (c := 60 * (xs 1).toInt) rfl rfl (by omega) (by omega) (by omega)) rfl (by omega) (by omega) (by omega)) (by omega) (by omega) rfl ⟨rfl, rfl⟩ (w_kn_n) (Or.inr ⟨rfl, rfl⟩) rfl rfl ?_
          clear H m; intro m H
          refine w_p h_m264 6 (pc' := 41) (L' := [(0, .ref 143), (1, .int (xs 1)), (3, .int (31 : Int32))]) (st' := [.ref 143]) rfl ?_
          refine w_gf H (pc' := 44) (L' := [(0, .ref 143), (1, .int (xs 1)), (3, .int (31 : Int32))]) h_m264 (z_at.mk 3 rfl rfl) rfl (u := .ref 167) rfl rfl rfl ?_
          refine w_p h_m264 6 (pc' := 51) (L' := [(0, .ref 143), (1, .int (xs 1)), (3, .int (31 : Int32))]) (st' := [.long (0 : Int64), .int (((60 : Int32) * (xs 1)) + (31 : Int32)), .ref 167]) rfl ?_
          refine w_asx H (t := 1) (n := 360) (c := 60 * (xs 1).toInt + 31) (u := .long (0 : Int64)) (1, 360, [], some (.long (0 : Int64))) (pc' := 52) (L' := [(0, .ref 143), (1, .int (xs 1)), (3, .int (31 : Int32))]) h_m264 (z_at.mk 1 rfl rfl) rfl rfl (w_ul _) (zi_add (a := 60 * (xs 1).toInt) (b := 31) (c := 60 * (xs 1).toInt + 31) (zi_mul (a := 60) (b := (xs 1).toInt) (c := 60 * (xs 1).toInt) rfl rfl (by omega) (by omega) (by omega)) rfl (by omega) (by omega) (by omega)) (by omega) (by omega) rfl ⟨rfl, rfl⟩ (w_kn_n) (Or.inr ⟨rfl, rfl⟩) rfl rfl ?_
          clear H m; intro m H
          refine w_p h_m264 6 (pc' := 41) (L' := [(0, .ref 143), (1, .int (xs 1)), (3, .int (32 : Int32))]) (st' := [.ref 143]) rfl ?_
          refine w_gf H (pc' := 44) (L' := [(0, .ref 143), (1, .int (xs 1)), (3, .int (32 : Int32))]) h_m264 (z_at.mk 3 rfl rfl) rfl (u := .ref 167) rfl rfl rfl ?_
          refine w_p h_m264 6 (pc' := 51) (L' := [(0, .ref 143), (1, .int (xs 1)), (3, .int (32 : Int32))]) (st' := [.long (0 : Int64), .int (((60 : Int32) * (xs 1)) + (32 : Int32)), .ref 167]) rfl ?_
          refine w_asx H (t := 1) (n := 360) (c := 60 * (xs 1).toInt + 32) (u := .long (0 : Int64)) (1, 360, [], some (.long (0 : Int64))) (pc' := 52) (L' := [(0, .ref 143), (1, .int (xs 1)), (3, .int (32 : Int32))]) h_m264 (z_at.mk 1 rfl rfl) rfl rfl (w_ul _) (zi_add (a := 60 * (xs 1).toInt) (b := 32) (c := 60 * (xs 1).toInt + 32) (zi_mul (a := 60) (b := (xs 1).toInt) (c := 60 * (xs 1).toInt) rfl rfl (by omega) (by omega) (by omega)) rfl (by omega) (by omega) (by omega)) (by omega) (by omega) rfl ⟨rfl, rfl⟩ (w_kn_n) (Or.inr ⟨rfl, rfl⟩) rfl rfl ?_
          clear H m; intro m H
          refine w_p h_m264 6 (pc' := 41) (L' := [(0, .ref 143), (1, .int (xs 1)), (3, .int (33 : Int32))]) (st' := [.ref 143]) rfl ?_
          refine w_gf H (pc' := 44) (L' := [(0, .ref 143), (1, .int (xs 1)), (3, .int (33 : Int32))]) h_m264 (z_at.mk 3 rfl rfl) rfl (u := .ref 167) rfl rfl rfl ?_
          refine w_p h_m264 6 (pc' := 51) (L' := [(0, .ref 143), (1, .int (xs 1)), (3, .int (33 : Int32))]) (st' := [.long (0 : Int64), .int (((60 : Int32) * (xs 1)) + (33 : Int32)), .ref 167]) rfl ?_
          refine w_asx H (t := 1) (n := 360) (c := 60 * (xs 1).toInt + 33) (u := .long (0 : Int64)) (1, 360, [], some (.long (0 : Int64))) (pc' := 52) (L' := [(0, .ref 143), (1, .int (xs 1)), (3, .int (33 : Int32))]) h_m264 (z_at.mk 1 rfl rfl) rfl rfl (w_ul _) (zi_add (a := 60 * (xs 1).toInt) (b := 33) (c := 60 * (xs 1).toInt + 33) (zi_mul (a := 60) (b := (xs 1).toInt) (c := 60 * (xs 1).toInt) rfl rfl (by omega) (by omega) (by omega)) rfl (by omega) (by omega) (by omega)) (by omega) (by omega) rfl ⟨rfl, rfl⟩ (w_kn_n) (Or.inr ⟨rfl, rfl⟩) rfl rfl ?_
          clear H m; intro m H
          refine w_p h_m264 6 (pc' := 41) (L' := [(0, .ref 143), (1, .int (xs 1)), (3, .int (34 : Int32))]) (st' := [.ref 143]) rfl ?_
          refine w_gf H (pc' := 44) (L' := [(0, .ref 143), (1, .int (xs 1)), (3, .int (34 : Int32))]) h_m264 (z_at.mk 3 rfl rfl) rfl (u := .ref 167) rfl rfl rfl ?_
          refine w_p h_m264 6 (pc' := 51) (L' := [(0, .ref 143), (1, .int (xs 1)), (3, .int (34 : Int32))]) (st' := [.long (0 : Int64), .int (((60 : Int32) * (xs 1)) + (34 : Int32)), .ref 167]) rfl ?_
          refine w_asx H (t := 1) (n := 360) (c := 60 * (xs 1).toInt + 34) (u := .long (0 : Int64)) (1, 360, [], some (.long (0 : Int64))) (pc' := 52) (L' := [(0, .ref 143), (1, .int (xs 1)), (3, .int (34 : Int32))]) h_m264 (z_at.mk 1 rfl rfl) rfl rfl (w_ul _) (zi_add (a := 60 * (xs 1).toInt) (b := 34) (c := 60 * (xs 1).toInt + 34) (zi_mul (a := 60) (b := (xs 1).toInt) (c := 60 * (xs 1).toInt) rfl rfl (by omega) (by omega) (by omega)) rfl (by omega) (by omega) (by omega)) (by omega) (by omega) rfl ⟨rfl, rfl⟩ (w_kn_n) (Or.inr ⟨rfl, rfl⟩) rfl rfl ?_
          clear H m; intro m H
          refine w_p h_m264 6 (pc' := 41) (L' := [(0, .ref 143), (1, .int (xs 1)), (3, .int (35 : Int32))]) (st' := [.ref 143]) rfl ?_
          refine w_gf H (pc' := 44) (L' := [(0, .ref 143), (1, .int (xs 1)), (3, .int (35 : Int32))]) h_m264 (z_at.mk 3 rfl rfl) rfl (u := .ref 167) rfl rfl rfl ?_
          refine w_p h_m264 6 (pc' := 51) (L' := [(0, .ref 143), (1, .int (xs 1)), (3, .int (35 : Int32))]) (st' := [.long (0 : Int64), .int (((60 : Int32) * (xs 1)) + (35 : Int32)), .ref 167]) rfl ?_
          refine w_asx H (t := 1) (n := 360) (c := 60 * (xs 1).toInt + 35) (u := .long (0 : Int64)) (1, 360, [], some (.long (0 : Int64))) (pc' := 52) (L' := [(0, .ref 143), (1, .int (xs 1)), (3, .int (35 : Int32))]) h_m264 (z_at.mk 1 rfl rfl) rfl rfl (w_ul _) (zi_add (a := 60 * (xs 1).toInt) (b := 35) (c := 60 * (xs 1).toInt + 35) (zi_mul (a := 60) (b := (xs 1).toInt) (c := 60 * (xs 1).toInt) rfl rfl (by omega) (by omega) (by omega)) rfl (by omega) (by omega) (by omega)) (by omega) (by omega) rfl ⟨rfl, rfl⟩ (w_kn_n) (Or.inr ⟨rfl, rfl⟩) rfl rfl ?_
          clear H m; intro m H
          refine w_p h_m264 6 (pc' := 41) (L' := [(0, .ref 143), (1, .int (xs 1)), (3, .int (36 : Int32))]) (st' := [.ref 143]) rfl ?_
          refine w_gf H (pc' := 44) (L' := [(0, .ref 143), (1, .int (xs 1)), (3, .int (36 : Int32))]) h_m264 (z_at.mk 3 rfl rfl) rfl (u := .ref 167) rfl rfl rfl ?_
          refine w_p h_m264 6 (pc' := 51) (L' := [(0, .ref 143), (1, .int (xs 1)), (3, .int (36 : Int32))]) (st' := [.long (0 : Int64), .int (((60 : Int32) * (xs 1)) + (36 : Int32)), .ref 167]) rfl ?_
          refine w_asx H (t := 1) (n := 360) (c := 60 * (xs 1).toInt + 36) (u := .long (0 : Int64)) (1, 360, [], some (.long (0 : Int64))) (pc' := 52) (L' := [(0, .ref 143), (1, .int (xs 1)), (3, .int (36 : Int32))]) h_m264 (z_at.mk 1 rfl rfl) rfl rfl (w_ul _) (zi_add (a := 60 * (xs 1).toInt) (b := 36) (c := 60 * (xs 1).toInt + 36) (zi_mul (a := 60) (b := (xs 1).toInt) (c := 60 * (xs 1).toInt) rfl rfl (by omega) (by omega) (by omega)) rfl (by omega) (by omega) (by omega)) (by omega) (by omega) rfl ⟨rfl, rfl⟩ (w_kn_n) (Or.inr ⟨rfl, rfl⟩) rfl rfl ?_
          clear H m; intro m H
          refine w_p h_m264 6 (pc' := 41) (L' := [(0, .ref 143), (1, .int (xs 1)), (3, .int (37 : Int32))]) (st' := [.ref 143]) rfl ?_
          refine w_gf H (pc' := 44) (L' := [(0, .ref 143), (1, .int (xs 1)), (3, .int (37 : Int32))]) h_m264 (z_at.mk 3 rfl rfl) rfl (u := .ref 167) rfl rfl rfl ?_
          refine w_p h_m264 6 (pc' := 51) (L' := [(0, .ref 143), (1, .int (xs 1)), (3, .int (37 : Int32))]) (st' := [.long (0 : Int64), .int (((60 : Int32) * (xs 1)) + (37 : Int32)), .ref 167]) rfl ?_
          refine w_asx H (t := 1) (n := 360) (c := 60 * (xs 1).toInt + 37) (u := .long (0 : Int64)) (1, 360, [], some (.long (0 : Int64))) (pc' := 52) (L' := [(0, .ref 143), (1, .int (xs 1)), (3, .int (37 : Int32))]) h_m264 (z_at.mk 1 rfl rfl) rfl rfl (w_ul _) (zi_add (a := 60 * (xs 1).toInt) (b := 37) (c := 60 * (xs 1).toInt + 37) (zi_mul (a := 60) (b := (xs 1).toInt) (c := 60 * (xs 1).toInt) rfl rfl (by omega) (by omega) (by omega)) rfl (by omega) (by omega) (by omega)) (by omega) (by omega) rfl ⟨rfl, rfl⟩ (w_kn_n) (Or.inr ⟨rfl, rfl⟩) rfl rfl ?_
          clear H m; intro m H
          refine w_p h_m264 6 (pc' := 41) (L' := [(0, .ref 143), (1, .int (xs 1)), (3, .int (38 : Int32))]) (st' := [.ref 143]) rfl ?_
          refine w_gf H (pc' := 44) (L' := [(0, .ref 143), (1, .int (xs 1)), (3, .int (38 : Int32))]) h_m264 (z_at.mk 3 rfl rfl) rfl (u := .ref 167) rfl rfl rfl ?_
          refine w_p h_m264 6 (pc' := 51) (L' := [(0, .ref 143), (1, .int (xs 1)), (3, .int (38 : Int32))]) (st' := [.long (0 : Int64), .int (((60 : Int32) * (xs 1)) + (38 : Int32)), .ref 167]) rfl ?_
          refine w_asx H (t := 1) (n := 360) (c := 60 * (xs 1).toInt + 38) (u := .long (0 : Int64)) (1, 360, [], some (.long (0 : Int64))) (pc' := 52) (L' := [(0, .ref 143), (1, .int (xs 1)), (3, .int (38 : Int32))]) h_m264 (z_at.mk 1 rfl rfl) rfl rfl (w_ul _) (zi_add (a := 60 * (xs 1).toInt) (b := 38) (c := 60 * (xs 1).toInt + 38) (zi_mul (a := 60) (b := (xs 1).toInt) (c := 60 * (xs 1).toInt) rfl rfl (by omega) (by omega) (by omega)) rfl (by omega) (by omega) (by omega)) (by omega) (by omega) rfl ⟨rfl, rfl⟩ (w_kn_n) (Or.inr ⟨rfl, rfl⟩) rfl rfl ?_
          clear H m; intro m H
          refine w_p h_m264 6 (pc' := 41) (L' := [(0, .ref 143), (1, .int (xs 1)), (3, .int (39 : Int32))]) (st' := [.ref 143]) rfl ?_
          refine w_gf H (pc' := 44) (L' := [(0, .ref 143), (1, .int (xs 1)), (3, .int (39 : Int32))]) h_m264 (z_at.mk 3 rfl rfl) rfl (u := .ref 167) rfl rfl rfl ?_
          refine w_p h_m264 6 (pc' := 51) (L' := [(0, .ref 143), (1, .int (xs 1)), (3, .int (39 : Int32))]) (st' := [.long (0 : Int64), .int (((60 : Int32) * (xs 1)) + (39 : Int32)), .ref 167]) rfl ?_
          refine w_asx H (t := 1) (n := 360) (c := 60 * (xs 1).toInt + 39) (u := .long (0 : Int64)) (1, 360, [], some (.long (0 : Int64))) (pc' := 52) (L' := [(0, .ref 143), (1, .int (xs 1)), (3, .int (39 : Int32))]) h_m264 (z_at.mk 1 rfl rfl) rfl rfl (w_ul _) (zi_add (a := 60 * (xs 1).toInt) (b := 39) (c := 60 * (xs 1).toInt + 39) (zi_mul (a := 60) (b := (xs 1).toInt) (c := 60 * (xs 1).toInt) rfl rfl (by omega) (by omega) (by omega)) rfl (by omega) (by omega) (by omega)) (by omega) (by omega) rfl ⟨rfl, rfl⟩ (w_kn_n) (Or.inr ⟨rfl, rfl⟩) rfl rfl ?_
          clear H m; intro m H
          refine w_p h_m264 6 (pc' := 41) (L' := [(0, .ref 143), (1, .int (xs 1)), (3, .int (40 : Int32))]) (st' := [.ref 143]) rfl ?_
          refine w_gf H (pc' := 44) (L' := [(0, .ref 143), (1, .int (xs 1)), (3, .int (40 : Int32))]) h_m264 (z_at.mk 3 rfl rfl) rfl (u := .ref 167) rfl rfl rfl ?_
          refine w_p h_m264 6 (pc' := 51) (L' := [(0, .ref 143), (1, .int (xs 1)), (3, .int (40 : Int32))]) (st' := [.long (0 : Int64), .int (((60 : Int32) * (xs 1)) + (40 : Int32)), .ref 167]) rfl ?_
          refine w_asx H (t := 1) (n := 360) (c := 60 * (xs 1).toInt + 40) (u := .long (0 : Int64)) (1, 360, [], some (.long (0 : Int64))) (pc' := 52) (L' := [(0, .ref 143), (1, .int (xs 1)), (3, .int (40 : Int32))]) h_m264 (z_at.mk 1 rfl rfl) rfl rfl (w_ul _) (zi_add (a := 60 * (xs 1).toInt) (b := 40) (c := 60 * (xs 1).toInt + 40) (zi_mul (a := 60) (b := (xs 1).toInt) (c := 60 * (xs 1).toInt) rfl rfl (by omega) (by omega) (by omega)) rfl (by omega) (by omega) (by omega)) (by omega) (by omega) rfl ⟨rfl, rfl⟩ (w_kn_n) (Or.inr ⟨rfl, rfl⟩) rfl rfl ?_
          clear H m; intro m H
          refine w_p h_m264 6 (pc' := 41) (L' := [(0, .ref 143), (1, .int (xs 1)), (3, .int (41 : Int32))]) (st' := [.ref 143]) rfl ?_
          refine w_gf H (pc' := 44) (L' := [(0, .ref 143), (1, .int (xs 1)), (3, .int (41 : Int32))]) h_m264 (z_at.mk 3 rfl rfl) rfl (u := .ref 167) rfl rfl rfl ?_
          refine w_p h_m264 6 (pc' := 51) (L' := [(0, .ref 143), (1, .int (xs 1)), (3, .int (41 : Int32))]) (st' := [.long (0 : Int64), .int (((60 : Int32) * (xs 1)) + (41 : Int32)), .ref 167]) rfl ?_
          refine w_asx H (t := 1) (n := 360) (c := 60 * (xs 1).toInt + 41) (u := .long (0 : Int64)) (1, 360, [], some (.long (0 : Int64))) (pc' := 52) (L' := [(0, .ref 143), (1, .int (xs 1)), (3, .int (41 : Int32))]) h_m264 (z_at.mk 1 rfl rfl) rfl rfl (w_ul _) (zi_add (a := 60 * (xs 1).toInt) (b := 41) (c := 60 * (xs 1).toInt + 41) (zi_mul (a := 60) (b := (xs 1).toInt) (c := 60 * (xs 1).toInt) rfl rfl (by omega) (by omega) (by omega)) rfl (by omega) (by omega) (by omega)) (by omega) (by omega) rfl ⟨rfl, rfl⟩ (w_kn_n) (Or.inr ⟨rfl, rfl⟩) rfl rfl ?_
          clear H m; intro m H
          refine w_p h_m264 6 (pc' := 41) (L' := [(0, .ref 143), (1, .int (xs 1)), (3, .int (42 : Int32))]) (st' := [.ref 143]) rfl ?_
          refine w_gf H (pc' := 44) (L' := [(0, .ref 143), (1, .int (xs 1)), (3, .int (42 : Int32))]) h_m264 (z_at.mk 3 rfl rfl) rfl (u := .ref 167) rfl rfl rfl ?_
          refine w_p h_m264 6 (pc' := 51) (L' := [(0, .ref 143), (1, .int (xs 1)), (3, .int (42 : Int32))]) (st' := [.long (0 : Int64), .int (((60 : Int32) * (xs 1)) + (42 : Int32)), .ref 167]) rfl ?_
          refine w_asx H (t := 1) (n := 360) (c := 60 * (xs 1).toInt + 42) (u := .long (0 : Int64)) (1, 360, [], some (.long (0 : Int64))) (pc' := 52) (L' := [(0, .ref 143), (1, .int (xs 1)), (3, .int (42 : Int32))]) h_m264 (z_at.mk 1 rfl rfl) rfl rfl (w_ul _) (zi_add (a := 60 * (xs 1).toInt) (b := 42) (c := 60 * (xs 1).toInt + 42) (zi_mul (a := 60) (b := (xs 1).toInt) (c := 60 * (xs 1).toInt) rfl rfl (by omega) (by omega) (by omega)) rfl (by omega) (by omega) (by omega)) (by omega) (by omega) rfl ⟨rfl, rfl⟩ (w_kn_n) (Or.inr ⟨rfl, rfl⟩) rfl rfl ?_
          clear H m; intro m H
          refine w_p h_m264 6 (pc' := 41) (L' := [(0, .ref 143), (1, .int (xs 1)), (3, .int (43 : Int32))]) (st' := [.ref 143]) rfl ?_
          refine w_gf H (pc' := 44) (L' := [(0, .ref 143), (1, .int (xs 1)), (3, .int (43 : Int32))]) h_m264 (z_at.mk 3 rfl rfl) rfl (u := .ref 167) rfl rfl rfl ?_
          refine w_p h_m264 6 (pc' := 51) (L' := [(0, .ref 143), (1, .int (xs 1)), (3, .int (43 : Int32))]) (st' := [.long (0 : Int64), .int (((60 : Int32) * (xs 1)) + (43 : Int32)), .ref 167]) rfl ?_
          refine w_asx H (t := 1) (n := 360) (c := 60 * (xs 1).toInt + 43) (u := .long (0 : Int64)) (1, 360, [], some (.long (0 : Int64))) (pc' := 52) (L' := [(0, .ref 143), (1, .int (xs 1)), (3, .int (43 : Int32))]) h_m264 (z_at.mk 1 rfl rfl) rfl rfl (w_ul _) (zi_add (a := 60 * (xs 1).toInt) (b := 43) (c := 60 * (xs 1).toInt + 43) (zi_mul (a := 60) (b := (xs 1).toInt) (c := 60 * (xs 1).toInt) rfl rfl (by omega) (by omega) (by omega)) rfl (by omega) (by omega) (by omega)) (by omega) (by omega) rfl ⟨rfl, rfl⟩ (w_kn_n) (Or.inr ⟨rfl, rfl⟩) rfl rfl ?_
          clear H m; intro m H
          refine w_p h_m264 6 (pc' := 41) (L' := [(0, .ref 143), (1, .int (xs 1)), (3, .int (44 : Int32))]) (st' := [.ref 143]) rfl ?_
          refine w_gf H (pc' := 44) (L' := [(0, .ref 143), (1, .int (xs 1)), (3, .int (44 : Int32))]) h_m264 (z_at.mk 3 rfl rfl) rfl (u := .ref 167) rfl rfl rfl ?_
          refine w_p h_m264 6 (pc' := 51) (L' := [(0, .ref 143), (1, .int (xs 1)), (3, .int (44 : Int32))]) (st' := [.long (0 : Int64), .int (((60 : Int32) * (xs 1)) + (44 : Int32)), .ref 167]) rfl ?_
          refine w_asx H (t := 1) (n := 360) (c := 60 * (xs 1).toInt + 44) (u := .long (0 : Int64)) (1, 360, [], some (.long (0 : Int64))) (pc' := 52) (L' := [(0, .ref 143), (1, .int (xs 1)), (3, .int (44 : Int32))]) h_m264 (z_at.mk 1 rfl rfl) rfl rfl (w_ul _) (zi_add (a := 60 * (xs 1).toInt) (b := 44) (c := 60 * (xs 1).toInt + 44) (zi_mul (a := 60) (b := (xs 1).toInt) (c := 60 * (xs 1).toInt) rfl rfl (by omega) (by omega) (by omega)) rfl (by omega) (by omega) (by omega)) (by omega) (by omega) rfl ⟨rfl, rfl⟩ (w_kn_n) (Or.inr ⟨rfl, rfl⟩) rfl rfl ?_
          clear H m; intro m H
          refine w_p h_m264 6 (pc' := 41) (L' := [(0, .ref 143), (1, .int (xs 1)), (3, .int (45 : Int32))]) (st' := [.ref 143]) rfl ?_
          refine w_gf H (pc' := 44) (L' := [(0, .ref 143), (1, .int (xs 1)), (3, .int (45 : Int32))]) h_m264 (z_at.mk 3 rfl rfl) rfl (u := .ref 167) rfl rfl rfl ?_
          refine w_p h_m264 6 (pc' := 51) (L' := [(0, .ref 143), (1, .int (xs 1)), (3, .int (45 : Int32))]) (st' := [.long (0 : Int64), .int (((60 : Int32) * (xs 1)) + (45 : Int32)), .ref 167]) rfl ?_
          refine w_asx H (t := 1) (n := 360) (c := 60 * (xs 1).toInt + 45) (u := .long (0 : Int64)) (1, 360, [], some (.long (0 : Int64))) (pc' := 52) (L' := [(0, .ref 143), (1, .int (xs 1)), (3, .int (45 : Int32))]) h_m264 (z_at.mk 1 rfl rfl) rfl rfl (w_ul _) (zi_add (a := 60 * (xs 1).toInt) (b := 45) (c := 60 * (xs 1).toInt + 45) (zi_mul (a := 60) (b := (xs 1).toInt) (c := 60 * (xs 1).toInt) rfl rfl (by omega) (by omega) (by omega)) rfl (by omega) (by omega) (by omega)) (by omega) (by omega) rfl ⟨rfl, rfl⟩ (w_kn_n) (Or.inr ⟨rfl, rfl⟩) rfl rfl ?_
          clear H m; intro m H
          refine w_p h_m264 6 (pc' := 41) (L' := [(0, .ref 143), (1, .int (xs 1)), (3, .int (46 : Int32))]) (st' := [.ref 143]) rfl ?_
          refine w_gf H (pc' := 44) (L' := [(0, .ref 143), (1, .int (xs 1)), (3, .int (46 : Int32))]) h_m264 (z_at.mk 3 rfl rfl) rfl (u := .ref 167) rfl rfl rfl ?_
          refine w_p h_m264 6 (pc' := 51) (L' := [(0, .ref 143), (1, .int (xs 1)), (3, .int (46 : Int32))]) (st' := [.long (0 : Int64), .int (((60 : Int32) * (xs 1)) + (46 : Int32)), .ref 167]) rfl ?_
          refine w_asx H (t := 1) (n := 360) (c := 60 * (xs 1).toInt + 46) (u := .long (0 : Int64)) (1, 360, [], some (.long (0 : Int64))) (pc' := 52) (L' := [(0, .ref 143), (1, .int (xs 1)), (3, .int (46 : Int32))]) h_m264 (z_at.mk 1 rfl rfl) rfl rfl (w_ul _) (zi_add (a := 60 * (xs 1).toInt) (b := 46) (c := 60 * (xs 1).toInt + 46) (zi_mul (a := 60) (b := (xs 1).toInt) (c := 60 * (xs 1).toInt) rfl rfl (by omega) (by omega) (by omega)) rfl (by omega) (by omega) (by omega)) (by omega) (by omega) rfl ⟨rfl, rfl⟩ (w_kn_n) (Or.inr ⟨rfl, rfl⟩) rfl rfl ?_
          clear H m; intro m H
          refine w_p h_m264 6 (pc' := 41) (L' := [(0, .ref 143), (1, .int (xs 1)), (3, .int (47 : Int32))]) (st' := [.ref 143]) rfl ?_
          refine w_gf H (pc' := 44) (L' := [(0, .ref 143), (1, .int (xs 1)), (3, .int (47 : Int32))]) h_m264 (z_at.mk 3 rfl rfl) rfl (u := .ref 167) rfl rfl rfl ?_
          refine w_p h_m264 6 (pc' := 51) (L' := [(0, .ref 143), (1, .int (xs 1)), (3, .int (47 : Int32))]) (st' := [.long (0 : Int64), .int (((60 : Int32) * (xs 1)) + (47 : Int32)), .ref 167]) rfl ?_
          refine w_asx H (t := 1) (n := 360) (c := 60 * (xs 1).toInt + 47) (u := .long (0 : Int64)) (1, 360, [], some (.long (0 : Int64))) (pc' := 52) (L' := [(0, .ref 143), (1, .int (xs 1)), (3, .int (47 : Int32))]) h_m264 (z_at.mk 1 rfl rfl) rfl rfl (w_ul _) (zi_add (a := 60 * (xs 1).toInt) (b := 47) (c := 60 * (xs 1).toInt + 47) (zi_mul (a := 60) (b := (xs 1).toInt) (c := 60 * (xs 1).toInt) rfl rfl (by omega) (by omega) (by omega)) rfl (by omega) (by omega) (by omega)) (by omega) (by omega) rfl ⟨rfl, rfl⟩ (w_kn_n) (Or.inr ⟨rfl, rfl⟩) rfl rfl ?_
          clear H m; intro m H
          refine w_p h_m264 6 (pc' := 41) (L' := [(0, .ref 143), (1, .int (xs 1)), (3, .int (48 : Int32))]) (st' := [.ref 143]) rfl ?_
          refine w_gf H (pc' := 44) (L' := [(0, .ref 143), (1, .int (xs 1)), (3, .int (48 : Int32))]) h_m264 (z_at.mk 3 rfl rfl) rfl (u := .ref 167) rfl rfl rfl ?_
          refine w_p h_m264 6 (pc' := 51) (L' := [(0, .ref 143), (1, .int (xs 1)), (3, .int (48 : Int32))]) (st' := [.long (0 : Int64), .int (((60 : Int32) * (xs 1)) + (48 : Int32)), .ref 167]) rfl ?_
          refine w_asx H (t := 1) (n := 360) (c := 60 * (xs 1).toInt + 48) (u := .long (0 : Int64)) (1, 360, [], some (.long (0 : Int64))) (pc' := 52) (L' := [(0, .ref 143), (1, .int (xs 1)), (3, .int (48 : Int32))]) h_m264 (z_at.mk 1 rfl rfl) rfl rfl (w_ul _) (zi_add (a := 60 * (xs 1).toInt) (b := 48) (c := 60 * (xs 1).toInt + 48) (zi_mul (a := 60) (b := (xs 1).toInt) (c := 60 * (xs 1).toInt) rfl rfl (by omega) (by omega) (by omega)) rfl (by omega) (by omega) (by omega)) (by omega) (by omega) rfl ⟨rfl, rfl⟩ (w_kn_n) (Or.inr ⟨rfl, rfl⟩) rfl rfl ?_
          clear H m; intro m H
          refine w_p h_m264 6 (pc' := 41) (L' := [(0, .ref 143), (1, .int (xs 1)), (3, .int (49 : Int32))]) (st' := [.ref 143]) rfl ?_
          refine w_gf H (pc' := 44) (L' := [(0, .ref 143), (1, .int (xs 1)), (3, .int (49 : Int32))]) h_m264 (z_at.mk 3 rfl rfl) rfl (u := .ref 167) rfl rfl rfl ?_
          refine w_p h_m264 6 (pc' := 51) (L' := [(0, .ref 143), (1, .int (xs 1)), (3, .int (49 : Int32))]) (st' := [.long (0 : Int64), .int (((60 : Int32) * (xs 1)) + (49 : Int32)), .ref 167]) rfl ?_
          refine w_asx H (t := 1) (n := 360) (c := 60 * (xs 1).toInt + 49) (u := .long (0 : Int64)) (1, 360, [], some (.long (0 : Int64))) (pc' := 52) (L' := [(0, .ref 143), (1, .int (xs 1)), (3, .int (49 : Int32))]) h_m264 (z_at.mk 1 rfl rfl) rfl rfl (w_ul _) (zi_add (a := 60 * (xs 1).toInt) (b := 49) (c := 60 * (xs 1).toInt + 49) (zi_mul (a := 60) (b := (xs 1).toInt) (c := 60 * (xs 1).toInt) rfl rfl (by omega) (by omega) (by omega)) rfl (by omega) (by omega) (by omega)) (by omega) (by omega) rfl ⟨rfl, rfl⟩ (w_kn_n) (Or.inr ⟨rfl, rfl⟩) rfl rfl ?_
          clear H m; intro m H
          refine w_p h_m264 6 (pc' := 41) (L' := [(0, .ref 143), (1, .int (xs 1)), (3, .int (50 : Int32))]) (st' := [.ref 143]) rfl ?_
          refine w_gf H (pc' := 44) (L' := [(0, .ref 143), (1, .int (xs 1)), (3, .int (50 : Int32))]) h_m264 (z_at.mk 3 rfl rfl) rfl (u := .ref 167) rfl rfl rfl ?_
          refine w_p h_m264 6 (pc' := 51) (L' := [(0, .ref 143), (1, .int (xs 1)), (3, .int (50 : Int32))]) (st' := [.long (0 : Int64), .int (((60 : Int32) * (xs 1)) + (50 : Int32)), .ref 167]) rfl ?_
          refine w_asx H (t := 1) (n := 360) (c := 60 * (xs 1).toInt + 50) (u := .long (0 : Int64)) (1, 360, [], some (.long (0 : Int64))) (pc' := 52) (L' := [(0, .ref 143), (1, .int (xs 1)), (3, .int (50 : Int32))]) h_m264 (z_at.mk 1 rfl rfl) rfl rfl (w_ul _) (zi_add (a := 60 * (xs 1).toInt) (b := 50) (c := 60 * (xs 1).toInt + 50) (zi_mul (a := 60) (b := (xs 1).toInt) (c := 60 * (xs 1).toInt) rfl rfl (by omega) (by omega) (by omega)) rfl (by omega) (by omega) (by omega)) (by omega) (by omega) rfl ⟨rfl, rfl⟩ (w_kn_n) (Or.inr ⟨rfl, rfl⟩) rfl rfl ?_
          clear H m; intro m H
          refine w_p h_m264 6 (pc' := 41) (L' := [(0, .ref 143), (1, .int (xs 1)), (3, .int (51 : Int32))]) (st' := [.ref 143]) rfl ?_
          refine w_gf H (pc' := 44) (L' := [(0, .ref 143), (1, .int (xs 1)), (3, .int (51 : Int32))]) h_m264 (z_at.mk 3 rfl rfl) rfl (u := .ref 167) rfl rfl rfl ?_
          refine w_p h_m264 6 (pc' := 51) (L' := [(0, .ref 143), (1, .int (xs 1)), (3, .int (51 : Int32))]) (st' := [.long (0 : Int64), .int (((60 : Int32) * (xs 1)) + (51 : Int32)), .ref 167]) rfl ?_
          refine w_asx H (t := 1) (n := 360) (c := 60 * (xs 1).toInt + 51) (u := .long (0 : Int64)) (1, 360, [], some (.long (0 : Int64))) (pc' := 52) (L' := [(0, .ref 143), (1, .int (xs 1)), (3, .int (51 : Int32))]) h_m264 (z_at.mk 1 rfl rfl) rfl rfl (w_ul _) (zi_add (a := 60 * (xs 1).toInt) (b := 51) (c := 60 * (xs 1).toInt + 51) (zi_mul (a := 60) (b := (xs 1).toInt) (c := 60 * (xs 1).toInt) rfl rfl (by omega) (by omega) (by omega)) rfl (by omega) (by omega) (by omega)) (by omega) (by omega) rfl ⟨rfl, rfl⟩ (w_kn_n) (Or.inr ⟨rfl, rfl⟩) rfl rfl ?_
          clear H m; intro m H
          refine w_p h_m264 6 (pc' := 41) (L' := [(0, .ref 143), (1, .int (xs 1)), (3, .int (52 : Int32))]) (st' := [.ref 143]) rfl ?_
          refine w_gf H (pc' := 44) (L' := [(0, .ref 143), (1, .int (xs 1)), (3, .int (52 : Int32))]) h_m264 (z_at.mk 3 rfl rfl) rfl (u := .ref 167) rfl rfl rfl ?_
          refine w_p h_m264 6 (pc' := 51) (L' := [(0, .ref 143), (1, .int (xs 1)), (3, .int (52 : Int32))]) (st' := [.long (0 : Int64), .int (((60 : Int32) * (xs 1)) + (52 : Int32)), .ref 167]) rfl ?_
          refine w_asx H (t := 1) (n := 360) (c := 60 * (xs 1).toInt + 52) (u := .long (0 : Int64)) (1, 360, [], some (.long (0 : Int64))) (pc' := 52) (L' := [(0, .ref 143), (1, .int (xs 1)), (3, .int (52 : Int32))]) h_m264 (z_at.mk 1 rfl rfl) rfl rfl (w_ul _) (zi_add (a := 60 * (xs 1).toInt) (b := 52) (c := 60 * (xs 1).toInt + 52) (zi_mul (a := 60) (b := (xs 1).toInt) (c := 60 * (xs 1).toInt) rfl rfl (by omega) (by omega) (by omega)) rfl (by omega) (by omega) (by omega)) (by omega) (by omega) rfl ⟨rfl, rfl⟩ (w_kn_n) (Or.inr ⟨rfl, rfl⟩) rfl rfl ?_
          clear H m; intro m H
          refine w_p h_m264 6 (pc' := 41) (L' := [(0, .ref 143), (1, .int (xs 1)), (3, .int (53 : Int32))]) (st' := [.ref 143]) rfl ?_
          refine w_gf H (pc' := 44) (L' := [(0, .ref 143), (1, .int (xs 1)), (3, .int (53 : Int32))]) h_m264 (z_at.mk 3 rfl rfl) rfl (u := .ref 167) rfl rfl rfl ?_
          refine w_p h_m264 6 (pc' := 51) (L' := [(0, .ref 143), (1, .int (xs 1)), (3, .int (53 : Int32))]) (st' := [.long (0 : Int64), .int (((60 : Int32) * (xs 1)) + (53 : Int32)), .ref 167]) rfl ?_
          refine w_asx H (t := 1) (n := 360) (c := 60 * (xs 1).toInt + 53) (u := .long (0 : Int64)) (1, 360, [], some (.long (0 : Int64))) (pc' := 52) (L' := [(0, .ref 143), (1, .int (xs 1)), (3, .int (53 : Int32))]) h_m264 (z_at.mk 1 rfl rfl) rfl rfl (w_ul _) (zi_add (a := 60 * (xs 1).toInt) (b := 53) (c := 60 * (xs 1).toInt + 53) (zi_mul (a := 60) (b := (xs 1).toInt) (c := 60 * (xs 1).toInt) rfl rfl (by omega) (by omega) (by omega)) rfl (by omega) (by omega) (by omega)) (by omega) (by omega) rfl ⟨rfl, rfl⟩ (w_kn_n) (Or.inr ⟨rfl, rfl⟩) rfl rfl ?_
          clear H m; intro m H
          refine w_p h_m264 6 (pc' := 41) (L' := [(0, .ref 143), (1, .int (xs 1)), (3, .int (54 : Int32))]) (st' := [.ref 143]) rfl ?_
          refine w_gf H (pc' := 44) (L' := [(0, .ref 143), (1, .int (xs 1)), (3, .int (54 : Int32))]) h_m264 (z_at.mk 3 rfl rfl) rfl (u := .ref 167) rfl rfl rfl ?_
          refine w_p h_m264 6 (pc' := 51) (L' := [(0, .ref 143), (1, .int (xs 1)), (3, .int (54 : Int32))]) (st' := [.long (0 : Int64), .int (((60 : Int32) * (xs 1)) + (54 : Int32)), .ref 167]) rfl ?_
          refine w_asx H (t := 1) (n := 360) (c := 60 * (xs 1).toInt + 54) (u := .long (0 : Int64)) (1, 360, [], some (.long (0 : Int64))) (pc' := 52) (L' := [(0, .ref 143), (1, .int (xs 1)), (3, .int (54 : Int32))]) h_m264 (z_at.mk 1 rfl rfl) rfl rfl (w_ul _) (zi_add (a := 60 * (xs 1).toInt) (b := 54) (c := 60 * (xs 1).toInt + 54) (zi_mul (a := 60) (b := (xs 1).toInt) (c := 60 * (xs 1).toInt) rfl rfl (by omega) (by omega) (by omega)) rfl (by omega) (by omega) (by omega)) (by omega) (by omega) rfl ⟨rfl, rfl⟩ (w_kn_n) (Or.inr ⟨rfl, rfl⟩) rfl rfl ?_
          clear H m; intro m H
          refine w_p h_m264 6 (pc' := 41) (L' := [(0, .ref 143), (1, .int (xs 1)), (3, .int (55 : Int32))]) (st' := [.ref 143]) rfl ?_
          refine w_gf H (pc' := 44) (L' := [(0, .ref 143), (1, .int (xs 1)), (3, .int (55 : Int32))]) h_m264 (z_at.mk 3 rfl rfl) rfl (u := .ref 167) rfl rfl rfl ?_
          refine w_p h_m264 6 (pc' := 51) (L' := [(0, .ref 143), (1, .int (xs 1)), (3, .int (55 : Int32))]) (st' := [.long (0 : Int64), .int (((60 : Int32) * (xs 1)) + (55 : Int32)), .ref 167]) rfl ?_
          refine w_asx H (t := 1) (n := 360) (c := 60 * (xs 1).toInt + 55) (u := .long (0 : Int64)) (1, 360, [], some (.long (0 : Int64))) (pc' := 52) (L' := [(0, .ref 143), (1, .int (xs 1)), (3, .int (55 : Int32))]) h_m264 (z_at.mk 1 rfl rfl) rfl rfl (w_ul _) (zi_add (a := 60 * (xs 1).toInt) (b := 55) (c := 60 * (xs 1).toInt + 55) (zi_mul (a := 60) (b := (xs 1).toInt) (c := 60 * (xs 1).toInt) rfl rfl (by omega) (by omega) (by omega)) rfl (by omega) (by omega) (by omega)) (by omega) (by omega) rfl ⟨rfl, rfl⟩ (w_kn_n) (Or.inr ⟨rfl, rfl⟩) rfl rfl ?_
          clear H m; intro m H
          refine w_p h_m264 6 (pc' := 41) (L' := [(0, .ref 143), (1, .int (xs 1)), (3, .int (56 : Int32))]) (st' := [.ref 143]) rfl ?_
          refine w_gf H (pc' := 44) (L' := [(0, .ref 143), (1, .int (xs 1)), (3, .int (56 : Int32))]) h_m264 (z_at.mk 3 rfl rfl) rfl (u := .ref 167) rfl rfl rfl ?_
          refine w_p h_m264 6 (pc' := 51) (L' := [(0, .ref 143), (1, .int (xs 1)), (3, .int (56 : Int32))]) (st' := [.long (0 : Int64), .int (((60 : Int32) * (xs 1)) + (56 : Int32)), .ref 167]) rfl ?_
          refine w_asx H (t := 1) (n := 360) (c := 60 * (xs 1).toInt + 56) (u := .long (0 : Int64)) (1, 360, [], some (.long (0 : Int64))) (pc' := 52) (L' := [(0, .ref 143), (1, .int (xs 1)), (3, .int (56 : Int32))]) h_m264 (z_at.mk 1 rfl rfl) rfl rfl (w_ul _) (zi_add (a := 60 * (xs 1).toInt) (b := 56) (c := 60 * (xs 1).toInt + 56) (zi_mul (a := 60) (b := (xs 1).toInt) (c := 60 * (xs 1).toInt) rfl rfl (by omega) (by omega) (by omega)) rfl (by omega) (by omega) (by omega)) (by omega) (by omega) rfl ⟨rfl, rfl⟩ (w_kn_n) (Or.inr ⟨rfl, rfl⟩) rfl rfl ?_
          clear H m; intro m H
          refine w_p h_m264 6 (pc' := 41) (L' := [(0, .ref 143), (1, .int (xs 1)), (3, .int (57 : Int32))]) (st' := [.ref 143]) rfl ?_
          refine w_gf H (pc' := 44) (L' := [(0, .ref 143), (1, .int (xs 1)), (3, .int (57 : Int32))]) h_m264 (z_at.mk 3 rfl rfl) rfl (u := .ref 167) rfl rfl rfl ?_
          refine w_p h_m264 6 (pc' := 51) (L' := [(0, .ref 143), (1, .int (xs 1)), (3, .int (57 : Int32))]) (st' := [.long (0 : Int64), .int (((60 : Int32) * (xs 1)) + (57 : Int32)), .ref 167]) rfl ?_
          refine w_asx H (t := 1) (n := 360) (c := 60 * (xs 1).toInt + 57) (u := .long (0 : Int64)) (1, 360, [], some (.long (0 : Int64))) (pc' := 52) (L' := [(0, .ref 143), (1, .int (xs 1)), (3, .int (57 : Int32))]) h_m264 (z_at.mk 1 rfl rfl) rfl rfl (w_ul _) (zi_add (a := 60 * (xs 1).toInt) (b := 57) (c := 60 * (xs 1).toInt + 57) (zi_mul (a := 60) (b := (xs 1).toInt) (c := 60 * (xs 1).toInt) rfl rfl (by omega) (by omega) (by omega)) rfl (by omega) (by omega) (by omega)) (by omega) (by omega) rfl ⟨rfl, rfl⟩ (w_kn_n) (Or.inr ⟨rfl, rfl⟩) rfl rfl ?_
          clear H m; intro m H
          refine w_p h_m264 6 (pc' := 41) (L' := [(0, .ref 143), (1, .int (xs 1)), (3, .int (58 : Int32))]) (st' := [.ref 143]) rfl ?_
          refine w_gf H (pc' := 44) (L' := [(0, .ref 143), (1, .int (xs 1)), (3, .int (58 : Int32))]) h_m264 (z_at.mk 3 rfl rfl) rfl (u := .ref 167) rfl rfl rfl ?_
          refine w_p h_m264 6 (pc' := 51) (L' := [(0, .ref 143), (1, .int (xs 1)), (3, .int (58 : Int32))]) (st' := [.long (0 : Int64), .int (((60 : Int32) * (xs 1)) + (58 : Int32)), .ref 167]) rfl ?_
          refine w_asx H (t := 1) (n := 360) (c := 60 * (xs 1).toInt + 58) (u := .long (0 : Int64)) (1, 360, [], some (.long (0 : Int64))) (pc' := 52) (L' := [(0, .ref 143), (1, .int (xs 1)), (3, .int (58 : Int32))]) h_m264 (z_at.mk 1 rfl rfl) rfl rfl (w_ul _) (zi_add (a := 60 * (xs 1).toInt) (b := 58) (c := 60 * (xs 1).toInt + 58) (zi_mul (a := 60) (b := (xs 1).toInt) (c := 60 * (xs 1).toInt) rfl rfl (by omega) (by omega) (by omega)) rfl (by omega) (by omega) (by omega)) (by omega) (by omega) rfl ⟨rfl, rfl⟩ (w_kn_n) (Or.inr ⟨rfl, rfl⟩) rfl rfl ?_
          clear H m; intro m H
          refine w_p h_m264 6 (pc' := 41) (L' := [(0, .ref 143), (1, .int (xs 1)), (3, .int (59 : Int32))]) (st' := [.ref 143]) rfl ?_
          refine w_gf H (pc' := 44) (L' := [(0, .ref 143), (1, .int (xs 1)), (3, .int (59 : Int32))]) h_m264 (z_at.mk 3 rfl rfl) rfl (u := .ref 167) rfl rfl rfl ?_
          refine w_p h_m264 6 (pc' := 51) (L' := [(0, .ref 143), (1, .int (xs 1)), (3, .int (59 : Int32))]) (st' := [.long (0 : Int64), .int (((60 : Int32) * (xs 1)) + (59 : Int32)), .ref 167]) rfl ?_
          refine w_asx H (t := 1) (n := 360) (c := 60 * (xs 1).toInt + 59) (u := .long (0 : Int64)) (1, 360, [], some (.long (0 : Int64))) (pc' := 52) (L' := [(0, .ref 143), (1, .int (xs 1)), (3, .int (59 : Int32))]) h_m264 (z_at.mk 1 rfl rfl) rfl rfl (w_ul _) (zi_add (a := 60 * (xs 1).toInt) (b := 59) (c := 60 * (xs 1).toInt + 59) (zi_mul (a := 60) (b := (xs 1).toInt) (c := 60 * (xs 1).toInt) rfl rfl (by omega) (by omega) (by omega)) rfl (by omega) (by omega) (by omega)) (by omega) (by omega) rfl ⟨rfl, rfl⟩ (w_kn_n) (Or.inr ⟨rfl, rfl⟩) rfl rfl ?_
          clear H m; intro m H
          refine w_p h_m264 6 (pc' := 59) (L' := [(0, .ref 143), (1, .int (xs 1)), (3, .int (60 : Int32))]) (st' := [.int (1 : Int32)]) rfl ?_
          refine w_ri h_m264 (z_at.mk 1 rfl rfl) rfl rfl ?_
          show z_W 1000 1000 1107 [(0, .ref 0), (1, .ref 39), (2, .ref 143), (3, .int (0 : Int32))] [.int (1 : Int32), .int (1 : Int32)] m _
          refine w_p h_m1000 5 (pc' := 20) (L' := [(0, .ref 0), (1, .ref 39), (2, .ref 143), (3, .int (6 : Int32))]) (st' := [.ref 0, .int (6 : Int32)]) rfl ?_
          refine w_lene H (x := (6 : Int32)) (pc' := 21) (L' := [(0, .ref 0), (1, .ref 39), (2, .ref 143), (3, .int (6 : Int32))]) h_m1000 (z_at.mk 1 rfl rfl) (by decide) rfl (by decide) rfl rfl rfl ?_
          refine w_p h_m1000 4 (pc' := 1381) (L' := [(0, .ref 0), (1, .ref 39), (2, .ref 143), (3, .int (6 : Int32))]) (st' := [.int (1 : Int32)]) rfl ?_
          refine w_ri h_m1000 (z_at.mk 1 rfl rfl) rfl rfl ?_
          exact hQ _ _ _ _ H (by decide) (by decide)
      · refine w_f2 (pc' := 15) (L' := [(0, .ref 39), (1, .int (xs 1)), (2, .int (xs 2))]) h_m150 (z_at.mk 3 rfl rfl) rfl (zc (a := (xs 2).toInt) (b := 60) rfl rfl (decide_eq_false (by omega))) rfl rfl ?_
        refine w_p h_m150 1 (pc' := 17) (L' := [(0, .ref 39), (1, .int (xs 1)), (2, .int (xs 2))]) (st' := [.int (-2 : Int32)]) rfl ?_
        refine w_ri h_m150 (z_at.mk 1 rfl rfl) rfl rfl ?_
        show z_W 1000 1000 1093 [(0, .ref 0), (1, .ref 39), (2, .ref 143), (3, .int (0 : Int32))] [.int (-2 : Int32)] m _
        refine w_p h_m1000 5 (pc' := 1098) (L' := [(0, .ref 0), (1, .ref 39), (2, .ref 143), (3, .int (0 : Int32))]) (st' := [.int (1 : Int32), .ref 0, .ref 143, .int (-2 : Int32)]) rfl ?_
        refine w_ae H (j := 1) (pc' := 1099) (L' := [(0, .ref 0), (1, .ref 39), (2, .ref 143), (3, .int (0 : Int32))]) h_m1000 (z_at.mk 1 rfl rfl) rfl rfl rfl (by decide) rfl (by decide) rfl rfl rfl ?_
        refine w_p h_m1000 4 (pc' := 1103) (L' := [(0, .ref 0), (1, .ref 39), (2, .ref 143), (3, .int (0 : Int32))]) (st' := [.int (2 : Int32), .ref 0, .int (xs 1), .ref 143, .int (-2 : Int32)]) rfl ?_
        refine w_ae H (j := 2) (pc' := 1104) (L' := [(0, .ref 0), (1, .ref 39), (2, .ref 143), (3, .int (0 : Int32))]) h_m1000 (z_at.mk 1 rfl rfl) rfl rfl rfl (by decide) rfl (by decide) rfl rfl rfl ?_
        refine w_cv (H.t rfl) (pc' := 1107) (L' := [(0, .ref 0), (1, .ref 39), (2, .ref 143), (3, .int (0 : Int32))]) (rest := [.int (-2 : Int32)]) (Ps := [.int (xs 1), .int (xs 2)]) (L0 := [(0, .ref 143), (1, .int (xs 1)), (2, .int (xs 2))]) h_m1000 (z_at.mk 3 rfl rfl) (Or.inl ⟨rfl, rfl⟩) rfl rfl (by decide) (by decide) rfl rfl rfl rfl rfl rfl (by decide) rfl rfl rfl ?_
        refine w_p h_m264 1 (pc' := 1) (L' := [(0, .ref 143), (1, .int (xs 1)), (2, .int (xs 2))]) (st' := [.int (xs 1)]) rfl ?_
        refine w_cs (As := [.int (xs 1)]) (rest := []) (j := 262) (L0 := [(0, .int (xs 1))]) (pc' := 4) (L' := [(0, .ref 143), (1, .int (xs 1)), (2, .int (xs 2))]) h_m264 (z_at.mk 3 rfl rfl) (Or.inl ⟨rfl, rfl⟩) rfl rfl rfl rfl rfl ?_
        refine w_p h_m262 3 (pc' := 3) (L' := [(0, .int (xs 1))]) (st' := [.int (5 : Int32), .int (0 : Int32), .int (xs 1)]) rfl ?_
        refine w_cs (As := [.int (xs 1), .int (0 : Int32), .int (5 : Int32)]) (rest := []) (j := 159) (L0 := [(0, .int (xs 1)), (1, .int (0 : Int32)), (2, .int (5 : Int32))]) (pc' := 6) (L' := [(0, .int (xs 1))]) h_m262 (z_at.mk 3 rfl rfl) (Or.inl ⟨rfl, rfl⟩) rfl rfl rfl rfl rfl ?_
        refine w_p h_m159 2 (pc' := 2) (L' := [(0, .int (xs 1)), (1, .int (0 : Int32)), (2, .int (5 : Int32))]) (st' := [.int (0 : Int32), .int (xs 1)]) rfl ?_
        refine w_f2 (pc' := 5) (L' := [(0, .int (xs 1)), (1, .int (0 : Int32)), (2, .int (5 : Int32))]) h_m159 (z_at.mk 3 rfl rfl) rfl (zc (a := (xs 1).toInt) (b := 0) rfl rfl (decide_eq_false (by omega))) rfl rfl ?_
        refine w_p h_m159 2 (pc' := 7) (L' := [(0, .int (xs 1)), (1, .int (0 : Int32)), (2, .int (5 : Int32))]) (st' := [.int (5 : Int32), .int (xs 1)]) rfl ?_
        refine w_f2 (pc' := 10) (L' := [(0, .int (xs 1)), (1, .int (0 : Int32)), (2, .int (5 : Int32))]) h_m159 (z_at.mk 3 rfl rfl) rfl (zc (a := (xs 1).toInt) (b := 5) rfl rfl (decide_eq_false (by omega))) rfl rfl ?_
        refine w_p h_m159 2 (pc' := 15) (L' := []) (st' := [.int (1 : Int32)]) rfl ?_
        refine w_ri h_m159 (z_at.mk 1 rfl rfl) rfl rfl ?_
        show z_W 998 262 6 [(0, .int (xs 1))] [.int (1 : Int32)] m _
        refine w_ri h_m262 (z_at.mk 1 rfl rfl) rfl rfl ?_
        show z_W 999 264 4 [(0, .ref 143), (1, .int (xs 1)), (2, .int (xs 2))] [.int (1 : Int32)] m _
        refine w_p h_m264 3 (pc' := 12) (L' := [(0, .ref 143), (1, .int (xs 1)), (2, .int (xs 2))]) (st' := [.int (60 : Int32), .int (xs 2)]) rfl ?_
        refine w_f2 (pc' := 15) (L' := [(0, .ref 143), (1, .int (xs 1)), (2, .int (xs 2))]) h_m264 (z_at.mk 3 rfl rfl) rfl (zc (a := (xs 2).toInt) (b := 60) rfl rfl (decide_eq_false (by omega))) rfl rfl ?_
        refine w_p h_m264 1 (pc' := 17) (L' := [(0, .ref 143), (1, .int (xs 1)), (2, .int (xs 2))]) (st' := [.int (-2 : Int32)]) rfl ?_
        refine w_ri h_m264 (z_at.mk 1 rfl rfl) rfl rfl ?_
        show z_W 1000 1000 1107 [(0, .ref 0), (1, .ref 39), (2, .ref 143), (3, .int (0 : Int32))] [.int (-2 : Int32), .int (-2 : Int32)] m _
        refine w_p h_m1000 5 (pc' := 20) (L' := [(0, .ref 0), (1, .ref 39), (2, .ref 143), (3, .int (6 : Int32))]) (st' := [.ref 0, .int (6 : Int32)]) rfl ?_
        refine w_lene H (x := (6 : Int32)) (pc' := 21) (L' := [(0, .ref 0), (1, .ref 39), (2, .ref 143), (3, .int (6 : Int32))]) h_m1000 (z_at.mk 1 rfl rfl) (by decide) rfl (by decide) rfl rfl rfl ?_
        refine w_p h_m1000 4 (pc' := 1381) (L' := [(0, .ref 0), (1, .ref 39), (2, .ref 143), (3, .int (6 : Int32))]) (st' := [.int (1 : Int32)]) rfl ?_
        refine w_ri h_m1000 (z_at.mk 1 rfl rfl) rfl rfl ?_
        exact hQ _ _ _ _ H (by decide) (by decide)
    · refine w_t2 (pc' := 14) (L' := []) h_m58 (z_at.mk 3 rfl rfl) rfl (zc (a := (xs 1).toInt) (b := 6) rfl rfl (decide_eq_true (by omega))) rfl rfl ?_
      refine w_p h_m58 1 (pc' := 15) (L' := []) (st' := [.int (0 : Int32)]) rfl ?_
      refine w_ri h_m58 (z_at.mk 1 rfl rfl) rfl rfl ?_
      show z_W 999 150 4 [(0, .ref 39), (1, .int (xs 1)), (2, .int (xs 2))] [.int (0 : Int32)] m _
      refine w_p h_m150 2 (pc' := 8) (L' := [(0, .ref 39), (1, .int (xs 1)), (2, .int (xs 2))]) (st' := [.int (-1 : Int32)]) rfl ?_
      refine w_ri h_m150 (z_at.mk 1 rfl rfl) rfl rfl ?_
      show z_W 1000 1000 1093 [(0, .ref 0), (1, .ref 39), (2, .ref 143), (3, .int (0 : Int32))] [.int (-1 : Int32)] m _
      refine w_p h_m1000 5 (pc' := 1098) (L' := [(0, .ref 0), (1, .ref 39), (2, .ref 143), (3, .int (0 : Int32))]) (st' := [.int (1 : Int32), .ref 0, .ref 143, .int (-1 : Int32)]) rfl ?_
      refine w_ae H (j := 1) (pc' := 1099) (L' := [(0, .ref 0), (1, .ref 39), (2, .ref 143), (3, .int (0 : Int32))]) h_m1000 (z_at.mk 1 rfl rfl) rfl rfl rfl (by decide) rfl (by decide) rfl rfl rfl ?_
      refine w_p h_m1000 4 (pc' := 1103) (L' := [(0, .ref 0), (1, .ref 39), (2, .ref 143), (3, .int (0 : Int32))]) (st' := [.int (2 : Int32), .ref 0, .int (xs 1), .ref 143, .int (-1 : Int32)]) rfl ?_
      refine w_ae H (j := 2) (pc' := 1104) (L' := [(0, .ref 0), (1, .ref 39), (2, .ref 143), (3, .int (0 : Int32))]) h_m1000 (z_at.mk 1 rfl rfl) rfl rfl rfl (by decide) rfl (by decide) rfl rfl rfl ?_
      refine w_cv (H.t rfl) (pc' := 1107) (L' := [(0, .ref 0), (1, .ref 39), (2, .ref 143), (3, .int (0 : Int32))]) (rest := [.int (-1 : Int32)]) (Ps := [.int (xs 1), .int (xs 2)]) (L0 := [(0, .ref 143), (1, .int (xs 1)), (2, .int (xs 2))]) h_m1000 (z_at.mk 3 rfl rfl) (Or.inl ⟨rfl, rfl⟩) rfl rfl (by decide) (by decide) rfl rfl rfl rfl rfl rfl (by decide) rfl rfl rfl ?_
      refine w_p h_m264 1 (pc' := 1) (L' := [(0, .ref 143), (1, .int (xs 1)), (2, .int (xs 2))]) (st' := [.int (xs 1)]) rfl ?_
      refine w_cs (As := [.int (xs 1)]) (rest := []) (j := 262) (L0 := [(0, .int (xs 1))]) (pc' := 4) (L' := [(0, .ref 143), (1, .int (xs 1)), (2, .int (xs 2))]) h_m264 (z_at.mk 3 rfl rfl) (Or.inl ⟨rfl, rfl⟩) rfl rfl rfl rfl rfl ?_
      refine w_p h_m262 3 (pc' := 3) (L' := [(0, .int (xs 1))]) (st' := [.int (5 : Int32), .int (0 : Int32), .int (xs 1)]) rfl ?_
      refine w_cs (As := [.int (xs 1), .int (0 : Int32), .int (5 : Int32)]) (rest := []) (j := 159) (L0 := [(0, .int (xs 1)), (1, .int (0 : Int32)), (2, .int (5 : Int32))]) (pc' := 6) (L' := [(0, .int (xs 1))]) h_m262 (z_at.mk 3 rfl rfl) (Or.inl ⟨rfl, rfl⟩) rfl rfl rfl rfl rfl ?_
      refine w_p h_m159 2 (pc' := 2) (L' := [(0, .int (xs 1)), (1, .int (0 : Int32)), (2, .int (5 : Int32))]) (st' := [.int (0 : Int32), .int (xs 1)]) rfl ?_
      refine w_f2 (pc' := 5) (L' := [(0, .int (xs 1)), (1, .int (0 : Int32)), (2, .int (5 : Int32))]) h_m159 (z_at.mk 3 rfl rfl) rfl (zc (a := (xs 1).toInt) (b := 0) rfl rfl (decide_eq_false (by omega))) rfl rfl ?_
      refine w_p h_m159 2 (pc' := 7) (L' := [(0, .int (xs 1)), (1, .int (0 : Int32)), (2, .int (5 : Int32))]) (st' := [.int (5 : Int32), .int (xs 1)]) rfl ?_
      refine w_t2 (pc' := 14) (L' := []) h_m159 (z_at.mk 3 rfl rfl) rfl (zc (a := (xs 1).toInt) (b := 5) rfl rfl (decide_eq_true (by omega))) rfl rfl ?_
      refine w_p h_m159 1 (pc' := 15) (L' := []) (st' := [.int (0 : Int32)]) rfl ?_
      refine w_ri h_m159 (z_at.mk 1 rfl rfl) rfl rfl ?_
      show z_W 998 262 6 [(0, .int (xs 1))] [.int (0 : Int32)] m _
      refine w_ri h_m262 (z_at.mk 1 rfl rfl) rfl rfl ?_
      show z_W 999 264 4 [(0, .ref 143), (1, .int (xs 1)), (2, .int (xs 2))] [.int (0 : Int32)] m _
      refine w_p h_m264 2 (pc' := 8) (L' := [(0, .ref 143), (1, .int (xs 1)), (2, .int (xs 2))]) (st' := [.int (-1 : Int32)]) rfl ?_
      refine w_ri h_m264 (z_at.mk 1 rfl rfl) rfl rfl ?_
      show z_W 1000 1000 1107 [(0, .ref 0), (1, .ref 39), (2, .ref 143), (3, .int (0 : Int32))] [.int (-1 : Int32), .int (-1 : Int32)] m _
      refine w_p h_m1000 5 (pc' := 20) (L' := [(0, .ref 0), (1, .ref 39), (2, .ref 143), (3, .int (6 : Int32))]) (st' := [.ref 0, .int (6 : Int32)]) rfl ?_
      refine w_lene H (x := (6 : Int32)) (pc' := 21) (L' := [(0, .ref 0), (1, .ref 39), (2, .ref 143), (3, .int (6 : Int32))]) h_m1000 (z_at.mk 1 rfl rfl) (by decide) rfl (by decide) rfl rfl rfl ?_
      refine w_p h_m1000 4 (pc' := 1381) (L' := [(0, .ref 0), (1, .ref 39), (2, .ref 143), (3, .int (6 : Int32))]) (st' := [.int (1 : Int32)]) rfl ?_
      refine w_ri h_m1000 (z_at.mk 1 rfl rfl) rfl rfl ?_
      exact hQ _ _ _ _ H (by decide) (by decide)
