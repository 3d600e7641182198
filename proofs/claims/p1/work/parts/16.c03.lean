/-! THE ROADS of calls 20, 7, 30, 31, 33, 34 on a fresh object (by wip/px_cmd.py) -/
set_option maxHeartbeats 400000000 in
set_option maxRecDepth 20000 in
theorem w_c20 {xs : Nat → Int32} {m : zM} {Q : Option Value → zM → Prop} (H : w_ok 6 xs 168 63950 w_T0 m) (hQ : ∀ N S T m, w_ok 6 xs N S T m → N ≤ 600039 → S ≤ 7302250 → Q (some (.int 1)) m) : z_W 1000 1000 800 [(0, .ref 0), (1, .ref 39), (2, .ref 143), (3, .int (0 : Int32))] [] m Q := by
  have b1 := zi_bd (xs 1)
  have b2 := zi_bd (xs 2)
  have b3 := zi_bd (xs 3)
  have b4 := zi_bd (xs 4)
  have b5 := zi_bd (xs 5)
  refine w_p h_m1000 5 (pc' := 805) (L' := [(0, .ref 0), (1, .ref 39), (2, .ref 143), (3, .int (0 : Int32))]) (st' := [.int (1 : Int32), .ref 0, .ref 39]) rfl ?_
  refine w_ae H (j := 1) (pc' := 806) (L' := [(0, .ref 0), (1, .ref 39), (2, .ref 143), (3, .int (0 : Int32))]) h_m1000 (z_at.mk 1 rfl rfl) rfl rfl rfl (by decide) rfl (by decide) rfl rfl rfl ?_
  refine w_cv (H.t rfl) (pc' := 809) (L' := [(0, .ref 0), (1, .ref 39), (2, .ref 143), (3, .int (0 : Int32))]) (rest := []) (Ps := [.int (xs 1)]) (L0 := [(0, .ref 39), (1, .int (xs 1))]) h_m1000 (z_at.mk 3 rfl rfl) (Or.inl ⟨rfl, rfl⟩) rfl rfl (by decide) (by decide) rfl rfl rfl rfl rfl rfl (by decide) rfl rfl rfl ?_
  refine w_p h_m140 1 (pc' := 1) (L' := [(0, .ref 39), (1, .int (xs 1))]) (st' := [.int (xs 1)]) rfl ?_
  by_cases c_1 : (xs 1).toInt = 0
  · refine w_sw (off := 59) (pc' := 60) (L' := [(0, .ref 39), (1, .int (xs 1))]) h_m140 (z_at.mk 59 rfl rfl) (z_off_v (v := 0) c_1 (by decide)) rfl rfl rfl ?_
    refine w_p h_m140 1 (pc' := 61) (L' := [(0, .ref 39), (1, .int (xs 1))]) (st' := [.ref 39]) rfl ?_
    refine w_gf H (pc' := 64) (L' := [(0, .ref 39), (1, .int (xs 1))]) h_m140 (z_at.mk 3 rfl rfl) rfl (u := .ref 40) rfl rfl rfl ?_
    refine w_gf H (pc' := 67) (L' := [(0, .ref 39), (1, .int (xs 1))]) h_m140 (z_at.mk 3 rfl rfl) rfl (u := .ref 48) rfl rfl rfl ?_
    refine w_gf H (pc' := 70) (L' := [(0, .ref 39), (1, .int (xs 1))]) h_m140 (z_at.mk 3 rfl rfl) rfl (u := .int (0 : Int32)) rfl rfl rfl ?_
    refine w_p h_m140 1 (pc' := 71) (L' := [(0, .ref 39), (1, .int (xs 1))]) (st' := [.long (0 : Int64)]) rfl ?_
    refine w_rl h_m140 (z_at.mk 1 rfl rfl) rfl ?_
    show z_W 1000 1000 809 [(0, .ref 0), (1, .ref 39), (2, .ref 143), (3, .int (0 : Int32))] [.long (0 : Int64)] m _
    refine w_p h_m1000 5 (pc' := 814) (L' := [(0, .ref 0), (1, .ref 39), (2, .ref 143), (3, .int (0 : Int32))]) (st' := [.int (1 : Int32), .ref 0, .ref 143, .long (0 : Int64)]) rfl ?_
    refine w_ae H (j := 1) (pc' := 815) (L' := [(0, .ref 0), (1, .ref 39), (2, .ref 143), (3, .int (0 : Int32))]) h_m1000 (z_at.mk 1 rfl rfl) rfl rfl rfl (by decide) rfl (by decide) rfl rfl rfl ?_
    refine w_cv (H.t rfl) (pc' := 818) (L' := [(0, .ref 0), (1, .ref 39), (2, .ref 143), (3, .int (0 : Int32))]) (rest := [.long (0 : Int64)]) (Ps := [.int (xs 1)]) (L0 := [(0, .ref 143), (1, .int (xs 1))]) h_m1000 (z_at.mk 3 rfl rfl) (Or.inl ⟨rfl, rfl⟩) rfl rfl (by decide) (by decide) rfl rfl rfl rfl rfl rfl (by decide) rfl rfl rfl ?_
    refine w_p h_m251 1 (pc' := 1) (L' := [(0, .ref 143), (1, .int (xs 1))]) (st' := [.int (xs 1)]) rfl ?_
    refine w_f1 (pc' := 4) (L' := [(0, .ref 143), (1, .int (xs 1))]) h_m251 (z_at.mk 3 rfl rfl) rfl (zc (a := (xs 1).toInt) (b := 0) rfl rfl (decide_eq_false (by omega))) rfl rfl ?_
    refine w_p h_m251 1 (pc' := 5) (L' := [(0, .ref 143), (1, .int (xs 1))]) (st' := [.ref 143]) rfl ?_
    refine w_gf H (pc' := 8) (L' := [(0, .ref 143), (1, .int (xs 1))]) h_m251 (z_at.mk 3 rfl rfl) rfl (u := .ref 144) rfl rfl rfl ?_
    refine w_p h_m251 1 (pc' := 9) (L' := [(0, .ref 143), (1, .int (xs 1))]) (st' := [.int (0 : Int32), .ref 144]) rfl ?_
    refine w_al H (t := 0) (j := 0) (pc' := 10) (L' := [(0, .ref 143), (1, .int (xs 1))]) h_m251 (z_at.mk 1 rfl rfl) rfl rfl rfl (u := .int (0 : Int32)) rfl rfl rfl ?_
    refine w_p h_m251 2 (pc' := 97) (L' := []) (st' := [.long (0 : Int64)]) rfl ?_
    refine w_rl h_m251 (z_at.mk 1 rfl rfl) rfl ?_
    show z_W 1000 1000 818 [(0, .ref 0), (1, .ref 39), (2, .ref 143), (3, .int (0 : Int32))] [.long (0 : Int64), .long (0 : Int64)] m _
    refine w_p h_m1000 6 (pc' := 20) (L' := [(0, .ref 0), (1, .ref 39), (2, .ref 143), (3, .int (6 : Int32))]) (st' := [.ref 0, .int (6 : Int32)]) rfl ?_
    refine w_lene H (x := (6 : Int32)) (pc' := 21) (L' := [(0, .ref 0), (1, .ref 39), (2, .ref 143), (3, .int (6 : Int32))]) h_m1000 (z_at.mk 1 rfl rfl) (by decide) rfl (by decide) rfl rfl rfl ?_
    refine w_p h_m1000 4 (pc' := 1381) (L' := [(0, .ref 0), (1, .ref 39), (2, .ref 143), (3, .int (6 : Int32))]) (st' := [.int (1 : Int32)]) rfl ?_
    refine w_ri h_m1000 (z_at.mk 1 rfl rfl) rfl rfl ?_
    exact hQ _ _ _ _ H (by decide) (by decide)
  by_cases c_2 : (xs 1).toInt = 1
  · refine w_sw (off := 71) (pc' := 72) (L' := [(0, .ref 39), (1, .int (xs 1))]) h_m140 (z_at.mk 59 rfl rfl) (z_off_v (v := 1) c_2 (by decide)) rfl rfl rfl ?_
    refine w_p h_m140 1 (pc' := 73) (L' := [(0, .ref 39), (1, .int (xs 1))]) (st' := [.ref 39]) rfl ?_
    refine w_gf H (pc' := 76) (L' := [(0, .ref 39), (1, .int (xs 1))]) h_m140 (z_at.mk 3 rfl rfl) rfl (u := .ref 40) rfl rfl rfl ?_
    refine w_gf H (pc' := 79) (L' := [(0, .ref 39), (1, .int (xs 1))]) h_m140 (z_at.mk 3 rfl rfl) rfl (u := .ref 48) rfl rfl rfl ?_
    refine w_cv (H.t rfl) (pc' := 82) (L' := [(0, .ref 39), (1, .int (xs 1))]) (rest := []) (Ps := []) (L0 := [(0, .ref 48)]) h_m140 (z_at.mk 3 rfl rfl) (Or.inl ⟨rfl, rfl⟩) rfl rfl (by decide) (by decide) rfl rfl rfl rfl rfl rfl (by decide) rfl rfl rfl ?_
    refine w_p h_m24 1 (pc' := 1) (L' := [(0, .ref 48)]) (st' := [.ref 48]) rfl ?_
    refine w_gf H (pc' := 4) (L' := [(0, .ref 48)]) h_m24 (z_at.mk 3 rfl rfl) rfl (u := .int (0 : Int32)) rfl rfl rfl ?_
    refine w_p h_m24 5 (pc' := 9) (L' := [(0, .ref 48), (1, .int (0 : Int32)), (2, .int (0 : Int32))]) (st' := [.ref 48, .int (0 : Int32)]) rfl ?_
    refine w_gf H (pc' := 12) (L' := [(0, .ref 48), (1, .int (0 : Int32)), (2, .int (0 : Int32))]) h_m24 (z_at.mk 3 rfl rfl) rfl (u := .int (0 : Int32)) rfl rfl rfl ?_
    refine w_p h_m24 2 (pc' := 41) (L' := [(0, .ref 48), (1, .int (0 : Int32)), (2, .int (0 : Int32))]) (st' := [.int (0 : Int32)]) rfl ?_
    refine w_ri h_m24 (z_at.mk 1 rfl rfl) rfl rfl ?_
    show z_W 999 140 82 [(0, .ref 39), (1, .int (xs 1))] [.int (0 : Int32)] m _
    refine w_p h_m140 1 (pc' := 83) (L' := [(0, .ref 39), (1, .int (xs 1))]) (st' := [.long (0 : Int64)]) rfl ?_
    refine w_rl h_m140 (z_at.mk 1 rfl rfl) rfl ?_
    show z_W 1000 1000 809 [(0, .ref 0), (1, .ref 39), (2, .ref 143), (3, .int (0 : Int32))] [.long (0 : Int64)] m _
    refine w_p h_m1000 5 (pc' := 814) (L' := [(0, .ref 0), (1, .ref 39), (2, .ref 143), (3, .int (0 : Int32))]) (st' := [.int (1 : Int32), .ref 0, .ref 143, .long (0 : Int64)]) rfl ?_
    refine w_ae H (j := 1) (pc' := 815) (L' := [(0, .ref 0), (1, .ref 39), (2, .ref 143), (3, .int (0 : Int32))]) h_m1000 (z_at.mk 1 rfl rfl) rfl rfl rfl (by decide) rfl (by decide) rfl rfl rfl ?_
    refine w_cv (H.t rfl) (pc' := 818) (L' := [(0, .ref 0), (1, .ref 39), (2, .ref 143), (3, .int (0 : Int32))]) (rest := [.long (0 : Int64)]) (Ps := [.int (xs 1)]) (L0 := [(0, .ref 143), (1, .int (xs 1))]) h_m1000 (z_at.mk 3 rfl rfl) (Or.inl ⟨rfl, rfl⟩) rfl rfl (by decide) (by decide) rfl rfl rfl rfl rfl rfl (by decide) rfl rfl rfl ?_
    refine w_p h_m251 1 (pc' := 1) (L' := [(0, .ref 143), (1, .int (xs 1))]) (st' := [.int (xs 1)]) rfl ?_
    refine w_t1 (pc' := 14) (L' := [(0, .ref 143), (1, .int (xs 1))]) h_m251 (z_at.mk 3 rfl rfl) rfl (zc (a := (xs 1).toInt) (b := 0) rfl rfl (decide_eq_true (by omega))) rfl rfl ?_
    refine w_p h_m251 2 (pc' := 16) (L' := [(0, .ref 143), (1, .int (xs 1))]) (st' := [.int (1 : Int32), .int (xs 1)]) rfl ?_
    refine w_f2 (pc' := 19) (L' := [(0, .ref 143), (1, .int (xs 1))]) h_m251 (z_at.mk 3 rfl rfl) rfl (zc (a := (xs 1).toInt) (b := 1) rfl rfl (decide_eq_false (by omega))) rfl rfl ?_
    refine w_p h_m251 1 (pc' := 20) (L' := [(0, .ref 143), (1, .int (xs 1))]) (st' := [.ref 143]) rfl ?_
    refine w_cv (H.t rfl) (pc' := 23) (L' := [(0, .ref 143), (1, .int (xs 1))]) (rest := []) (Ps := []) (L0 := [(0, .ref 143)]) h_m251 (z_at.mk 3 rfl rfl) (Or.inl ⟨rfl, rfl⟩) rfl rfl (by decide) (by decide) rfl rfl rfl rfl rfl rfl (by decide) rfl rfl rfl ?_
    refine w_p h_m186 6 (pc' := 6) (L' := [(0, .ref 143), (1, .int (0 : Int32)), (2, .int (0 : Int32))]) (st' := [.ref 143, .int (0 : Int32)]) rfl ?_
    refine w_gf H (pc' := 9) (L' := [(0, .ref 143), (1, .int (0 : Int32)), (2, .int (0 : Int32))]) h_m186 (z_at.mk 3 rfl rfl) rfl (u := .ref 144) rfl rfl rfl ?_
    refine w_p h_m186 1 (pc' := 10) (L' := [(0, .ref 143), (1, .int (0 : Int32)), (2, .int (0 : Int32))]) (st' := [.int (0 : Int32), .ref 144, .int (0 : Int32)]) rfl ?_
    refine w_al H (t := 0) (j := 0) (pc' := 11) (L' := [(0, .ref 143), (1, .int (0 : Int32)), (2, .int (0 : Int32))]) h_m186 (z_at.mk 1 rfl rfl) rfl rfl rfl (u := .int (0 : Int32)) rfl rfl rfl ?_
    refine w_p h_m186 2 (pc' := 29) (L' := [(0, .ref 143), (1, .int (0 : Int32)), (2, .int (0 : Int32))]) (st' := [.int (0 : Int32)]) rfl ?_
    refine w_ri h_m186 (z_at.mk 1 rfl rfl) rfl rfl ?_
    show z_W 999 251 23 [(0, .ref 143), (1, .int (xs 1))] [.int (0 : Int32)] m _
    refine w_p h_m251 2 (pc' := 97) (L' := []) (st' := [.long (0 : Int64)]) rfl ?_
    refine w_rl h_m251 (z_at.mk 1 rfl rfl) rfl ?_
    show z_W 1000 1000 818 [(0, .ref 0), (1, .ref 39), (2, .ref 143), (3, .int (0 : Int32))] [.long (0 : Int64), .long (0 : Int64)] m _
    refine w_p h_m1000 6 (pc' := 20) (L' := [(0, .ref 0), (1, .ref 39), (2, .ref 143), (3, .int (6 : Int32))]) (st' := [.ref 0, .int (6 : Int32)]) rfl ?_
    refine w_lene H (x := (6 : Int32)) (pc' := 21) (L' := [(0, .ref 0), (1, .ref 39), (2, .ref 143), (3, .int (6 : Int32))]) h_m1000 (z_at.mk 1 rfl rfl) (by decide) rfl (by decide) rfl rfl rfl ?_
    refine w_p h_m1000 4 (pc' := 1381) (L' := [(0, .ref 0), (1, .ref 39), (2, .ref 143), (3, .int (6 : Int32))]) (st' := [.int (1 : Int32)]) rfl ?_
    refine w_ri h_m1000 (z_at.mk 1 rfl rfl) rfl rfl ?_
    exact hQ _ _ _ _ H (by decide) (by decide)
  by_cases c_3 : (xs 1).toInt = 2
  · refine w_sw (off := 83) (pc' := 84) (L' := [(0, .ref 39), (1, .int (xs 1))]) h_m140 (z_at.mk 59 rfl rfl) (z_off_v (v := 2) c_3 (by decide)) rfl rfl rfl ?_
    refine w_p h_m140 1 (pc' := 85) (L' := [(0, .ref 39), (1, .int (xs 1))]) (st' := [.ref 39]) rfl ?_
    refine w_gf H (pc' := 88) (L' := [(0, .ref 39), (1, .int (xs 1))]) h_m140 (z_at.mk 3 rfl rfl) rfl (u := .ref 40) rfl rfl rfl ?_
    refine w_gf H (pc' := 91) (L' := [(0, .ref 39), (1, .int (xs 1))]) h_m140 (z_at.mk 3 rfl rfl) rfl (u := .ref 48) rfl rfl rfl ?_
    refine w_gf H (pc' := 94) (L' := [(0, .ref 39), (1, .int (xs 1))]) h_m140 (z_at.mk 3 rfl rfl) rfl (u := .int (0 : Int32)) rfl rfl rfl ?_
    refine w_p h_m140 1 (pc' := 95) (L' := [(0, .ref 39), (1, .int (xs 1))]) (st' := [.long (0 : Int64)]) rfl ?_
    refine w_rl h_m140 (z_at.mk 1 rfl rfl) rfl ?_
    show z_W 1000 1000 809 [(0, .ref 0), (1, .ref 39), (2, .ref 143), (3, .int (0 : Int32))] [.long (0 : Int64)] m _
    refine w_p h_m1000 5 (pc' := 814) (L' := [(0, .ref 0), (1, .ref 39), (2, .ref 143), (3, .int (0 : Int32))]) (st' := [.int (1 : Int32), .ref 0, .ref 143, .long (0 : Int64)]) rfl ?_
    refine w_ae H (j := 1) (pc' := 815) (L' := [(0, .ref 0), (1, .ref 39), (2, .ref 143), (3, .int (0 : Int32))]) h_m1000 (z_at.mk 1 rfl rfl) rfl rfl rfl (by decide) rfl (by decide) rfl rfl rfl ?_
    refine w_cv (H.t rfl) (pc' := 818) (L' := [(0, .ref 0), (1, .ref 39), (2, .ref 143), (3, .int (0 : Int32))]) (rest := [.long (0 : Int64)]) (Ps := [.int (xs 1)]) (L0 := [(0, .ref 143), (1, .int (xs 1))]) h_m1000 (z_at.mk 3 rfl rfl) (Or.inl ⟨rfl, rfl⟩) rfl rfl (by decide) (by decide) rfl rfl rfl rfl rfl rfl (by decide) rfl rfl rfl ?_
    refine w_p h_m251 1 (pc' := 1) (L' := [(0, .ref 143), (1, .int (xs 1))]) (st' := [.int (xs 1)]) rfl ?_
    refine w_t1 (pc' := 14) (L' := [(0, .ref 143), (1, .int (xs 1))]) h_m251 (z_at.mk 3 rfl rfl) rfl (zc (a := (xs 1).toInt) (b := 0) rfl rfl (decide_eq_true (by omega))) rfl rfl ?_
    refine w_p h_m251 2 (pc' := 16) (L' := [(0, .ref 143), (1, .int (xs 1))]) (st' := [.int (1 : Int32), .int (xs 1)]) rfl ?_
    refine w_t2 (pc' := 27) (L' := [(0, .ref 143), (1, .int (xs 1))]) h_m251 (z_at.mk 3 rfl rfl) rfl (zc (a := (xs 1).toInt) (b := 1) rfl rfl (decide_eq_true (by omega))) rfl rfl ?_
    refine w_p h_m251 3 (pc' := 31) (L' := [(0, .ref 143), (1, .int (xs 1))]) (st' := [.int (7 : Int32), .int (2 : Int32), .int (xs 1)]) rfl ?_
    refine w_cs (As := [.int (xs 1), .int (2 : Int32), .int (7 : Int32)]) (rest := []) (j := 159) (L0 := [(0, .int (xs 1)), (1, .int (2 : Int32)), (2, .int (7 : Int32))]) (pc' := 34) (L' := [(0, .ref 143), (1, .int (xs 1))]) h_m251 (z_at.mk 3 rfl rfl) (Or.inl ⟨rfl, rfl⟩) rfl rfl rfl rfl rfl ?_
    refine w_p h_m159 2 (pc' := 2) (L' := [(0, .int (xs 1)), (1, .int (2 : Int32)), (2, .int (7 : Int32))]) (st' := [.int (2 : Int32), .int (xs 1)]) rfl ?_
    refine w_f2 (pc' := 5) (L' := [(0, .int (xs 1)), (1, .int (2 : Int32)), (2, .int (7 : Int32))]) h_m159 (z_at.mk 3 rfl rfl) rfl (zc (a := (xs 1).toInt) (b := 2) rfl rfl (decide_eq_false (by omega))) rfl rfl ?_
    refine w_p h_m159 2 (pc' := 7) (L' := [(0, .int (xs 1)), (1, .int (2 : Int32)), (2, .int (7 : Int32))]) (st' := [.int (7 : Int32), .int (xs 1)]) rfl ?_
    refine w_f2 (pc' := 10) (L' := [(0, .int (xs 1)), (1, .int (2 : Int32)), (2, .int (7 : Int32))]) h_m159 (z_at.mk 3 rfl rfl) rfl (zc (a := (xs 1).toInt) (b := 7) rfl rfl (decide_eq_false (by omega))) rfl rfl ?_
    refine w_p h_m159 2 (pc' := 15) (L' := []) (st' := [.int (1 : Int32)]) rfl ?_
    refine w_ri h_m159 (z_at.mk 1 rfl rfl) rfl rfl ?_
    show z_W 999 251 34 [(0, .ref 143), (1, .int (xs 1))] [.int (1 : Int32)] m _
    refine w_p h_m251 2 (pc' := 38) (L' := [(0, .ref 143), (1, .int (xs 1))]) (st' := [.ref 143]) rfl ?_
    refine w_gf H (pc' := 41) (L' := [(0, .ref 143), (1, .int (xs 1))]) h_m251 (z_at.mk 3 rfl rfl) rfl (u := .ref 144) rfl rfl rfl ?_
    refine w_p h_m251 5 (pc' := 46) (L' := [(0, .ref 143), (1, .int (xs 1))]) (st' := [.int (((2 : Int32) + (xs 1)) - (2 : Int32)), .ref 144]) rfl ?_
    refine w_alx H (t := 0) (n := 2740) (ov := [(17, .int (1024 : Int32)), (16, .int (1 : Int32)), (15, .int (1 : Int32)), (13, .int (12 : Int32)), (12, .int (40 : Int32)), (11, .int (10 : Int32))]) (c := (xs 1).toInt) (u := .int (0 : Int32)) (pc' := 47) (L' := [(0, .ref 143), (1, .int (xs 1))]) h_m251 (z_at.mk 1 rfl rfl) rfl rfl (zi_sub (a := (xs 1).toInt + 2) (b := 2) (c := (xs 1).toInt) (zi_add (a := 2) (b := (xs 1).toInt) (c := (xs 1).toInt + 2) rfl rfl (by omega) (by omega) (by omega)) rfl (by omega) (by omega) (by omega)) (by omega) (by omega) rfl (w_av_c (by omega) (w_av_c (by omega) (w_av_c (by omega) (w_av_c (by omega) (w_av_c (by omega) (w_av_c (by omega) (w_av_n))))))) rfl rfl ?_
    refine w_p h_m251 2 (pc' := 97) (L' := []) (st' := [.long (0 : Int64)]) rfl ?_
    refine w_rl h_m251 (z_at.mk 1 rfl rfl) rfl ?_
    show z_W 1000 1000 818 [(0, .ref 0), (1, .ref 39), (2, .ref 143), (3, .int (0 : Int32))] [.long (0 : Int64), .long (0 : Int64)] m _
    refine w_p h_m1000 6 (pc' := 20) (L' := [(0, .ref 0), (1, .ref 39), (2, .ref 143), (3, .int (6 : Int32))]) (st' := [.ref 0, .int (6 : Int32)]) rfl ?_
    refine w_lene H (x := (6 : Int32)) (pc' := 21) (L' := [(0, .ref 0), (1, .ref 39), (2, .ref 143), (3, .int (6 : Int32))]) h_m1000 (z_at.mk 1 rfl rfl) (by decide) rfl (by decide) rfl rfl rfl ?_
    refine w_p h_m1000 4 (pc' := 1381) (L' := [(0, .ref 0), (1, .ref 39), (2, .ref 143), (3, .int (6 : Int32))]) (st' := [.int (1 : Int32)]) rfl ?_
    refine w_ri h_m1000 (z_at.mk 1 rfl rfl) rfl rfl ?_
    exact hQ _ _ _ _ H (by decide) (by decide)
  by_cases c_4 : (xs 1).toInt = 3
  · refine w_sw (off := 95) (pc' := 96) (L' := [(0, .ref 39), (1, .int (xs 1))]) h_m140 (z_at.mk 59 rfl rfl) (z_off_v (v := 3) c_4 (by decide)) rfl rfl rfl ?_
    refine w_p h_m140 1 (pc' := 97) (L' := [(0, .ref 39), (1, .int (xs 1))]) (st' := [.ref 39]) rfl ?_
    refine w_gf H (pc' := 100) (L' := [(0, .ref 39), (1, .int (xs 1))]) h_m140 (z_at.mk 3 rfl rfl) rfl (u := .ref 40) rfl rfl rfl ?_
    refine w_gf H (pc' := 103) (L' := [(0, .ref 39), (1, .int (xs 1))]) h_m140 (z_at.mk 3 rfl rfl) rfl (u := .ref 48) rfl rfl rfl ?_
    refine w_gf H (pc' := 106) (L' := [(0, .ref 39), (1, .int (xs 1))]) h_m140 (z_at.mk 3 rfl rfl) rfl (u := .int (0 : Int32)) rfl rfl rfl ?_
    refine w_p h_m140 1 (pc' := 107) (L' := [(0, .ref 39), (1, .int (xs 1))]) (st' := [.long (0 : Int64)]) rfl ?_
    refine w_rl h_m140 (z_at.mk 1 rfl rfl) rfl ?_
    show z_W 1000 1000 809 [(0, .ref 0), (1, .ref 39), (2, .ref 143), (3, .int (0 : Int32))] [.long (0 : Int64)] m _
    refine w_p h_m1000 5 (pc' := 814) (L' := [(0, .ref 0), (1, .ref 39), (2, .ref 143), (3, .int (0 : Int32))]) (st' := [.int (1 : Int32), .ref 0, .ref 143, .long (0 : Int64)]) rfl ?_
    refine w_ae H (j := 1) (pc' := 815) (L' := [(0, .ref 0), (1, .ref 39), (2, .ref 143), (3, .int (0 : Int32))]) h_m1000 (z_at.mk 1 rfl rfl) rfl rfl rfl (by decide) rfl (by decide) rfl rfl rfl ?_
    refine w_cv (H.t rfl) (pc' := 818) (L' := [(0, .ref 0), (1, .ref 39), (2, .ref 143), (3, .int (0 : Int32))]) (rest := [.long (0 : Int64)]) (Ps := [.int (xs 1)]) (L0 := [(0, .ref 143), (1, .int (xs 1))]) h_m1000 (z_at.mk 3 rfl rfl) (Or.inl ⟨rfl, rfl⟩) rfl rfl (by decide) (by decide) rfl rfl rfl rfl rfl rfl (by decide) rfl rfl rfl ?_
    refine w_p h_m251 1 (pc' := 1) (L' := [(0, .ref 143), (1, .int (xs 1))]) (st' := [.int (xs 1)]) rfl ?_
    refine w_t1 (pc' := 14) (L' := [(0, .ref 143), (1, .int (xs 1))]) h_m251 (z_at.mk 3 rfl rfl) rfl (zc (a := (xs 1).toInt) (b := 0) rfl rfl (decide_eq_true (by omega))) rfl rfl ?_
    refine w_p h_m251 2 (pc' := 16) (L' := [(0, .ref 143), (1, .int (xs 1))]) (st' := [.int (1 : Int32), .int (xs 1)]) rfl ?_
    refine w_t2 (pc' := 27) (L' := [(0, .ref 143), (1, .int (xs 1))]) h_m251 (z_at.mk 3 rfl rfl) rfl (zc (a := (xs 1).toInt) (b := 1) rfl rfl (decide_eq_true (by omega))) rfl rfl ?_
    refine w_p h_m251 3 (pc' := 31) (L' := [(0, .ref 143), (1, .int (xs 1))]) (st' := [.int (7 : Int32), .int (2 : Int32), .int (xs 1)]) rfl ?_
    refine w_cs (As := [.int (xs 1), .int (2 : Int32), .int (7 : Int32)]) (rest := []) (j := 159) (L0 := [(0, .int (xs 1)), (1, .int (2 : Int32)), (2, .int (7 : Int32))]) (pc' := 34) (L' := [(0, .ref 143), (1, .int (xs 1))]) h_m251 (z_at.mk 3 rfl rfl) (Or.inl ⟨rfl, rfl⟩) rfl rfl rfl rfl rfl ?_
    refine w_p h_m159 2 (pc' := 2) (L' := [(0, .int (xs 1)), (1, .int (2 : Int32)), (2, .int (7 : Int32))]) (st' := [.int (2 : Int32), .int (xs 1)]) rfl ?_
    refine w_f2 (pc' := 5) (L' := [(0, .int (xs 1)), (1, .int (2 : Int32)), (2, .int (7 : Int32))]) h_m159 (z_at.mk 3 rfl rfl) rfl (zc (a := (xs 1).toInt) (b := 2) rfl rfl (decide_eq_false (by omega))) rfl rfl ?_
    refine w_p h_m159 2 (pc' := 7) (L' := [(0, .int (xs 1)), (1, .int (2 : Int32)), (2, .int (7 : Int32))]) (st' := [.int (7 : Int32), .int (xs 1)]) rfl ?_
    refine w_f2 (pc' := 10) (L' := [(0, .int (xs 1)), (1, .int (2 : Int32)), (2, .int (7 : Int32))]) h_m159 (z_at.mk 3 rfl rfl) rfl (zc (a := (xs 1).toInt) (b := 7) rfl rfl (decide_eq_false (by omega))) rfl rfl ?_
    refine w_p h_m159 2 (pc' := 15) (L' := []) (st' := [.int (1 : Int32)]) rfl ?_
    refine w_ri h_m159 (z_at.mk 1 rfl rfl) rfl rfl ?_
    show z_W 999 251 34 [(0, .ref 143), (1, .int (xs 1))] [.int (1 : Int32)] m _
    refine w_p h_m251 2 (pc' := 38) (L' := [(0, .ref 143), (1, .int (xs 1))]) (st' := [.ref 143]) rfl ?_
    refine w_gf H (pc' := 41) (L' := [(0, .ref 143), (1, .int (xs 1))]) h_m251 (z_at.mk 3 rfl rfl) rfl (u := .ref 144) rfl rfl rfl ?_
    refine w_p h_m251 5 (pc' := 46) (L' := [(0, .ref 143), (1, .int (xs 1))]) (st' := [.int (((2 : Int32) + (xs 1)) - (2 : Int32)), .ref 144]) rfl ?_
    refine w_alx H (t := 0) (n := 2740) (ov := [(17, .int (1024 : Int32)), (16, .int (1 : Int32)), (15, .int (1 : Int32)), (13, .int (12 : Int32)), (12, .int (40 : Int32)), (11, .int (10 : Int32))]) (c := (xs 1).toInt) (u := .int (0 : Int32)) (pc' := 47) (L' := [(0, .ref 143), (1, .int (xs 1))]) h_m251 (z_at.mk 1 rfl rfl) rfl rfl (zi_sub (a := (xs 1).toInt + 2) (b := 2) (c := (xs 1).toInt) (zi_add (a := 2) (b := (xs 1).toInt) (c := (xs 1).toInt + 2) rfl rfl (by omega) (by omega) (by omega)) rfl (by omega) (by omega) (by omega)) (by omega) (by omega) rfl (w_av_c (by omega) (w_av_c (by omega) (w_av_c (by omega) (w_av_c (by omega) (w_av_c (by omega) (w_av_c (by omega) (w_av_n))))))) rfl rfl ?_
    refine w_p h_m251 2 (pc' := 97) (L' := []) (st' := [.long (0 : Int64)]) rfl ?_
    refine w_rl h_m251 (z_at.mk 1 rfl rfl) rfl ?_
    show z_W 1000 1000 818 [(0, .ref 0), (1, .ref 39), (2, .ref 143), (3, .int (0 : Int32))] [.long (0 : Int64), .long (0 : Int64)] m _
    refine w_p h_m1000 6 (pc' := 20) (L' := [(0, .ref 0), (1, .ref 39), (2, .ref 143), (3, .int (6 : Int32))]) (st' := [.ref 0, .int (6 : Int32)]) rfl ?_
    refine w_lene H (x := (6 : Int32)) (pc' := 21) (L' := [(0, .ref 0), (1, .ref 39), (2, .ref 143), (3, .int (6 : Int32))]) h_m1000 (z_at.mk 1 rfl rfl) (by decide) rfl (by decide) rfl rfl rfl ?_
    refine w_p h_m1000 4 (pc' := 1381) (L' := [(0, .ref 0), (1, .ref 39), (2, .ref 143), (3, .int (6 : Int32))]) (st' := [.int (1 : Int32)]) rfl ?_
    refine w_ri h_m1000 (z_at.mk 1 rfl rfl) rfl rfl ?_
    exact hQ _ _ _ _ H (by decide) (by decide)
  by_cases c_5 : (xs 1).toInt = 4
  · refine w_sw (off := 107) (pc' := 108) (L' := [(0, .ref 39), (1, .int (xs 1))]) h_m140 (z_at.mk 59 rfl rfl) (z_off_v (v := 4) c_5 (by decide)) rfl rfl rfl ?_
    refine w_p h_m140 1 (pc' := 109) (L' := [(0, .ref 39), (1, .int (xs 1))]) (st' := [.ref 39]) rfl ?_
    refine w_gf H (pc' := 112) (L' := [(0, .ref 39), (1, .int (xs 1))]) h_m140 (z_at.mk 3 rfl rfl) rfl (u := .ref 40) rfl rfl rfl ?_
    refine w_gf H (pc' := 115) (L' := [(0, .ref 39), (1, .int (xs 1))]) h_m140 (z_at.mk 3 rfl rfl) rfl (u := .ref 48) rfl rfl rfl ?_
    refine w_gf H (pc' := 118) (L' := [(0, .ref 39), (1, .int (xs 1))]) h_m140 (z_at.mk 3 rfl rfl) rfl (u := .int (0 : Int32)) rfl rfl rfl ?_
    refine w_p h_m140 1 (pc' := 119) (L' := [(0, .ref 39), (1, .int (xs 1))]) (st' := [.long (0 : Int64)]) rfl ?_
    refine w_rl h_m140 (z_at.mk 1 rfl rfl) rfl ?_
    show z_W 1000 1000 809 [(0, .ref 0), (1, .ref 39), (2, .ref 143), (3, .int (0 : Int32))] [.long (0 : Int64)] m _
    refine w_p h_m1000 5 (pc' := 814) (L' := [(0, .ref 0), (1, .ref 39), (2, .ref 143), (3, .int (0 : Int32))]) (st' := [.int (1 : Int32), .ref 0, .ref 143, .long (0 : Int64)]) rfl ?_
    refine w_ae H (j := 1) (pc' := 815) (L' := [(0, .ref 0), (1, .ref 39), (2, .ref 143), (3, .int (0 : Int32))]) h_m1000 (z_at.mk 1 rfl rfl) rfl rfl rfl (by decide) rfl (by decide) rfl rfl rfl ?_
    refine w_cv (H.t rfl) (pc' := 818) (L' := [(0, .ref 0), (1, .ref 39), (2, .ref 143), (3, .int (0 : Int32))]) (rest := [.long (0 : Int64)]) (Ps := [.int (xs 1)]) (L0 := [(0, .ref 143), (1, .int (xs 1))]) h_m1000 (z_at.mk 3 rfl rfl) (Or.inl ⟨rfl, rfl⟩) rfl rfl (by decide) (by decide) rfl rfl rfl rfl rfl rfl (by decide) rfl rfl rfl ?_
    refine w_p h_m251 1 (pc' := 1) (L' := [(0, .ref 143), (1, .int (xs 1))]) (st' := [.int (xs 1)]) rfl ?_
    refine w_t1 (pc' := 14) (L' := [(0, .ref 143), (1, .int (xs 1))]) h_m251 (z_at.mk 3 rfl rfl) rfl (zc (a := (xs 1).toInt) (b := 0) rfl rfl (decide_eq_true (by omega))) rfl rfl ?_
    refine w_p h_m251 2 (pc' := 16) (L' := [(0, .ref 143), (1, .int (xs 1))]) (st' := [.int (1 : Int32), .int (xs 1)]) rfl ?_
    refine w_t2 (pc' := 27) (L' := [(0, .ref 143), (1, .int (xs 1))]) h_m251 (z_at.mk 3 rfl rfl) rfl (zc (a := (xs 1).toInt) (b := 1) rfl rfl (decide_eq_true (by omega))) rfl rfl ?_
    refine w_p h_m251 3 (pc' := 31) (L' := [(0, .ref 143), (1, .int (xs 1))]) (st' := [.int (7 : Int32), .int (2 : Int32), .int (xs 1)]) rfl ?_
    refine w_cs (As := [.int (xs 1), .int (2 : Int32), .int (7 : Int32)]) (rest := []) (j := 159) (L0 := [(0, .int (xs 1)), (1, .int (2 : Int32)), (2, .int (7 : Int32))]) (pc' := 34) (L' := [(0, .ref 143), (1, .int (xs 1))]) h_m251 (z_at.mk 3 rfl rfl) (Or.inl ⟨rfl, rfl⟩) rfl rfl rfl rfl rfl ?_
    refine w_p h_m159 2 (pc' := 2) (L' := [(0, .int (xs 1)), (1, .int (2 : Int32)), (2, .int (7 : Int32))]) (st' := [.int (2 : Int32), .int (xs 1)]) rfl ?_
    refine w_f2 (pc' := 5) (L' := [(0, .int (xs 1)), (1, .int (2 : Int32)), (2, .int (7 : Int32))]) h_m159 (z_at.mk 3 rfl rfl) rfl (zc (a := (xs 1).toInt) (b := 2) rfl rfl (decide_eq_false (by omega))) rfl rfl ?_
    refine w_p h_m159 2 (pc' := 7) (L' := [(0, .int (xs 1)), (1, .int (2 : Int32)), (2, .int (7 : Int32))]) (st' := [.int (7 : Int32), .int (xs 1)]) rfl ?_
    refine w_f2 (pc' := 10) (L' := [(0, .int (xs 1)), (1, .int (2 : Int32)), (2, .int (7 : Int32))]) h_m159 (z_at.mk 3 rfl rfl) rfl (zc (a := (xs 1).toInt) (b := 7) rfl rfl (decide_eq_false (by omega))) rfl rfl ?_
    refine w_p h_m159 2 (pc' := 15) (L' := []) (st' := [.int (1 : Int32)]) rfl ?_
    refine w_ri h_m159 (z_at.mk 1 rfl rfl) rfl rfl ?_
    show z_W 999 251 34 [(0, .ref 143), (1, .int (xs 1))] [.int (1 : Int32)] m _
    refine w_p h_m251 2 (pc' := 38) (L' := [(0, .ref 143), (1, .int (xs 1))]) (st' := [.ref 143]) rfl ?_
    refine w_gf H (pc' := 41) (L' := [(0, .ref 143), (1, .int (xs 1))]) h_m251 (z_at.mk 3 rfl rfl) rfl (u := .ref 144) rfl rfl rfl ?_
    refine w_p h_m251 5 (pc' := 46) (L' := [(0, .ref 143), (1, .int (xs 1))]) (st' := [.int (((2 : Int32) + (xs 1)) - (2 : Int32)), .ref 144]) rfl ?_
    refine w_alx H (t := 0) (n := 2740) (ov := [(17, .int (1024 : Int32)), (16, .int (1 : Int32)), (15, .int (1 : Int32)), (13, .int (12 : Int32)), (12, .int (40 : Int32)), (11, .int (10 : Int32))]) (c := (xs 1).toInt) (u := .int (0 : Int32)) (pc' := 47) (L' := [(0, .ref 143), (1, .int (xs 1))]) h_m251 (z_at.mk 1 rfl rfl) rfl rfl (zi_sub (a := (xs 1).toInt + 2) (b := 2) (c := (xs 1).toInt) (zi_add (a := 2) (b := (xs 1).toInt) (c := (xs 1).toInt + 2) rfl rfl (by omega) (by omega) (by omega)) rfl (by omega) (by omega) (by omega)) (by omega) (by omega) rfl (w_av_c (by omega) (w_av_c (by omega) (w_av_c (by omega) (w_av_c (by omega) (w_av_c (by omega) (w_av_c (by omega) (w_av_n))))))) rfl rfl ?_
    refine w_p h_m251 2 (pc' := 97) (L' := []) (st' := [.long (0 : Int64)]) rfl ?_
    refine w_rl h_m251 (z_at.mk 1 rfl rfl) rfl ?_
    show z_W 1000 1000 818 [(0, .ref 0), (1, .ref 39), (2, .ref 143), (3, .int (0 : Int32))] [.long (0 : Int64), .long (0 : Int64)] m _
    refine w_p h_m1000 6 (pc' := 20) (L' := [(0, .ref 0), (1, .ref 39), (2, .ref 143), (3, .int (6 : Int32))]) (st' := [.ref 0, .int (6 : Int32)]) rfl ?_
    refine w_lene H (x := (6 : Int32)) (pc' := 21) (L' := [(0, .ref 0), (1, .ref 39), (2, .ref 143), (3, .int (6 : Int32))]) h_m1000 (z_at.mk 1 rfl rfl) (by decide) rfl (by decide) rfl rfl rfl ?_
    refine w_p h_m1000 4 (pc' := 1381) (L' := [(0, .ref 0), (1, .ref 39), (2, .ref 143), (3, .int (6 : Int32))]) (st' := [.int (1 : Int32)]) rfl ?_
    refine w_ri h_m1000 (z_at.mk 1 rfl rfl) rfl rfl ?_
    exact hQ _ _ _ _ H (by decide) (by decide)
  by_cases c_6 : (xs 1).toInt = 5
  · refine w_sw (off := 119) (pc' := 120) (L' := [(0, .ref 39), (1, .int (xs 1))]) h_m140 (z_at.mk 59 rfl rfl) (z_off_v (v := 5) c_6 (by decide)) rfl rfl rfl ?_
    refine w_p h_m140 1 (pc' := 121) (L' := [(0, .ref 39), (1, .int (xs 1))]) (st' := [.ref 39]) rfl ?_
    refine w_gf H (pc' := 124) (L' := [(0, .ref 39), (1, .int (xs 1))]) h_m140 (z_at.mk 3 rfl rfl) rfl (u := .ref 40) rfl rfl rfl ?_
    refine w_gf H (pc' := 127) (L' := [(0, .ref 39), (1, .int (xs 1))]) h_m140 (z_at.mk 3 rfl rfl) rfl (u := .ref 48) rfl rfl rfl ?_
    refine w_gf H (pc' := 130) (L' := [(0, .ref 39), (1, .int (xs 1))]) h_m140 (z_at.mk 3 rfl rfl) rfl (u := .int (0 : Int32)) rfl rfl rfl ?_
    refine w_p h_m140 1 (pc' := 131) (L' := [(0, .ref 39), (1, .int (xs 1))]) (st' := [.long (0 : Int64)]) rfl ?_
    refine w_rl h_m140 (z_at.mk 1 rfl rfl) rfl ?_
    show z_W 1000 1000 809 [(0, .ref 0), (1, .ref 39), (2, .ref 143), (3, .int (0 : Int32))] [.long (0 : Int64)] m _
    refine w_p h_m1000 5 (pc' := 814) (L' := [(0, .ref 0), (1, .ref 39), (2, .ref 143), (3, .int (0 : Int32))]) (st' := [.int (1 : Int32), .ref 0, .ref 143, .long (0 : Int64)]) rfl ?_
    refine w_ae H (j := 1) (pc' := 815) (L' := [(0, .ref 0), (1, .ref 39), (2, .ref 143), (3, .int (0 : Int32))]) h_m1000 (z_at.mk 1 rfl rfl) rfl rfl rfl (by decide) rfl (by decide) rfl rfl rfl ?_
    refine w_cv (H.t rfl) (pc' := 818) (L' := [(0, .ref 0), (1, .ref 39), (2, .ref 143), (3, .int (0 : Int32))]) (rest := [.long (0 : Int64)]) (Ps := [.int (xs 1)]) (L0 := [(0, .ref 143), (1, .int (xs 1))]) h_m1000 (z_at.mk 3 rfl rfl) (Or.inl ⟨rfl, rfl⟩) rfl rfl (by decide) (by decide) rfl rfl rfl rfl rfl rfl (by decide) rfl rfl rfl ?_
    refine w_p h_m251 1 (pc' := 1) (L' := [(0, .ref 143), (1, .int (xs 1))]) (st' := [.int (xs 1)]) rfl ?_
    refine w_t1 (pc' := 14) (L' := [(0, .ref 143), (1, .int (xs 1))]) h_m251 (z_at.mk 3 rfl rfl) rfl (zc (a := (xs 1).toInt) (b := 0) rfl rfl (decide_eq_true (by omega))) rfl rfl ?_
    refine w_p h_m251 2 (pc' := 16) (L' := [(0, .ref 143), (1, .int (xs 1))]) (st' := [.int (1 : Int32), .int (xs 1)]) rfl ?_
    refine w_t2 (pc' := 27) (L' := [(0, .ref 143), (1, .int (xs 1))]) h_m251 (z_at.mk 3 rfl rfl) rfl (zc (a := (xs 1).toInt) (b := 1) rfl rfl (decide_eq_true (by omega))) rfl rfl ?_
    refine w_p h_m251 3 (pc' := 31) (L' := [(0, .ref 143), (1, .int (xs 1))]) (st' := [.int (7 : Int32), .int (2 : Int32), .int (xs 1)]) rfl ?_
    refine w_cs (As := [.int (xs 1), .int (2 : Int32), .int (7 : Int32)]) (rest := []) (j := 159) (L0 := [(0, .int (xs 1)), (1, .int (2 : Int32)), (2, .int (7 : Int32))]) (pc' := 34) (L' := [(0, .ref 143), (1, .int (xs 1))]) h_m251 (z_at.mk 3 rfl rfl) (Or.inl ⟨rfl, rfl⟩) rfl rfl rfl rfl rfl ?_
    refine w_p h_m159 2 (pc' := 2) (L' := [(0, .int (xs 1)), (1, .int (2 : Int32)), (2, .int (7 : Int32))]) (st' := [.int (2 : Int32), .int (xs 1)]) rfl ?_
    refine w_f2 (pc' := 5) (L' := [(0, .int (xs 1)), (1, .int (2 : Int32)), (2, .int (7 : Int32))]) h_m159 (z_at.mk 3 rfl rfl) rfl (zc (a := (xs 1).toInt) (b := 2) rfl rfl (decide_eq_false (by omega))) rfl rfl ?_
    refine w_p h_m159 2 (pc' := 7) (L' := [(0, .int (xs 1)), (1, .int (2 : Int32)), (2, .int (7 : Int32))]) (st' := [.int (7 : Int32), .int (xs 1)]) rfl ?_
    refine w_f2 (pc' := 10) (L' := [(0, .int (xs 1)), (1, .int (2 : Int32)), (2, .int (7 : Int32))]) h_m159 (z_at.mk 3 rfl rfl) rfl (zc (a := (xs 1).toInt) (b := 7) rfl rfl (decide_eq_false (by omega))) rfl rfl ?_
    refine w_p h_m159 2 (pc' := 15) (L' := []) (st' := [.int (1 : Int32)]) rfl ?_
    refine w_ri h_m159 (z_at.mk 1 rfl rfl) rfl rfl ?_
    show z_W 999 251 34 [(0, .ref 143), (1, .int (xs 1))] [.int (1 : Int32)] m _
    refine w_p h_m251 2 (pc' := 38) (L' := [(0, .ref 143), (1, .int (xs 1))]) (st' := [.ref 143]) rfl ?_
    refine w_gf H (pc' := 41) (L' := [(0, .ref 143), (1, .int (xs 1))]) h_m251 (z_at.mk 3 rfl rfl) rfl (u := .ref 144) rfl rfl rfl ?_
    refine w_p h_m251 5 (pc' := 46) (L' := [(0, .ref 143), (1, .int (xs 1))]) (st' := [.int (((2 : Int32) + (xs 1)) - (2 : Int32)), .ref 144]) rfl ?_
    refine w_alx H (t := 0) (n := 2740) (ov := [(17, .int (1024 : Int32)), (16, .int (1 : Int32)), (15, .int (1 : Int32)), (13, .int (12 : Int32)), (12, .int (40 : Int32)), (11, .int (10 : Int32))]) (c := (xs 1).toInt) (u := .int (0 : Int32)) (pc' := 47) (L' := [(0, .ref 143), (1, .int (xs 1))]) h_m251 (z_at.mk 1 rfl rfl) rfl rfl (zi_sub (a := (xs 1).toInt + 2) (b := 2) (c := (xs 1).toInt) (zi_add (a := 2) (b := (xs 1).toInt) (c := (xs 1).toInt + 2) rfl rfl (by omega) (by omega) (by omega)) rfl (by omega) (by omega) (by omega)) (by omega) (by omega) rfl (w_av_c (by omega) (w_av_c (by omega) (w_av_c (by omega) (w_av_c (by omega) (w_av_c (by omega) (w_av_c (by omega) (w_av_n))))))) rfl rfl ?_
    refine w_p h_m251 2 (pc' := 97) (L' := []) (st' := [.long (0 : Int64)]) rfl ?_
    refine w_rl h_m251 (z_at.mk 1 rfl rfl) rfl ?_
    show z_W 1000 1000 818 [(0, .ref 0), (1, .ref 39), (2, .ref 143), (3, .int (0 : Int32))] [.long (0 : Int64), .long (0 : Int64)] m _
    refine w_p h_m1000 6 (pc' := 20) (L' := [(0, .ref 0), (1, .ref 39), (2, .ref 143), (3, .int (6 : Int32))]) (st' := [.ref 0, .int (6 : Int32)]) rfl ?_
    refine w_lene H (x := (6 : Int32)) (pc' := 21) (L' := [(0, .ref 0), (1, .ref 39), (2, .ref 143), (3, .int (6 : Int32))]) h_m1000 (z_at.mk 1 rfl rfl) (by decide) rfl (by decide) rfl rfl rfl ?_
    refine w_p h_m1000 4 (pc' := 1381) (L' := [(0, .ref 0), (1, .ref 39), (2, .ref 143), (3, .int (6 : Int32))]) (st' := [.int (1 : Int32)]) rfl ?_
    refine w_ri h_m1000 (z_at.mk 1 rfl rfl) rfl rfl ?_
    exact hQ _ _ _ _ H (by decide) (by decide)
  by_cases c_7 : (xs 1).toInt = 6
  · refine w_sw (off := 131) (pc' := 132) (L' := [(0, .ref 39), (1, .int (xs 1))]) h_m140 (z_at.mk 59 rfl rfl) (z_off_v (v := 6) c_7 (by decide)) rfl rfl rfl ?_
    refine w_p h_m140 1 (pc' := 133) (L' := [(0, .ref 39), (1, .int (xs 1))]) (st' := [.ref 39]) rfl ?_
    refine w_gf H (pc' := 136) (L' := [(0, .ref 39), (1, .int (xs 1))]) h_m140 (z_at.mk 3 rfl rfl) rfl (u := .ref 40) rfl rfl rfl ?_
    refine w_gf H (pc' := 139) (L' := [(0, .ref 39), (1, .int (xs 1))]) h_m140 (z_at.mk 3 rfl rfl) rfl (u := .ref 48) rfl rfl rfl ?_
    refine w_gf H (pc' := 142) (L' := [(0, .ref 39), (1, .int (xs 1))]) h_m140 (z_at.mk 3 rfl rfl) rfl (u := .int (0 : Int32)) rfl rfl rfl ?_
    refine w_p h_m140 1 (pc' := 143) (L' := [(0, .ref 39), (1, .int (xs 1))]) (st' := [.long (0 : Int64)]) rfl ?_
    refine w_rl h_m140 (z_at.mk 1 rfl rfl) rfl ?_
    show z_W 1000 1000 809 [(0, .ref 0), (1, .ref 39), (2, .ref 143), (3, .int (0 : Int32))] [.long (0 : Int64)] m _
    refine w_p h_m1000 5 (pc' := 814) (L' := [(0, .ref 0), (1, .ref 39), (2, .ref 143), (3, .int (0 : Int32))]) (st' := [.int (1 : Int32), .ref 0, .ref 143, .long (0 : Int64)]) rfl ?_
    refine w_ae H (j := 1) (pc' := 815) (L' := [(0, .ref 0), (1, .ref 39), (2, .ref 143), (3, .int (0 : Int32))]) h_m1000 (z_at.mk 1 rfl rfl) rfl rfl rfl (by decide) rfl (by decide) rfl rfl rfl ?_
    refine w_cv (H.t rfl) (pc' := 818) (L' := [(0, .ref 0), (1, .ref 39), (2, .ref 143), (3, .int (0 : Int32))]) (rest := [.long (0 : Int64)]) (Ps := [.int (xs 1)]) (L0 := [(0, .ref 143), (1, .int (xs 1))]) h_m1000 (z_at.mk 3 rfl rfl) (Or.inl ⟨rfl, rfl⟩) rfl rfl (by decide) (by decide) rfl rfl rfl rfl rfl rfl (by decide) rfl rfl rfl ?_
    refine w_p h_m251 1 (pc' := 1) (L' := [(0, .ref 143), (1, .int (xs 1))]) (st' := [.int (xs 1)]) rfl ?_
    refine w_t1 (pc' := 14) (L' := [(0, .ref 143), (1, .int (xs 1))]) h_m251 (z_at.mk 3 rfl rfl) rfl (zc (a := (xs 1).toInt) (b := 0) rfl rfl (decide_eq_true (by omega))) rfl rfl ?_
    refine w_p h_m251 2 (pc' := 16) (L' := [(0, .ref 143), (1, .int (xs 1))]) (st' := [.int (1 : Int32), .int (xs 1)]) rfl ?_
    refine w_t2 (pc' := 27) (L' := [(0, .ref 143), (1, .int (xs 1))]) h_m251 (z_at.mk 3 rfl rfl) rfl (zc (a := (xs 1).toInt) (b := 1) rfl rfl (decide_eq_true (by omega))) rfl rfl ?_
    refine w_p h_m251 3 (pc' := 31) (L' := [(0, .ref 143), (1, .int (xs 1))]) (st' := [.int (7 : Int32), .int (2 : Int32), .int (xs 1)]) rfl ?_
    refine w_cs (As := [.int (xs 1), .int (2 : Int32), .int (7 : Int32)]) (rest := []) (j := 159) (L0 := [(0, .int (xs 1)), (1, .int (2 : Int32)), (2, .int (7 : Int32))]) (pc' := 34) (L' := [(0, .ref 143), (1, .int (xs 1))]) h_m251 (z_at.mk 3 rfl rfl) (Or.inl ⟨rfl, rfl⟩) rfl rfl rfl rfl rfl ?_
    refine w_p h_m159 2 (pc' := 2) (L' := [(0, .int (xs 1)), (1, .int (2 : Int32)), (2, .int (7 : Int32))]) (st' := [.int (2 : Int32), .int (xs 1)]) rfl ?_
    refine w_f2 (pc' := 5) (L' := [(0, .int (xs 1)), (1, .int (2 : Int32)), (2, .int (7 : Int32))]) h_m159 (z_at.mk 3 rfl rfl) rfl (zc (a := (xs 1).toInt) (b := 2) rfl rfl (decide_eq_false (by omega))) rfl rfl ?_
    refine w_p h_m159 2 (pc' := 7) (L' := [(0, .int (xs 1)), (1, .int (2 : Int32)), (2, .int (7 : Int32))]) (st' := [.int (7 : Int32), .int (xs 1)]) rfl ?_
    refine w_f2 (pc' := 10) (L' := [(0, .int (xs 1)), (1, .int (2 : Int32)), (2, .int (7 : Int32))]) h_m159 (z_at.mk 3 rfl rfl) rfl (zc (a := (xs 1).toInt) (b := 7) rfl rfl (decide_eq_false (by omega))) rfl rfl ?_
    refine w_p h_m159 2 (pc' := 15) (L' := []) (st' := [.int (1 : Int32)]) rfl ?_
    refine w_ri h_m159 (z_at.mk 1 rfl rfl) rfl rfl ?_
    show z_W 999 251 34 [(0, .ref 143), (1, .int (xs 1))] [.int (1 : Int32)] m _
    refine w_p h_m251 2 (pc' := 38) (L' := [(0, .ref 143), (1, .int (xs 1))]) (st' := [.ref 143]) rfl ?_
    refine w_gf H (pc' := 41) (L' := [(0, .ref 143), (1, .int (xs 1))]) h_m251 (z_at.mk 3 rfl rfl) rfl (u := .ref 144) rfl rfl rfl ?_
    refine w_p h_m251 5 (pc' := 46) (L' := [(0, .ref 143), (1, .int (xs 1))]) (st' := [.int (((2 : Int32) + (xs 1)) - (2 : Int32)), .ref 144]) rfl ?_
    refine w_alx H (t := 0) (n := 2740) (ov := [(17, .int (1024 : Int32)), (16, .int (1 : Int32)), (15, .int (1 : Int32)), (13, .int (12 : Int32)), (12, .int (40 : Int32)), (11, .int (10 : Int32))]) (c := (xs 1).toInt) (u := .int (0 : Int32)) (pc' := 47) (L' := [(0, .ref 143), (1, .int (xs 1))]) h_m251 (z_at.mk 1 rfl rfl) rfl rfl (zi_sub (a := (xs 1).toInt + 2) (b := 2) (c := (xs 1).toInt) (zi_add (a := 2) (b := (xs 1).toInt) (c := (xs 1).toInt + 2) rfl rfl (by omega) (by omega) (by omega)) rfl (by omega) (by omega) (by omega)) (by omega) (by omega) rfl (w_av_c (by omega) (w_av_c (by omega) (w_av_c (by omega) (w_av_c (by omega) (w_av_c (by omega) (w_av_c (by omega) (w_av_n))))))) rfl rfl ?_
    refine w_p h_m251 2 (pc' := 97) (L' := []) (st' := [.long (0 : Int64)]) rfl ?_
    refine w_rl h_m251 (z_at.mk 1 rfl rfl) rfl ?_
    show z_W 1000 1000 818 [(0, .ref 0), (1, .ref 39), (2, .ref 143), (3, .int (0 : Int32))] [.long (0 : Int64), .long (0 : Int64)] m _
    refine w_p h_m1000 6 (pc' := 20) (L' := [(0, .ref 0), (1, .ref 39), (2, .ref 143), (3, .int (6 : Int32))]) (st' := [.ref 0, .int (6 : Int32)]) rfl ?_
    refine w_lene H (x := (6 : Int32)) (pc' := 21) (L' := [(0, .ref 0), (1, .ref 39), (2, .ref 143), (3, .int (6 : Int32))]) h_m1000 (z_at.mk 1 rfl rfl) (by decide) rfl (by decide) rfl rfl rfl ?_
    refine w_p h_m1000 4 (pc' := 1381) (L' := [(0, .ref 0), (1, .ref 39), (2, .ref 143), (3, .int (6 : Int32))]) (st' := [.int (1 : Int32)]) rfl ?_
    refine w_ri h_m1000 (z_at.mk 1 rfl rfl) rfl rfl ?_
    exact hQ _ _ _ _ H (by decide) (by decide)
  by_cases c_8 : (xs 1).toInt = 7
  · refine w_sw (off := 143) (pc' := 144) (L' := [(0, .ref 39), (1, .int (xs 1))]) h_m140 (z_at.mk 59 rfl rfl) (z_off_v (v := 7) c_8 (by decide)) rfl rfl rfl ?_
    refine w_p h_m140 1 (pc' := 145) (L' := [(0, .ref 39), (1, .int (xs 1))]) (st' := [.ref 39]) rfl ?_
    refine w_gf H (pc' := 148) (L' := [(0, .ref 39), (1, .int (xs 1))]) h_m140 (z_at.mk 3 rfl rfl) rfl (u := .ref 40) rfl rfl rfl ?_
    refine w_gf H (pc' := 151) (L' := [(0, .ref 39), (1, .int (xs 1))]) h_m140 (z_at.mk 3 rfl rfl) rfl (u := .ref 48) rfl rfl rfl ?_
    refine w_gf H (pc' := 154) (L' := [(0, .ref 39), (1, .int (xs 1))]) h_m140 (z_at.mk 3 rfl rfl) rfl (u := .int (0 : Int32)) rfl rfl rfl ?_
    refine w_p h_m140 1 (pc' := 155) (L' := [(0, .ref 39), (1, .int (xs 1))]) (st' := [.long (0 : Int64)]) rfl ?_
    refine w_rl h_m140 (z_at.mk 1 rfl rfl) rfl ?_
    show z_W 1000 1000 809 [(0, .ref 0), (1, .ref 39), (2, .ref 143), (3, .int (0 : Int32))] [.long (0 : Int64)] m _
    refine w_p h_m1000 5 (pc' := 814) (L' := [(0, .ref 0), (1, .ref 39), (2, .ref 143), (3, .int (0 : Int32))]) (st' := [.int (1 : Int32), .ref 0, .ref 143, .long (0 : Int64)]) rfl ?_
    refine w_ae H (j := 1) (pc' := 815) (L' := [(0, .ref 0), (1, .ref 39), (2, .ref 143), (3, .int (0 : Int32))]) h_m1000 (z_at.mk 1 rfl rfl) rfl rfl rfl (by decide) rfl (by decide) rfl rfl rfl ?_
    refine w_cv (H.t rfl) (pc' := 818) (L' := [(0, .ref 0), (1, .ref 39), (2, .ref 143), (3, .int (0 : Int32))]) (rest := [.long (0 : Int64)]) (Ps := [.int (xs 1)]) (L0 := [(0, .ref 143), (1, .int (xs 1))]) h_m1000 (z_at.mk 3 rfl rfl) (Or.inl ⟨rfl, rfl⟩) rfl rfl (by decide) (by decide) rfl rfl rfl rfl rfl rfl (by decide) rfl rfl rfl ?_
    refine w_p h_m251 1 (pc' := 1) (L' := [(0, .ref 143), (1, .int (xs 1))]) (st' := [.int (xs 1)]) rfl ?_
    refine w_t1 (pc' := 14) (L' := [(0, .ref 143), (1, .int (xs 1))]) h_m251 (z_at.mk 3 rfl rfl) rfl (zc (a := (xs 1).toInt) (b := 0) rfl rfl (decide_eq_true (by omega))) rfl rfl ?_
    refine w_p h_m251 2 (pc' := 16) (L' := [(0, .ref 143), (1, .int (xs 1))]) (st' := [.int (1 : Int32), .int (xs 1)]) rfl ?_
    refine w_t2 (pc' := 27) (L' := [(0, .ref 143), (1, .int (xs 1))]) h_m251 (z_at.mk 3 rfl rfl) rfl (zc (a := (xs 1).toInt) (b := 1) rfl rfl (decide_eq_true (by omega))) rfl rfl ?_
    refine w_p h_m251 3 (pc' := 31) (L' := [(0, .ref 143), (1, .int (xs 1))]) (st' := [.int (7 : Int32), .int (2 : Int32), .int (xs 1)]) rfl ?_
    refine w_cs (As := [.int (xs 1), .int (2 : Int32), .int (7 : Int32)]) (rest := []) (j := 159) (L0 := [(0, .int (xs 1)), (1, .int (2 : Int32)), (2, .int (7 : Int32))]) (pc' := 34) (L' := [(0, .ref 143), (1, .int (xs 1))]) h_m251 (z_at.mk 3 rfl rfl) (Or.inl ⟨rfl, rfl⟩) rfl rfl rfl rfl rfl ?_
    refine w_p h_m159 2 (pc' := 2) (L' := [(0, .int (xs 1)), (1, .int (2 : Int32)), (2, .int (7 : Int32))]) (st' := [.int (2 : Int32), .int (xs 1)]) rfl ?_
    refine w_f2 (pc' := 5) (L' := [(0, .int (xs 1)), (1, .int (2 : Int32)), (2, .int (7 : Int32))]) h_m159 (z_at.mk 3 rfl rfl) rfl (zc (a := (xs 1).toInt) (b := 2) rfl rfl (decide_eq_false (by omega))) rfl rfl ?_
    refine w_p h_m159 2 (pc' := 7) (L' := [(0, .int (xs 1)), (1, .int (2 : Int32)), (2, .int (7 : Int32))]) (st' := [.int (7 : Int32), .int (xs 1)]) rfl ?_
    refine w_f2 (pc' := 10) (L' := [(0, .int (xs 1)), (1, .int (2 : Int32)), (2, .int (7 : Int32))]) h_m159 (z_at.mk 3 rfl rfl) rfl (zc (a := (xs 1).toInt) (b := 7) rfl rfl (decide_eq_false (by omega))) rfl rfl ?_
    refine w_p h_m159 2 (pc' := 15) (L' := []) (st' := [.int (1 : Int32)]) rfl ?_
    refine w_ri h_m159 (z_at.mk 1 rfl rfl) rfl rfl ?_
    show z_W 999 251 34 [(0, .ref 143), (1, .int (xs 1))] [.int (1 : Int32)] m _
    refine w_p h_m251 2 (pc' := 38) (L' := [(0, .ref 143), (1, .int (xs 1))]) (st' := [.ref 143]) rfl ?_
    refine w_gf H (pc' := 41) (L' := [(0, .ref 143), (1, .int (xs 1))]) h_m251 (z_at.mk 3 rfl rfl) rfl (u := .ref 144) rfl rfl rfl ?_
    refine w_p h_m251 5 (pc' := 46) (L' := [(0, .ref 143), (1, .int (xs 1))]) (st' := [.int (((2 : Int32) + (xs 1)) - (2 : Int32)), .ref 144]) rfl ?_
    refine w_alx H (t := 0) (n := 2740) (ov := [(17, .int (1024 : Int32)), (16, .int (1 : Int32)), (15, .int (1 : Int32)), (13, .int (12 : Int32)), (12, .int (40 : Int32)), (11, .int (10 : Int32))]) (c := (xs 1).toInt) (u := .int (0 : Int32)) (pc' := 47) (L' := [(0, .ref 143), (1, .int (xs 1))]) h_m251 (z_at.mk 1 rfl rfl) rfl rfl (zi_sub (a := (xs 1).toInt + 2) (b := 2) (c := (xs 1).toInt) (zi_add (a := 2) (b := (xs 1).toInt) (c := (xs 1).toInt + 2) rfl rfl (by omega) (by omega) (by omega)) rfl (by omega) (by omega) (by omega)) (by omega) (by omega) rfl (w_av_c (by omega) (w_av_c (by omega) (w_av_c (by omega) (w_av_c (by omega) (w_av_c (by omega) (w_av_c (by omega) (w_av_n))))))) rfl rfl ?_
    refine w_p h_m251 2 (pc' := 97) (L' := []) (st' := [.long (0 : Int64)]) rfl ?_
    refine w_rl h_m251 (z_at.mk 1 rfl rfl) rfl ?_
    show z_W 1000 1000 818 [(0, .ref 0), (1, .ref 39), (2, .ref 143), (3, .int (0 : Int32))] [.long (0 : Int64), .long (0 : Int64)] m _
    refine w_p h_m1000 6 (pc' := 20) (L' := [(0, .ref 0), (1, .ref 39), (2, .ref 143), (3, .int (6 : Int32))]) (st' := [.ref 0, .int (6 : Int32)]) rfl ?_
    refine w_lene H (x := (6 : Int32)) (pc' := 21) (L' := [(0, .ref 0), (1, .ref 39), (2, .ref 143), (3, .int (6 : Int32))]) h_m1000 (z_at.mk 1 rfl rfl) (by decide) rfl (by decide) rfl rfl rfl ?_
    refine w_p h_m1000 4 (pc' := 1381) (L' := [(0, .ref 0), (1, .ref 39), (2, .ref 143), (3, .int (6 : Int32))]) (st' := [.int (1 : Int32)]) rfl ?_
    refine w_ri h_m1000 (z_at.mk 1 rfl rfl) rfl rfl ?_
    exact hQ _ _ _ _ H (by decide) (by decide)
  by_cases c_9 : (xs 1).toInt = 8
  · refine w_sw (off := 155) (pc' := 156) (L' := [(0, .ref 39), (1, .int (xs 1))]) h_m140 (z_at.mk 59 rfl rfl) (z_off_v (v := 8) c_9 (by decide)) rfl rfl rfl ?_
    refine w_p h_m140 1 (pc' := 157) (L' := [(0, .ref 39), (1, .int (xs 1))]) (st' := [.ref 39]) rfl ?_
    refine w_gf H (pc' := 160) (L' := [(0, .ref 39), (1, .int (xs 1))]) h_m140 (z_at.mk 3 rfl rfl) rfl (u := .ref 40) rfl rfl rfl ?_
    refine w_gf H (pc' := 163) (L' := [(0, .ref 39), (1, .int (xs 1))]) h_m140 (z_at.mk 3 rfl rfl) rfl (u := .ref 48) rfl rfl rfl ?_
    refine w_gf H (pc' := 166) (L' := [(0, .ref 39), (1, .int (xs 1))]) h_m140 (z_at.mk 3 rfl rfl) rfl (u := .long (0 : Int64)) rfl rfl rfl ?_
    refine w_rl h_m140 (z_at.mk 1 rfl rfl) rfl ?_
    show z_W 1000 1000 809 [(0, .ref 0), (1, .ref 39), (2, .ref 143), (3, .int (0 : Int32))] [.long (0 : Int64)] m _
    refine w_p h_m1000 5 (pc' := 814) (L' := [(0, .ref 0), (1, .ref 39), (2, .ref 143), (3, .int (0 : Int32))]) (st' := [.int (1 : Int32), .ref 0, .ref 143, .long (0 : Int64)]) rfl ?_
    refine w_ae H (j := 1) (pc' := 815) (L' := [(0, .ref 0), (1, .ref 39), (2, .ref 143), (3, .int (0 : Int32))]) h_m1000 (z_at.mk 1 rfl rfl) rfl rfl rfl (by decide) rfl (by decide) rfl rfl rfl ?_
    refine w_cv (H.t rfl) (pc' := 818) (L' := [(0, .ref 0), (1, .ref 39), (2, .ref 143), (3, .int (0 : Int32))]) (rest := [.long (0 : Int64)]) (Ps := [.int (xs 1)]) (L0 := [(0, .ref 143), (1, .int (xs 1))]) h_m1000 (z_at.mk 3 rfl rfl) (Or.inl ⟨rfl, rfl⟩) rfl rfl (by decide) (by decide) rfl rfl rfl rfl rfl rfl (by decide) rfl rfl rfl ?_
    refine w_p h_m251 1 (pc' := 1) (L' := [(0, .ref 143), (1, .int (xs 1))]) (st' := [.int (xs 1)]) rfl ?_
    refine w_t1 (pc' := 14) (L' := [(0, .ref 143), (1, .int (xs 1))]) h_m251 (z_at.mk 3 rfl rfl) rfl (zc (a := (xs 1).toInt) (b := 0) rfl rfl (decide_eq_true (by omega))) rfl rfl ?_
    refine w_p h_m251 2 (pc' := 16) (L' := [(0, .ref 143), (1, .int (xs 1))]) (st' := [.int (1 : Int32), .int (xs 1)]) rfl ?_
    refine w_t2 (pc' := 27) (L' := [(0, .ref 143), (1, .int (xs 1))]) h_m251 (z_at.mk 3 rfl rfl) rfl (zc (a := (xs 1).toInt) (b := 1) rfl rfl (decide_eq_true (by omega))) rfl rfl ?_
    refine w_p h_m251 3 (pc' := 31) (L' := [(0, .ref 143), (1, .int (xs 1))]) (st' := [.int (7 : Int32), .int (2 : Int32), .int (xs 1)]) rfl ?_
    refine w_cs (As := [.int (xs 1), .int (2 : Int32), .int (7 : Int32)]) (rest := []) (j := 159) (L0 := [(0, .int (xs 1)), (1, .int (2 : Int32)), (2, .int (7 : Int32))]) (pc' := 34) (L' := [(0, .ref 143), (1, .int (xs 1))]) h_m251 (z_at.mk 3 rfl rfl) (Or.inl ⟨rfl, rfl⟩) rfl rfl rfl rfl rfl ?_
    refine w_p h_m159 2 (pc' := 2) (L' := [(0, .int (xs 1)), (1, .int (2 : Int32)), (2, .int (7 : Int32))]) (st' := [.int (2 : Int32), .int (xs 1)]) rfl ?_
    refine w_f2 (pc' := 5) (L' := [(0, .int (xs 1)), (1, .int (2 : Int32)), (2, .int (7 : Int32))]) h_m159 (z_at.mk 3 rfl rfl) rfl (zc (a := (xs 1).toInt) (b := 2) rfl rfl (decide_eq_false (by omega))) rfl rfl ?_
    refine w_p h_m159 2 (pc' := 7) (L' := [(0, .int (xs 1)), (1, .int (2 : Int32)), (2, .int (7 : Int32))]) (st' := [.int (7 : Int32), .int (xs 1)]) rfl ?_
    refine w_t2 (pc' := 14) (L' := []) h_m159 (z_at.mk 3 rfl rfl) rfl (zc (a := (xs 1).toInt) (b := 7) rfl rfl (decide_eq_true (by omega))) rfl rfl ?_
    refine w_p h_m159 1 (pc' := 15) (L' := []) (st' := [.int (0 : Int32)]) rfl ?_
    refine w_ri h_m159 (z_at.mk 1 rfl rfl) rfl rfl ?_
    show z_W 999 251 34 [(0, .ref 143), (1, .int (xs 1))] [.int (0 : Int32)] m _
    refine w_p h_m251 3 (pc' := 54) (L' := [(0, .ref 143), (1, .int (xs 1))]) (st' := [.int (8 : Int32), .int (xs 1)]) rfl ?_
    refine w_f2 (pc' := 57) (L' := [(0, .ref 143), (1, .int (xs 1))]) h_m251 (z_at.mk 3 rfl rfl) rfl (zc (a := (xs 1).toInt) (b := 8) rfl rfl (decide_eq_false (by omega))) rfl rfl ?_
    refine w_p h_m251 1 (pc' := 58) (L' := [(0, .ref 143), (1, .int (xs 1))]) (st' := [.ref 143]) rfl ?_
    refine w_gf H (pc' := 61) (L' := [(0, .ref 143), (1, .int (xs 1))]) h_m251 (z_at.mk 3 rfl rfl) rfl (u := .ref 147) rfl rfl rfl ?_
    refine w_p h_m251 1 (pc' := 62) (L' := [(0, .ref 143), (1, .int (xs 1))]) (st' := [.int (0 : Int32), .ref 147]) rfl ?_
    refine w_al H (t := 1) (j := 0) (pc' := 63) (L' := [(0, .ref 143), (1, .int (xs 1))]) h_m251 (z_at.mk 1 rfl rfl) rfl rfl rfl (u := .long (0 : Int64)) rfl rfl rfl ?_
    refine w_p h_m251 1 (pc' := 97) (L' := []) (st' := [.long (0 : Int64)]) rfl ?_
    refine w_rl h_m251 (z_at.mk 1 rfl rfl) rfl ?_
    show z_W 1000 1000 818 [(0, .ref 0), (1, .ref 39), (2, .ref 143), (3, .int (0 : Int32))] [.long (0 : Int64), .long (0 : Int64)] m _
    refine w_p h_m1000 6 (pc' := 20) (L' := [(0, .ref 0), (1, .ref 39), (2, .ref 143), (3, .int (6 : Int32))]) (st' := [.ref 0, .int (6 : Int32)]) rfl ?_
    refine w_lene H (x := (6 : Int32)) (pc' := 21) (L' := [(0, .ref 0), (1, .ref 39), (2, .ref 143), (3, .int (6 : Int32))]) h_m1000 (z_at.mk 1 rfl rfl) (by decide) rfl (by decide) rfl rfl rfl ?_
    refine w_p h_m1000 4 (pc' := 1381) (L' := [(0, .ref 0), (1, .ref 39), (2, .ref 143), (3, .int (6 : Int32))]) (st' := [.int (1 : Int32)]) rfl ?_
    refine w_ri h_m1000 (z_at.mk 1 rfl rfl) rfl rfl ?_
    exact hQ _ _ _ _ H (by decide) (by decide)
  by_cases c_10 : (xs 1).toInt = 9
  · refine w_sw (off := 166) (pc' := 167) (L' := [(0, .ref 39), (1, .int (xs 1))]) h_m140 (z_at.mk 59 rfl rfl) (z_off_v (v := 9) c_10 (by decide)) rfl rfl rfl ?_
    refine w_p h_m140 1 (pc' := 168) (L' := [(0, .ref 39), (1, .int (xs 1))]) (st' := [.ref 39]) rfl ?_
    refine w_gf H (pc' := 171) (L' := [(0, .ref 39), (1, .int (xs 1))]) h_m140 (z_at.mk 3 rfl rfl) rfl (u := .ref 40) rfl rfl rfl ?_
    refine w_gf H (pc' := 174) (L' := [(0, .ref 39), (1, .int (xs 1))]) h_m140 (z_at.mk 3 rfl rfl) rfl (u := .ref 41) rfl rfl rfl ?_
    refine w_gf H (pc' := 177) (L' := [(0, .ref 39), (1, .int (xs 1))]) h_m140 (z_at.mk 3 rfl rfl) rfl (u := .int (0 : Int32)) rfl rfl rfl ?_
    refine w_p h_m140 1 (pc' := 178) (L' := [(0, .ref 39), (1, .int (xs 1))]) (st' := [.long (0 : Int64)]) rfl ?_
    refine w_rl h_m140 (z_at.mk 1 rfl rfl) rfl ?_
    show z_W 1000 1000 809 [(0, .ref 0), (1, .ref 39), (2, .ref 143), (3, .int (0 : Int32))] [.long (0 : Int64)] m _
    refine w_p h_m1000 5 (pc' := 814) (L' := [(0, .ref 0), (1, .ref 39), (2, .ref 143), (3, .int (0 : Int32))]) (st' := [.int (1 : Int32), .ref 0, .ref 143, .long (0 : Int64)]) rfl ?_
    refine w_ae H (j := 1) (pc' := 815) (L' := [(0, .ref 0), (1, .ref 39), (2, .ref 143), (3, .int (0 : Int32))]) h_m1000 (z_at.mk 1 rfl rfl) rfl rfl rfl (by decide) rfl (by decide) rfl rfl rfl ?_
    refine w_cv (H.t rfl) (pc' := 818) (L' := [(0, .ref 0), (1, .ref 39), (2, .ref 143), (3, .int (0 : Int32))]) (rest := [.long (0 : Int64)]) (Ps := [.int (xs 1)]) (L0 := [(0, .ref 143), (1, .int (xs 1))]) h_m1000 (z_at.mk 3 rfl rfl) (Or.inl ⟨rfl, rfl⟩) rfl rfl (by decide) (by decide) rfl rfl rfl rfl rfl rfl (by decide) rfl rfl rfl ?_
    refine w_p h_m251 1 (pc' := 1) (L' := [(0, .ref 143), (1, .int (xs 1))]) (st' := [.int (xs 1)]) rfl ?_
    refine w_t1 (pc' := 14) (L' := [(0, .ref 143), (1, .int (xs 1))]) h_m251 (z_at.mk 3 rfl rfl) rfl (zc (a := (xs 1).toInt) (b := 0) rfl rfl (decide_eq_true (by omega))) rfl rfl ?_
    refine w_p h_m251 2 (pc' := 16) (L' := [(0, .ref 143), (1, .int (xs 1))]) (st' := [.int (1 : Int32), .int (xs 1)]) rfl ?_
    refine w_t2 (pc' := 27) (L' := [(0, .ref 143), (1, .int (xs 1))]) h_m251 (z_at.mk 3 rfl rfl) rfl (zc (a := (xs 1).toInt) (b := 1) rfl rfl (decide_eq_true (by omega))) rfl rfl ?_
    refine w_p h_m251 3 (pc' := 31) (L' := [(0, .ref 143), (1, .int (xs 1))]) (st' := [.int (7 : Int32), .int (2 : Int32), .int (xs 1)]) rfl ?_
    refine w_cs (As := [.int (xs 1), .int (2 : Int32), .int (7 : Int32)]) (rest := []) (j := 159) (L0 := [(0, .int (xs 1)), (1, .int (2 : Int32)), (2, .int (7 : Int32))]) (pc' := 34) (L' := [(0, .ref 143), (1, .int (xs 1))]) h_m251 (z_at.mk 3 rfl rfl) (Or.inl ⟨rfl, rfl⟩) rfl rfl rfl rfl rfl ?_
    refine w_p h_m159 2 (pc' := 2) (L' := [(0, .int (xs 1)), (1, .int (2 : Int32)), (2, .int (7 : Int32))]) (st' := [.int (2 : Int32), .int (xs 1)]) rfl ?_
    refine w_f2 (pc' := 5) (L' := [(0, .int (xs 1)), (1, .int (2 : Int32)), (2, .int (7 : Int32))]) h_m159 (z_at.mk 3 rfl rfl) rfl (zc (a := (xs 1).toInt) (b := 2) rfl rfl (decide_eq_false (by omega))) rfl rfl ?_
    refine w_p h_m159 2 (pc' := 7) (L' := [(0, .int (xs 1)), (1, .int (2 : Int32)), (2, .int (7 : Int32))]) (st' := [.int (7 : Int32), .int (xs 1)]) rfl ?_
    refine w_t2 (pc' := 14) (L' := []) h_m159 (z_at.mk 3 rfl rfl) rfl (zc (a := (xs 1).toInt) (b := 7) rfl rfl (decide_eq_true (by omega))) rfl rfl ?_
    refine w_p h_m159 1 (pc' := 15) (L' := []) (st' := [.int (0 : Int32)]) rfl ?_
    refine w_ri h_m159 (z_at.mk 1 rfl rfl) rfl rfl ?_
    show z_W 999 251 34 [(0, .ref 143), (1, .int (xs 1))] [.int (0 : Int32)] m _
    refine w_p h_m251 3 (pc' := 54) (L' := [(0, .ref 143), (1, .int (xs 1))]) (st' := [.int (8 : Int32), .int (xs 1)]) rfl ?_
    refine w_t2 (pc' := 66) (L' := [(0, .ref 143), (1, .int (xs 1))]) h_m251 (z_at.mk 3 rfl rfl) rfl (zc (a := (xs 1).toInt) (b := 8) rfl rfl (decide_eq_true (by omega))) rfl rfl ?_
    refine w_p h_m251 2 (pc' := 69) (L' := [(0, .ref 143), (1, .int (xs 1))]) (st' := [.int (9 : Int32), .int (xs 1)]) rfl ?_
    refine w_f2 (pc' := 72) (L' := [(0, .ref 143), (1, .int (xs 1))]) h_m251 (z_at.mk 3 rfl rfl) rfl (zc (a := (xs 1).toInt) (b := 9) rfl rfl (decide_eq_false (by omega))) rfl rfl ?_
    refine w_p h_m251 1 (pc' := 73) (L' := [(0, .ref 143), (1, .int (xs 1))]) (st' := [.ref 143]) rfl ?_
    refine w_cv (H.t rfl) (pc' := 76) (L' := [(0, .ref 143), (1, .int (xs 1))]) (rest := []) (Ps := []) (L0 := [(0, .ref 143)]) h_m251 (z_at.mk 3 rfl rfl) (Or.inl ⟨rfl, rfl⟩) rfl rfl (by decide) (by decide) rfl rfl rfl rfl rfl rfl (by decide) rfl rfl rfl ?_
    refine w_p h_m250 9 (pc' := 12) (L' := [(0, .ref 143), (1, .int (0 : Int32)), (2, .int (0 : Int32))]) (st' := [.ref 143, .int (0 : Int32)]) rfl ?_
    refine w_gf H (pc' := 15) (L' := [(0, .ref 143), (1, .int (0 : Int32)), (2, .int (0 : Int32))]) h_m250 (z_at.mk 3 rfl rfl) rfl (u := .ref 144) rfl rfl rfl ?_
    refine w_p h_m250 1 (pc' := 16) (L' := [(0, .ref 143), (1, .int (0 : Int32)), (2, .int (0 : Int32))]) (st' := [.int (0 : Int32), .ref 144, .int (0 : Int32)]) rfl ?_
    refine w_cs (As := [.int (0 : Int32)]) (rest := [.ref 144, .int (0 : Int32)]) (j := 174) (L0 := [(0, .int (0 : Int32))]) (pc' := 19) (L' := [(0, .ref 143), (1, .int (0 : Int32)), (2, .int (0 : Int32))]) h_m250 (z_at.mk 3 rfl rfl) (Or.inl ⟨rfl, rfl⟩) rfl rfl rfl rfl rfl ?_
    refine w_p h_m174 5 (pc' := 6) (L' := [(0, .int (0 : Int32))]) (st' := [.int (20 : Int32)]) rfl ?_
    refine w_ri h_m174 (z_at.mk 1 rfl rfl) rfl rfl ?_
    show z_W 998 250 19 [(0, .ref 143), (1, .int (0 : Int32)), (2, .int (0 : Int32))] [.int (20 : Int32), .ref 144, .int (0 : Int32)] m _
    refine w_al H (t := 0) (j := 20) (pc' := 20) (L' := [(0, .ref 143), (1, .int (0 : Int32)), (2, .int (0 : Int32))]) h_m250 (z_at.mk 1 rfl rfl) rfl rfl rfl (u := .int (0 : Int32)) rfl rfl rfl ?_
    refine w_p h_m250 9 (pc' := 12) (L' := [(0, .ref 143), (1, .int (0 : Int32)), (2, .int (1 : Int32))]) (st' := [.ref 143, .int (0 : Int32)]) rfl ?_
    refine w_gf H (pc' := 15) (L' := [(0, .ref 143), (1, .int (0 : Int32)), (2, .int (1 : Int32))]) h_m250 (z_at.mk 3 rfl rfl) rfl (u := .ref 144) rfl rfl rfl ?_
    refine w_p h_m250 1 (pc' := 16) (L' := [(0, .ref 143), (1, .int (0 : Int32)), (2, .int (1 : Int32))]) (st' := [.int (1 : Int32), .ref 144, .int (0 : Int32)]) rfl ?_
    refine w_cs (As := [.int (1 : Int32)]) (rest := [.ref 144, .int (0 : Int32)]) (j := 174) (L0 := [(0, .int (1 : Int32))]) (pc' := 19) (L' := [(0, .ref 143), (1, .int (0 : Int32)), (2, .int (1 : Int32))]) h_m250 (z_at.mk 3 rfl rfl) (Or.inl ⟨rfl, rfl⟩) rfl rfl rfl rfl rfl ?_
    refine w_p h_m174 5 (pc' := 6) (L' := [(0, .int (1 : Int32))]) (st' := [.int (23 : Int32)]) rfl ?_
    refine w_ri h_m174 (z_at.mk 1 rfl rfl) rfl rfl ?_
    show z_W 998 250 19 [(0, .ref 143), (1, .int (0 : Int32)), (2, .int (1 : Int32))] [.int (23 : Int32), .ref 144, .int (0 : Int32)] m _
    refine w_al H (t := 0) (j := 23) (pc' := 20) (L' := [(0, .ref 143), (1, .int (0 : Int32)), (2, .int (1 : Int32))]) h_m250 (z_at.mk 1 rfl rfl) rfl rfl rfl (u := .int (0 : Int32)) rfl rfl rfl ?_
    refine w_p h_m250 9 (pc' := 12) (L' := [(0, .ref 143), (1, .int (0 : Int32)), (2, .int (2 : Int32))]) (st' := [.ref 143, .int (0 : Int32)]) rfl ?_
    refine w_gf H (pc' := 15) (L' := [(0, .ref 143), (1, .int (0 : Int32)), (2, .int (2 : Int32))]) h_m250 (z_at.mk 3 rfl rfl) rfl (u := .ref 144) rfl rfl rfl ?_
    refine w_p h_m250 1 (pc' := 16) (L' := [(0, .ref 143), (1, .int (0 : Int32)), (2, .int (2 : Int32))]) (st' := [.int (2 : Int32), .ref 144, .int (0 : Int32)]) rfl ?_
    refine w_cs (As := [.int (2 : Int32)]) (rest := [.ref 144, .int (0 : Int32)]) (j := 174) (L0 := [(0, .int (2 : Int32))]) (pc' := 19) (L' := [(0, .ref 143), (1, .int (0 : Int32)), (2, .int (2 : Int32))]) h_m250 (z_at.mk 3 rfl rfl) (Or.inl ⟨rfl, rfl⟩) rfl rfl rfl rfl rfl ?_
    refine w_p h_m174 5 (pc' := 6) (L' := [(0, .int (2 : Int32))]) (st' := [.int (26 : Int32)]) rfl ?_
    refine w_ri h_m174 (z_at.mk 1 rfl rfl) rfl rfl ?_
    show z_W 998 250 19 [(0, .ref 143), (1, .int (0 : Int32)), (2, .int (2 : Int32))] [.int (26 : Int32), .ref 144, .int (0 : Int32)] m _
    refine w_al H (t := 0) (j := 26) (pc' := 20) (L' := [(0, .ref 143), (1, .int (0 : Int32)), (2, .int (2 : Int32))]) h_m250 (z_at.mk 1 rfl rfl) rfl rfl rfl (u := .int (0 : Int32)) rfl rfl rfl ?_
    refine w_p h_m250 9 (pc' := 12) (L' := [(0, .ref 143), (1, .int (0 : Int32)), (2, .int (3 : Int32))]) (st' := [.ref 143, .int (0 : Int32)]) rfl ?_
    refine w_gf H (pc' := 15) (L' := [(0, .ref 143), (1, .int (0 : Int32)), (2, .int (3 : Int32))]) h_m250 (z_at.mk 3 rfl rfl) rfl (u := .ref 144) rfl rfl rfl ?_
    refine w_p h_m250 1 (pc' := 16) (L' := [(0, .ref 143), (1, .int (0 : Int32)), (2, .int (3 : Int32))]) (st' := [.int (3 : Int32), .ref 144, .int (0 : Int32)]) rfl ?_
    refine w_cs (As := [.int (3 : Int32)]) (rest := [.ref 144, .int (0 : Int32)]) (j := 174) (L0 := [(0, .int (3 : Int32))]) (pc' := 19) (L' := [(0, .ref 143), (1, .int (0 : Int32)), (2, .int (3 : Int32))]) h_m250 (z_at.mk 3 rfl rfl) (Or.inl ⟨rfl, rfl⟩) rfl rfl rfl rfl rfl ?_
    refine w_p h_m174 5 (pc' := 6) (L' := [(0, .int (3 : Int32))]) (st' := [.int (29 : Int32)]) rfl ?_
    refine w_ri h_m174 (z_at.mk 1 rfl rfl) rfl rfl ?_
    show z_W 998 250 19 [(0, .ref 143), (1, .int (0 : Int32)), (2, .int (3 : Int32))] [.int (29 : Int32), .ref 144, .int (0 : Int32)] m _
    refine w_al H (t := 0) (j := 29) (pc' := 20) (L' := [(0, .ref 143), (1, .int (0 : Int32)), (2, .int (3 : Int32))]) h_m250 (z_at.mk 1 rfl rfl) rfl rfl rfl (u := .int (0 : Int32)) rfl rfl rfl ?_
    refine w_p h_m250 9 (pc' := 12) (L' := [(0, .ref 143), (1, .int (0 : Int32)), (2, .int (4 : Int32))]) (st' := [.ref 143, .int (0 : Int32)]) rfl ?_
    refine w_gf H (pc' := 15) (L' := [(0, .ref 143), (1, .int (0 : Int32)), (2, .int (4 : Int32))]) h_m250 (z_at.mk 3 rfl rfl) rfl (u := .ref 144) rfl rfl rfl ?_
    refine w_p h_m250 1 (pc' := 16) (L' := [(0, .ref 143), (1, .int (0 : Int32)), (2, .int (4 : Int32))]) (st' := [.int (4 : Int32), .ref 144, .int (0 : Int32)]) rfl ?_
    refine w_cs (As := [.int (4 : Int32)]) (rest := [.ref 144, .int (0 : Int32)]) (j := 174) (L0 := [(0, .int (4 : Int32))]) (pc' := 19) (L' := [(0, .ref 143), (1, .int (0 : Int32)), (2, .int (4 : Int32))]) h_m250 (z_at.mk 3 rfl rfl) (Or.inl ⟨rfl, rfl⟩) rfl rfl rfl rfl rfl ?_
    refine w_p h_m174 5 (pc' := 6) (L' := [(0, .int (4 : Int32))]) (st' := [.int (32 : Int32)]) rfl ?_
    refine w_ri h_m174 (z_at.mk 1 rfl rfl) rfl rfl ?_
    show z_W 998 250 19 [(0, .ref 143), (1, .int (0 : Int32)), (2, .int (4 : Int32))] [.int (32 : Int32), .ref 144, .int (0 : Int32)] m _
    refine w_al H (t := 0) (j := 32) (pc' := 20) (L' := [(0, .ref 143), (1, .int (0 : Int32)), (2, .int (4 : Int32))]) h_m250 (z_at.mk 1 rfl rfl) rfl rfl rfl (u := .int (0 : Int32)) rfl rfl rfl ?_
    refine w_p h_m250 9 (pc' := 12) (L' := [(0, .ref 143), (1, .int (0 : Int32)), (2, .int (5 : Int32))]) (st' := [.ref 143, .int (0 : Int32)]) rfl ?_
    refine w_gf H (pc' := 15) (L' := [(0, .ref 143), (1, .int (0 : Int32)), (2, .int (5 : Int32))]) h_m250 (z_at.mk 3 rfl rfl) rfl (u := .ref 144) rfl rfl rfl ?_
    refine w_p h_m250 1 (pc' := 16) (L' := [(0, .ref 143), (1, .int (0 : Int32)), (2, .int (5 : Int32))]) (st' := [.int (5 : Int32), .ref 144, .int (0 : Int32)]) rfl ?_
    refine w_cs (As := [.int (5 : Int32)]) (rest := [.ref 144, .int (0 : Int32)]) (j := 174) (L0 := [(0, .int (5 : Int32))]) (pc' := 19) (L' := [(0, .ref 143), (1, .int (0 : Int32)), (2, .int (5 : Int32))]) h_m250 (z_at.mk 3 rfl rfl) (Or.inl ⟨rfl, rfl⟩) rfl rfl rfl rfl rfl ?_
    refine w_p h_m174 5 (pc' := 6) (L' := [(0, .int (5 : Int32))]) (st' := [.int (35 : Int32)]) rfl ?_
    refine w_ri h_m174 (z_at.mk 1 rfl rfl) rfl rfl ?_
    show z_W 998 250 19 [(0, .ref 143), (1, .int (0 : Int32)), (2, .int (5 : Int32))] [.int (35 : Int32), .ref 144, .int (0 : Int32)] m _
    refine w_al H (t := 0) (j := 35) (pc' := 20) (L' := [(0, .ref 143), (1, .int (0 : Int32)), (2, .int (5 : Int32))]) h_m250 (z_at.mk 1 rfl rfl) rfl rfl rfl (u := .int (0 : Int32)) rfl rfl rfl ?_
    refine w_p h_m250 9 (pc' := 12) (L' := [(0, .ref 143), (1, .int (0 : Int32)), (2, .int (6 : Int32))]) (st' := [.ref 143, .int (0 : Int32)]) rfl ?_
    refine w_gf H (pc' := 15) (L' := [(0, .ref 143), (1, .int (0 : Int32)), (2, .int (6 : Int32))]) h_m250 (z_at.mk 3 rfl rfl) rfl (u := .ref 144) rfl rfl rfl ?_
    refine w_p h_m250 1 (pc' := 16) (L' := [(0, .ref 143), (1, .int (0 : Int32)), (2, .int (6 : Int32))]) (st' := [.int (6 : Int32), .ref 144, .int (0 : Int32)]) rfl ?_
    refine w_cs (As := [.int (6 : Int32)]) (rest := [.ref 144, .int (0 : Int32)]) (j := 174) (L0 := [(0, .int (6 : Int32))]) (pc' := 19) (L' := [(0, .ref 143), (1, .int (0 : Int32)), (2, .int (6 : Int32))]) h_m250 (z_at.mk 3 rfl rfl) (Or.inl ⟨rfl, rfl⟩) rfl rfl rfl rfl rfl ?_
    refine w_p h_m174 5 (pc' := 6) (L' := [(0, .int (6 : Int32))]) (st' := [.int (38 : Int32)]) rfl ?_
    refine w_ri h_m174 (z_at.mk 1 rfl rfl) rfl rfl ?_
    show z_W 998 250 19 [(0, .ref 143), (1, .int (0 : Int32)), (2, .int (6 : Int32))] [.int (38 : Int32), .ref 144, .int (0 : Int32)] m _
    refine w_al H (t := 0) (j := 38) (pc' := 20) (L' := [(0, .ref 143), (1, .int (0 : Int32)), (2, .int (6 : Int32))]) h_m250 (z_at.mk 1 rfl rfl) rfl rfl rfl (u := .int (0 : Int32)) rfl rfl rfl ?_
    refine w_p h_m250 9 (pc' := 12) (L' := [(0, .ref 143), (1, .int (0 : Int32)), (2, .int (7 : Int32))]) (st' := [.ref 143, .int (0 : Int32)]) rfl ?_
    refine w_gf H (pc' := 15) (L' := [(0, .ref 143), (1, .int (0 : Int32)), (2, .int (7 : Int32))]) h_m250 (z_at.mk 3 rfl rfl) rfl (u := .ref 144) rfl rfl rfl ?_
    refine w_p h_m250 1 (pc' := 16) (L' := [(0, .ref 143), (1, .int (0 : Int32)), (2, .int (7 : Int32))]) (st' := [.int (7 : Int32), .ref 144, .int (0 : Int32)]) rfl ?_
    refine w_cs (As := [.int (7 : Int32)]) (rest := [.ref 144, .int (0 : Int32)]) (j := 174) (L0 := [(0, .int (7 : Int32))]) (pc' := 19) (L' := [(0, .ref 143), (1, .int (0 : Int32)), (2, .int (7 : Int32))]) h_m250 (z_at.mk 3 rfl rfl) (Or.inl ⟨rfl, rfl⟩) rfl rfl rfl rfl rfl ?_
    refine w_p h_m174 5 (pc' := 6) (L' := [(0, .int (7 : Int32))]) (st' := [.int (41 : Int32)]) rfl ?_
    refine w_ri h_m174 (z_at.mk 1 rfl rfl) rfl rfl ?_
    show z_W 998 250 19 [(0, .ref 143), (1, .int (0 : Int32)), (2, .int (7 : Int32))] [.int (41 : Int32), .ref 144, .int (0 : Int32)] m _
    refine w_al H (t := 0) (j := 41) (pc' := 20) (L' := [(0, .ref 143), (1, .int (0 : Int32)), (2, .int (7 : Int32))]) h_m250 (z_at.mk 1 rfl rfl) rfl rfl rfl (u := .int (0 : Int32)) rfl rfl rfl ?_
    refine w_p h_m250 9 (pc' := 12) (L' := [(0, .ref 143), (1, .int (0 : Int32)), (2, .int (8 : Int32))]) (st' := [.ref 143, .int (0 : Int32)]) rfl ?_
    refine w_gf H (pc' := 15) (L' := [(0, .ref 143), (1, .int (0 : Int32)), (2, .int (8 : Int32))]) h_m250 (z_at.mk 3 rfl rfl) rfl (u := .ref 144) rfl rfl rfl ?_
    refine w_p h_m250 1 (pc' := 16) (L' := [(0, .ref 143), (1, .int (0 : Int32)), (2, .int (8 : Int32))]) (st' := [.int (8 : Int32), .ref 144, .int (0 : Int32)]) rfl ?_
    refine w_cs (As := [.int (8 : Int32)]) (rest := [.ref 144, .int (0 : Int32)]) (j := 174) (L0 := [(0, .int (8 : Int32))]) (pc' := 19) (L' := [(0, .ref 143), (1, .int (0 : Int32)), (2, .int (8 : Int32))]) h_m250 (z_at.mk 3 rfl rfl) (Or.inl ⟨rfl, rfl⟩) rfl rfl rfl rfl rfl ?_
    refine w_p h_m174 5 (pc' := 6) (L' := [(0, .int (8 : Int32))]) (st' := [.int (44 : Int32)]) rfl ?_
    refine w_ri h_m174 (z_at.mk 1 rfl rfl) rfl rfl ?_
    show z_W 998 250 19 [(0, .ref 143), (1, .int (0 : Int32)), (2, .int (8 : Int32))] [.int (44 : Int32), .ref 144, .int (0 : Int32)] m _
    refine w_al H (t := 0) (j := 44) (pc' := 20) (L' := [(0, .ref 143), (1, .int (0 : Int32)), (2, .int (8 : Int32))]) h_m250 (z_at.mk 1 rfl rfl) rfl rfl rfl (u := .int (0 : Int32)) rfl rfl rfl ?_
    refine w_p h_m250 9 (pc' := 12) (L' := [(0, .ref 143), (1, .int (0 : Int32)), (2, .int (9 : Int32))]) (st' := [.ref 143, .int (0 : Int32)]) rfl ?_
    refine w_gf H (pc' := 15) (L' := [(0, .ref 143), (1, .int (0 : Int32)), (2, .int (9 : Int32))]) h_m250 (z_at.mk 3 rfl rfl) rfl (u := .ref 144) rfl rfl rfl ?_
    refine w_p h_m250 1 (pc' := 16) (L' := [(0, .ref 143), (1, .int (0 : Int32)), (2, .int (9 : Int32))]) (st' := [.int (9 : Int32), .ref 144, .int (0 : Int32)]) rfl ?_
    refine w_cs (As := [.int (9 : Int32)]) (rest := [.ref 144, .int (0 : Int32)]) (j := 174) (L0 := [(0, .int (9 : Int32))]) (pc' := 19) (L' := [(0, .ref 143), (1, .int (0 : Int32)), (2, .int (9 : Int32))]) h_m250 (z_at.mk 3 rfl rfl) (Or.inl ⟨rfl, rfl⟩) rfl rfl rfl rfl rfl ?_
    refine w_p h_m174 5 (pc' := 6) (L' := [(0, .int (9 : Int32))]) (st' := [.int (47 : Int32)]) rfl ?_
    refine w_ri h_m174 (z_at.mk 1 rfl rfl) rfl rfl ?_
    show z_W 998 250 19 [(0, .ref 143), (1, .int (0 : Int32)), (2, .int (9 : Int32))] [.int (47 : Int32), .ref 144, .int (0 : Int32)] m _
    refine w_al H (t := 0) (j := 47) (pc' := 20) (L' := [(0, .ref 143), (1, .int (0 : Int32)), (2, .int (9 : Int32))]) h_m250 (z_at.mk 1 rfl rfl) rfl rfl rfl (u := .int (0 : Int32)) rfl rfl rfl ?_
    refine w_p h_m250 9 (pc' := 12) (L' := [(0, .ref 143), (1, .int (0 : Int32)), (2, .int (10 : Int32))]) (st' := [.ref 143, .int (0 : Int32)]) rfl ?_
    refine w_gf H (pc' := 15) (L' := [(0, .ref 143), (1, .int (0 : Int32)), (2, .int (10 : Int32))]) h_m250 (z_at.mk 3 rfl rfl) rfl (u := .ref 144) rfl rfl rfl ?_
    refine w_p h_m250 1 (pc' := 16) (L' := [(0, .ref 143), (1, .int (0 : Int32)), (2, .int (10 : Int32))]) (st' := [.int (10 : Int32), .ref 144, .int (0 : Int32)]) rfl ?_
    refine w_cs (As := [.int (10 : Int32)]) (rest := [.ref 144, .int (0 : Int32)]) (j := 174) (L0 := [(0, .int (10 : Int32))]) (pc' := 19) (L' := [(0, .ref 143), (1, .int (0 : Int32)), (2, .int (10 : Int32))]) h_m250 (z_at.mk 3 rfl rfl) (Or.inl ⟨rfl, rfl⟩) rfl rfl rfl rfl rfl ?_
    refine w_p h_m174 5 (pc' := 6) (L' := [(0, .int (10 : Int32))]) (st' := [.int (50 : Int32)]) rfl ?_
    refine w_ri h_m174 (z_at.mk 1 rfl rfl) rfl rfl ?_
    show z_W 998 250 19 [(0, .ref 143), (1, .int (0 : Int32)), (2, .int (10 : Int32))] [.int (50 : Int32), .ref 144, .int (0 : Int32)] m _
    refine w_al H (t := 0) (j := 50) (pc' := 20) (L' := [(0, .ref 143), (1, .int (0 : Int32)), (2, .int (10 : Int32))]) h_m250 (z_at.mk 1 rfl rfl) rfl rfl rfl (u := .int (0 : Int32)) rfl rfl rfl ?_
    refine w_p h_m250 9 (pc' := 12) (L' := [(0, .ref 143), (1, .int (0 : Int32)), (2, .int (11 : Int32))]) (st' := [.ref 143, .int (0 : Int32)]) rfl ?_
    refine w_gf H (pc' := 15) (L' := [(0, .ref 143), (1, .int (0 : Int32)), (2, .int (11 : Int32))]) h_m250 (z_at.mk 3 rfl rfl) rfl (u := .ref 144) rfl rfl rfl ?_
    refine w_p h_m250 1 (pc' := 16) (L' := [(0, .ref 143), (1, .int (0 : Int32)), (2, .int (11 : Int32))]) (st' := [.int (11 : Int32), .ref 144, .int (0 : Int32)]) rfl ?_
    refine w_cs (As := [.int (11 : Int32)]) (rest := [.ref 144, .int (0 : Int32)]) (j := 174) (L0 := [(0, .int (11 : Int32))]) (pc' := 19) (L' := [(0, .ref 143), (1, .int (0 : Int32)), (2, .int (11 : Int32))]) h_m250 (z_at.mk 3 rfl rfl) (Or.inl ⟨rfl, rfl⟩) rfl rfl rfl rfl rfl ?_
    refine w_p h_m174 5 (pc' := 6) (L' := [(0, .int (11 : Int32))]) (st' := [.int (53 : Int32)]) rfl ?_
    refine w_ri h_m174 (z_at.mk 1 rfl rfl) rfl rfl ?_
    show z_W 998 250 19 [(0, .ref 143), (1, .int (0 : Int32)), (2, .int (11 : Int32))] [.int (53 : Int32), .ref 144, .int (0 : Int32)] m _
    refine w_al H (t := 0) (j := 53) (pc' := 20) (L' := [(0, .ref 143), (1, .int (0 : Int32)), (2, .int (11 : Int32))]) h_m250 (z_at.mk 1 rfl rfl) rfl rfl rfl (u := .int (0 : Int32)) rfl rfl rfl ?_
    refine w_p h_m250 9 (pc' := 12) (L' := [(0, .ref 143), (1, .int (0 : Int32)), (2, .int (12 : Int32))]) (st' := [.ref 143, .int (0 : Int32)]) rfl ?_
    refine w_gf H (pc' := 15) (L' := [(0, .ref 143), (1, .int (0 : Int32)), (2, .int (12 : Int32))]) h_m250 (z_at.mk 3 rfl rfl) rfl (u := .ref 144) rfl rfl rfl ?_
    refine w_p h_m250 1 (pc' := 16) (L' := [(0, .ref 143), (1, .int (0 : Int32)), (2, .int (12 : Int32))]) (st' := [.int (12 : Int32), .ref 144, .int (0 : Int32)]) rfl ?_
    refine w_cs (As := [.int (12 : Int32)]) (rest := [.ref 144, .int (0 : Int32)]) (j := 174) (L0 := [(0, .int (12 : Int32))]) (pc' := 19) (L' := [(0, .ref 143), (1, .int (0 : Int32)), (2, .int (12 : Int32))]) h_m250 (z_at.mk 3 rfl rfl) (Or.inl ⟨rfl, rfl⟩) rfl rfl rfl rfl rfl ?_
    refine w_p h_m174 5 (pc' := 6) (L' := [(0, .int (12 : Int32))]) (st' := [.int (56 : Int32)]) rfl ?_
    refine w_ri h_m174 (z_at.mk 1 rfl rfl) rfl rfl ?_
    show z_W 998 250 19 [(0, .ref 143), (1, .int (0 : Int32)), (2, .int (12 : Int32))] [.int (56 : Int32), .ref 144, .int (0 : Int32)] m _
    refine w_al H (t := 0) (j := 56) (pc' := 20) (L' := [(0, .ref 143), (1, .int (0 : Int32)), (2, .int (12 : Int32))]) h_m250 (z_at.mk 1 rfl rfl) rfl rfl rfl (u := .int (0 : Int32)) rfl rfl rfl ?_
    refine w_p h_m250 9 (pc' := 12) (L' := [(0, .ref 143), (1, .int (0 : Int32)), (2, .int (13 : Int32))]) (st' := [.ref 143, .int (0 : Int32)]) rfl ?_
    refine w_gf H (pc' := 15) (L' := [(0, .ref 143), (1, .int (0 : Int32)), (2, .int (13 : Int32))]) h_m250 (z_at.mk 3 rfl rfl) rfl (u := .ref 144) rfl rfl rfl ?_
    refine w_p h_m250 1 (pc' := 16) (L' := [(0, .ref 143), (1, .int (0 : Int32)), (2, .int (13 : Int32))]) (st' := [.int (13 : Int32), .ref 144, .int (0 : Int32)]) rfl ?_
    refine w_cs (As := [.int (13 : Int32)]) (rest := [.ref 144, .int (0 : Int32)]) (j := 174) (L0 := [(0, .int (13 : Int32))]) (pc' := 19) (L' := [(0, .ref 143), (1, .int (0 : Int32)), (2, .int (13 : Int32))]) h_m250 (z_at.mk 3 rfl rfl) (Or.inl ⟨rfl, rfl⟩) rfl rfl rfl rfl rfl ?_
    refine w_p h_m174 5 (pc' := 6) (L' := [(0, .int (13 : Int32))]) (st' := [.int (59 : Int32)]) rfl ?_
    refine w_ri h_m174 (z_at.mk 1 rfl rfl) rfl rfl ?_
    show z_W 998 250 19 [(0, .ref 143), (1, .int (0 : Int32)), (2, .int (13 : Int32))] [.int (59 : Int32), .ref 144, .int (0 : Int32)] m _
    refine w_al H (t := 0) (j := 59) (pc' := 20) (L' := [(0, .ref 143), (1, .int (0 : Int32)), (2, .int (13 : Int32))]) h_m250 (z_at.mk 1 rfl rfl) rfl rfl rfl (u := .int (0 : Int32)) rfl rfl rfl ?_
    refine w_p h_m250 9 (pc' := 12) (L' := [(0, .ref 143), (1, .int (0 : Int32)), (2, .int (14 : Int32))]) (st' := [.ref 143, .int (0 : Int32)]) rfl ?_
    refine w_gf H (pc' := 15) (L' := [(0, .ref 143), (1, .int (0 : Int32)), (2, .int (14 : Int32))]) h_m250 (z_at.mk 3 rfl rfl) rfl (u := .ref 144) rfl rfl rfl ?_
    refine w_p h_m250 1 (pc' := 16) (L' := [(0, .ref 143), (1, .int (0 : Int32)), (2, .int (14 : Int32))]) (st' := [.int (14 : Int32), .ref 144, .int (0 : Int32)]) rfl ?_
    refine w_cs (As := [.int (14 : Int32)]) (rest := [.ref 144, .int (0 : Int32)]) (j := 174) (L0 := [(0, .int (14 : Int32))]) (pc' := 19) (L' := [(0, .ref 143), (1, .int (0 : Int32)), (2, .int (14 : Int32))]) h_m250 (z_at.mk 3 rfl rfl) (Or.inl ⟨rfl, rfl⟩) rfl rfl rfl rfl rfl ?_
    refine w_p h_m174 5 (pc' := 6) (L' := [(0, .int (14 : Int32))]) (st' := [.int (62 : Int32)]) rfl ?_
    refine w_ri h_m174 (z_at.mk 1 rfl rfl) rfl rfl ?_
    show z_W 998 250 19 [(0, .ref 143), (1, .int (0 : Int32)), (2, .int (14 : Int32))] [.int (62 : Int32), .ref 144, .int (0 : Int32)] m _
    refine w_al H (t := 0) (j := 62) (pc' := 20) (L' := [(0, .ref 143), (1, .int (0 : Int32)), (2, .int (14 : Int32))]) h_m250 (z_at.mk 1 rfl rfl) rfl rfl rfl (u := .int (0 : Int32)) rfl rfl rfl ?_
    refine w_p h_m250 9 (pc' := 12) (L' := [(0, .ref 143), (1, .int (0 : Int32)), (2, .int (15 : Int32))]) (st' := [.ref 143, .int (0 : Int32)]) rfl ?_
    refine w_gf H (pc' := 15) (L' := [(0, .ref 143), (1, .int (0 : Int32)), (2, .int (15 : Int32))]) h_m250 (z_at.mk 3 rfl rfl) rfl (u := .ref 144) rfl rfl rfl ?_
    refine w_p h_m250 1 (pc' := 16) (L' := [(0, .ref 143), (1, .int (0 : Int32)), (2, .int (15 : Int32))]) (st' := [.int (15 : Int32), .ref 144, .int (0 : Int32)]) rfl ?_
    refine w_cs (As := [.int (15 : Int32)]) (rest := [.ref 144, .int (0 : Int32)]) (j := 174) (L0 := [(0, .int (15 : Int32))]) (pc' := 19) (L' := [(0, .ref 143), (1, .int (0 : Int32)), (2, .int (15 : Int32))]) h_m250 (z_at.mk 3 rfl rfl) (Or.inl ⟨rfl, rfl⟩) rfl rfl rfl rfl rfl ?_
    refine w_p h_m174 5 (pc' := 6) (L' := [(0, .int (15 : Int32))]) (st' := [.int (65 : Int32)]) rfl ?_
    refine w_ri h_m174 (z_at.mk 1 rfl rfl) rfl rfl ?_
    show z_W 998 250 19 [(0, .ref 143), (1, .int (0 : Int32)), (2, .int (15 : Int32))] [.int (65 : Int32), .ref 144, .int (0 : Int32)] m _
    refine w_al H (t := 0) (j := 65) (pc' := 20) (L' := [(0, .ref 143), (1, .int (0 : Int32)), (2, .int (15 : Int32))]) h_m250 (z_at.mk 1 rfl rfl) rfl rfl rfl (u := .int (0 : Int32)) rfl rfl rfl ?_
    refine w_p h_m250 9 (pc' := 12) (L' := [(0, .ref 143), (1, .int (0 : Int32)), (2, .int (16 : Int32))]) (st' := [.ref 143, .int (0 : Int32)]) rfl ?_
    refine w_gf H (pc' := 15) (L' := [(0, .ref 143), (1, .int (0 : Int32)), (2, .int (16 : Int32))]) h_m250 (z_at.mk 3 rfl rfl) rfl (u := .ref 144) rfl rfl rfl ?_
    refine w_p h_m250 1 (pc' := 16) (L' := [(0, .ref 143), (1, .int (0 : Int32)), (2, .int (16 : Int32))]) (st' := [.int (16 : Int32), .ref 144, .int (0 : Int32)]) rfl ?_
    refine w_cs (As := [.int (16 : Int32)]) (rest := [.ref 144, .int (0 : Int32)]) (j := 174) (L0 := [(0, .int (16 : Int32))]) (pc' := 19) (L' := [(0, .ref 143), (1, .int (0 : Int32)), (2, .int (16 : Int32))]) h_m250 (z_at.mk 3 rfl rfl) (Or.inl ⟨rfl, rfl⟩) rfl rfl rfl rfl rfl ?_
    refine w_p h_m174 5 (pc' := 6) (L' := [(0, .int (16 : Int32))]) (st' := [.int (68 : Int32)]) rfl ?_
    refine w_ri h_m174 (z_at.mk 1 rfl rfl) rfl rfl ?_
    show z_W 998 250 19 [(0, .ref 143), (1, .int (0 : Int32)), (2, .int (16 : Int32))] [.int (68 : Int32), .ref 144, .int (0 : Int32)] m _
    refine w_al H (t := 0) (j := 68) (pc' := 20) (L' := [(0, .ref 143), (1, .int (0 : Int32)), (2, .int (16 : Int32))]) h_m250 (z_at.mk 1 rfl rfl) rfl rfl rfl (u := .int (0 : Int32)) rfl rfl rfl ?_
    refine w_p h_m250 9 (pc' := 12) (L' := [(0, .ref 143), (1, .int (0 : Int32)), (2, .int (17 : Int32))]) (st' := [.ref 143, .int (0 : Int32)]) rfl ?_
    refine w_gf H (pc' := 15) (L' := [(0, .ref 143), (1, .int (0 : Int32)), (2, .int (17 : Int32))]) h_m250 (z_at.mk 3 rfl rfl) rfl (u := .ref 144) rfl rfl rfl ?_
    refine w_p h_m250 1 (pc' := 16) (L' := [(0, .ref 143), (1, .int (0 : Int32)), (2, .int (17 : Int32))]) (st' := [.int (17 : Int32), .ref 144, .int (0 : Int32)]) rfl ?_
    refine w_cs (As := [.int (17 : Int32)]) (rest := [.ref 144, .int (0 : Int32)]) (j := 174) (L0 := [(0, .int (17 : Int32))]) (pc' := 19) (L' := [(0, .ref 143), (1, .int (0 : Int32)), (2, .int (17 : Int32))]) h_m250 (z_at.mk 3 rfl rfl) (Or.inl ⟨rfl, rfl⟩) rfl rfl rfl rfl rfl ?_
    refine w_p h_m174 5 (pc' := 6) (L' := [(0, .int (17 : Int32))]) (st' := [.int (71 : Int32)]) rfl ?_
    refine w_ri h_m174 (z_at.mk 1 rfl rfl) rfl rfl ?_
    show z_W 998 250 19 [(0, .ref 143), (1, .int (0 : Int32)), (2, .int (17 : Int32))] [.int (71 : Int32), .ref 144, .int (0 : Int32)] m _
    refine w_al H (t := 0) (j := 71) (pc' := 20) (L' := [(0, .ref 143), (1, .int (0 : Int32)), (2, .int (17 : Int32))]) h_m250 (z_at.mk 1 rfl rfl) rfl rfl rfl (u := .int (0 : Int32)) rfl rfl rfl ?_
    refine w_p h_m250 9 (pc' := 12) (L' := [(0, .ref 143), (1, .int (0 : Int32)), (2, .int (18 : Int32))]) (st' := [.ref 143, .int (0 : Int32)]) rfl ?_
    refine w_gf H (pc' := 15) (L' := [(0, .ref 143), (1, .int (0 : Int32)), (2, .int (18 : Int32))]) h_m250 (z_at.mk 3 rfl rfl) rfl (u := .ref 144) rfl rfl rfl ?_
    refine w_p h_m250 1 (pc' := 16) (L' := [(0, .ref 143), (1, .int (0 : Int32)), (2, .int (18 : Int32))]) (st' := [.int (18 : Int32), .ref 144, .int (0 : Int32)]) rfl ?_
    refine w_cs (As := [.int (18 : Int32)]) (rest := [.ref 144, .int (0 : Int32)]) (j := 174) (L0 := [(0, .int (18 : Int32))]) (pc' := 19) (L' := [(0, .ref 143), (1, .int (0 : Int32)), (2, .int (18 : Int32))]) h_m250 (z_at.mk 3 rfl rfl) (Or.inl ⟨rfl, rfl⟩) rfl rfl rfl rfl rfl ?_
    refine w_p h_m174 5 (pc' := 6) (L' := [(0, .int (18 : Int32))]) (st' := [.int (74 : Int32)]) rfl ?_
    refine w_ri h_m174 (z_at.mk 1 rfl rfl) rfl rfl ?_
    show z_W 998 250 19 [(0, .ref 143), (1, .int (0 : Int32)), (2, .int (18 : Int32))] [.int (74 : Int32), .ref 144, .int (0 : Int32)] m _
    refine w_al H (t := 0) (j := 74) (pc' := 20) (L' := [(0, .ref 143), (1, .int (0 : Int32)), (2, .int (18 : Int32))]) h_m250 (z_at.mk 1 rfl rfl) rfl rfl rfl (u := .int (0 : Int32)) rfl rfl rfl ?_
    refine w_p h_m250 9 (pc' := 12) (L' := [(0, .ref 143), (1, .int (0 : Int32)), (2, .int (19 : Int32))]) (st' := [.ref 143, .int (0 : Int32)]) rfl ?_
    refine w_gf H (pc' := 15) (L' := [(0, .ref 143), (1, .int (0 : Int32)), (2, .int (19 : Int32))]) h_m250 (z_at.mk 3 rfl rfl) rfl (u := .ref 144) rfl rfl rfl ?_
    refine w_p h_m250 1 (pc' := 16) (L' := [(0, .ref 143), (1, .int (0 : Int32)), (2, .int (19 : Int32))]) (st' := [.int (19 : Int32), .ref 144, .int (0 : Int32)]) rfl ?_
    refine w_cs (As := [.int (19 : Int32)]) (rest := [.ref 144, .int (0 : Int32)]) (j := 174) (L0 := [(0, .int (19 : Int32))]) (pc' := 19) (L' := [(0, .ref 143), (1, .int (0 : Int32)), (2, .int (19 : Int32))]) h_m250 (z_at.mk 3 rfl rfl) (Or.inl ⟨rfl, rfl⟩) rfl rfl rfl rfl rfl ?_
    refine w_p h_m174 5 (pc' := 6) (L' := [(0, .int (19 : Int32))]) (st' := [.int (77 : Int32)]) rfl ?_
    refine w_ri h_m174 (z_at.mk 1 rfl rfl) rfl rfl ?_
    show z_W 998 250 19 [(0, .ref 143), (1, .int (0 : Int32)), (2, .int (19 : Int32))] [.int (77 : Int32), .ref 144, .int (0 : Int32)] m _
    refine w_al H (t := 0) (j := 77) (pc' := 20) (L' := [(0, .ref 143), (1, .int (0 : Int32)), (2, .int (19 : Int32))]) h_m250 (z_at.mk 1 rfl rfl) rfl rfl rfl (u := .int (0 : Int32)) rfl rfl rfl ?_
    refine w_p h_m250 9 (pc' := 12) (L' := [(0, .ref 143), (1, .int (0 : Int32)), (2, .int (20 : Int32))]) (st' := [.ref 143, .int (0 : Int32)]) rfl ?_
    refine w_gf H (pc' := 15) (L' := [(0, .ref 143), (1, .int (0 : Int32)), (2, .int (20 : Int32))]) h_m250 (z_at.mk 3 rfl rfl) rfl (u := .ref 144) rfl rfl rfl ?_
    refine w_p h_m250 1 (pc' := 16) (L' := [(0, .ref 143), (1, .int (0 : Int32)), (2, .int (20 : Int32))]) (st' := [.int (20 : Int32), .ref 144, .int (0 : Int32)]) rfl ?_
    refine w_cs (As := [.int (20 : Int32)]) (rest := [.ref 144, .int (0 : Int32)]) (j := 174) (L0 := [(0, .int (20 : Int32))]) (pc' := 19) (L' := [(0, .ref 143), (1, .int (0 : Int32)), (2, .int (20 : Int32))]) h_m250 (z_at.mk 3 rfl rfl) (Or.inl ⟨rfl, rfl⟩) rfl rfl rfl rfl rfl ?_
    refine w_p h_m174 5 (pc' := 6) (L' := [(0, .int (20 : Int32))]) (st' := [.int (80 : Int32)]) rfl ?_
    refine w_ri h_m174 (z_at.mk 1 rfl rfl) rfl rfl ?_
    show z_W 998 250 19 [(0, .ref 143), (1, .int (0 : Int32)), (2, .int (20 : Int32))] [.int (80 : Int32), .ref 144, .int (0 : Int32)] m _
    refine w_al H (t := 0) (j := 80) (pc' := 20) (L' := [(0, .ref 143), (1, .int (0 : Int32)), (2, .int (20 : Int32))]) h_m250 (z_at.mk 1 rfl rfl) rfl rfl rfl (u := .int (0 : Int32)) rfl rfl rfl ?_
    refine w_p h_m250 9 (pc' := 12) (L' := [(0, .ref 143), (1, .int (0 : Int32)), (2, .int (21 : Int32))]) (st' := [.ref 143, .int (0 : Int32)]) rfl ?_
    refine w_gf H (pc' := 15) (L' := [(0, .ref 143), (1, .int (0 : Int32)), (2, .int (21 : Int32))]) h_m250 (z_at.mk 3 rfl rfl) rfl (u := .ref 144) rfl rfl rfl ?_
    refine w_p h_m250 1 (pc' := 16) (L' := [(0, .ref 143), (1, .int (0 : Int32)), (2, .int (21 : Int32))]) (st' := [.int (21 : Int32), .ref 144, .int (0 : Int32)]) rfl ?_
    refine w_cs (As := [.int (21 : Int32)]) (rest := [.ref 144, .int (0 : Int32)]) (j := 174) (L0 := [(0, .int (21 : Int32))]) (pc' := 19) (L' := [(0, .ref 143), (1, .int (0 : Int32)), (2, .int (21 : Int32))]) h_m250 (z_at.mk 3 rfl rfl) (Or.inl ⟨rfl, rfl⟩) rfl rfl rfl rfl rfl ?_
    refine w_p h_m174 5 (pc' := 6) (L' := [(0, .int (21 : Int32))]) (st' := [.int (83 : Int32)]) rfl ?_
    refine w_ri h_m174 (z_at.mk 1 rfl rfl) rfl rfl ?_
    show z_W 998 250 19 [(0, .ref 143), (1, .int (0 : Int32)), (2, .int (21 : Int32))] [.int (83 : Int32), .ref 144, .int (0 : Int32)] m _
    refine w_al H (t := 0) (j := 83) (pc' := 20) (L' := [(0, .ref 143), (1, .int (0 : Int32)), (2, .int (21 : Int32))]) h_m250 (z_at.mk 1 rfl rfl) rfl rfl rfl (u := .int (0 : Int32)) rfl rfl rfl ?_
    refine w_p h_m250 9 (pc' := 12) (L' := [(0, .ref 143), (1, .int (0 : Int32)), (2, .int (22 : Int32))]) (st' := [.ref 143, .int (0 : Int32)]) rfl ?_
    refine w_gf H (pc' := 15) (L' := [(0, .ref 143), (1, .int (0 : Int32)), (2, .int (22 : Int32))]) h_m250 (z_at.mk 3 rfl rfl) rfl (u := .ref 144) rfl rfl rfl ?_
    refine w_p h_m250 1 (pc' := 16) (L' := [(0, .ref 143), (1, .int (0 : Int32)), (2, .int (22 : Int32))]) (st' := [.int (22 : Int32), .ref 144, .int (0 : Int32)]) rfl ?_
    refine w_cs (As := [.int (22 : Int32)]) (rest := [.ref 144, .int (0 : Int32)]) (j := 174) (L0 := [(0, .int (22 : Int32))]) (pc' := 19) (L' := [(0, .ref 143), (1, .int (0 : Int32)), (2, .int (22 : Int32))]) h_m250 (z_at.mk 3 rfl rfl) (Or.inl ⟨rfl, rfl⟩) rfl rfl rfl rfl rfl ?_
    refine w_p h_m174 5 (pc' := 6) (L' := [(0, .int (22 : Int32))]) (st' := [.int (86 : Int32)]) rfl ?_
    refine w_ri h_m174 (z_at.mk 1 rfl rfl) rfl rfl ?_
    show z_W 998 250 19 [(0, .ref 143), (1, .int (0 : Int32)), (2, .int (22 : Int32))] [.int (86 : Int32), .ref 144, .int (0 : Int32)] m _
    refine w_al H (t := 0) (j := 86) (pc' := 20) (L' := [(0, .ref 143), (1, .int (0 : Int32)), (2, .int (22 : Int32))]) h_m250 (z_at.mk 1 rfl rfl) rfl rfl rfl (u := .int (0 : Int32)) rfl rfl rfl ?_
    refine w_p h_m250 9 (pc' := 12) (L' := [(0, .ref 143), (1, .int (0 : Int32)), (2, .int (23 : Int32))]) (st' := [.ref 143, .int (0 : Int32)]) rfl ?_
    refine w_gf H (pc' := 15) (L' := [(0, .ref 143), (1, .int (0 : Int32)), (2, .int (23 : Int32))]) h_m250 (z_at.mk 3 rfl rfl) rfl (u := .ref 144) rfl rfl rfl ?_
    refine w_p h_m250 1 (pc' := 16) (L' := [(0, .ref 143), (1, .int (0 : Int32)), (2, .int (23 : Int32))]) (st' := [.int (23 : Int32), .ref 144, .int (0 : Int32)]) rfl ?_
    refine w_cs (As := [.int (23 : Int32)]) (rest := [.ref 144, .int (0 : Int32)]) (j := 174) (L0 := [(0, .int (23 : Int32))]) (pc' := 19) (L' := [(0, .ref 143), (1, .int (0 : Int32)), (2, .int (23 : Int32))]) h_m250 (z_at.mk 3 rfl rfl) (Or.inl ⟨rfl, rfl⟩) rfl rfl rfl rfl rfl ?_
    refine w_p h_m174 5 (pc' := 6) (L' := [(0, .int (23 : Int32))]) (st' := [.int (89 : Int32)]) rfl ?_
    refine w_ri h_m174 (z_at.mk 1 rfl rfl) rfl rfl ?_
    show z_W 998 250 19 [(0, .ref 143), (1, .int (0 : Int32)), (2, .int (23 : Int32))] [.int (89 : Int32), .ref 144, .int (0 : Int32)] m _
    refine w_al H (t := 0) (j := 89) (pc' := 20) (L' := [(0, .ref 143), (1, .int (0 : Int32)), (2, .int (23 : Int32))]) h_m250 (z_at.mk 1 rfl rfl) rfl rfl rfl (u := .int (0 : Int32)) rfl rfl rfl ?_
    refine w_p h_m250 9 (pc' := 12) (L' := [(0, .ref 143), (1, .int (0 : Int32)), (2, .int (24 : Int32))]) (st' := [.ref 143, .int (0 : Int32)]) rfl ?_
    refine w_gf H (pc' := 15) (L' := [(0, .ref 143), (1, .int (0 : Int32)), (2, .int (24 : Int32))]) h_m250 (z_at.mk 3 rfl rfl) rfl (u := .ref 144) rfl rfl rfl ?_
    refine w_p h_m250 1 (pc' := 16) (L' := [(0, .ref 143), (1, .int (0 : Int32)), (2, .int (24 : Int32))]) (st' := [.int (24 : Int32), .ref 144, .int (0 : Int32)]) rfl ?_
    refine w_cs (As := [.int (24 : Int32)]) (rest := [.ref 144, .int (0 : Int32)]) (j := 174) (L0 := [(0, .int (24 : Int32))]) (pc' := 19) (L' := [(0, .ref 143), (1, .int (0 : Int32)), (2, .int (24 : Int32))]) h_m250 (z_at.mk 3 rfl rfl) (Or.inl ⟨rfl, rfl⟩) rfl rfl rfl rfl rfl ?_
    refine w_p h_m174 5 (pc' := 6) (L' := [(0, .int (24 : Int32))]) (st' := [.int (92 : Int32)]) rfl ?_
    refine w_ri h_m174 (z_at.mk 1 rfl rfl) rfl rfl ?_
    show z_W 998 250 19 [(0, .ref 143), (1, .int (0 : Int32)), (2, .int (24 : Int32))] [.int (92 : Int32), .ref 144, .int (0 : Int32)] m _
    refine w_al H (t := 0) (j := 92) (pc' := 20) (L' := [(0, .ref 143), (1, .int (0 : Int32)), (2, .int (24 : Int32))]) h_m250 (z_at.mk 1 rfl rfl) rfl rfl rfl (u := .int (0 : Int32)) rfl rfl rfl ?_
    refine w_p h_m250 9 (pc' := 12) (L' := [(0, .ref 143), (1, .int (0 : Int32)), (2, .int (25 : Int32))]) (st' := [.ref 143, .int (0 : Int32)]) rfl ?_
    refine w_gf H (pc' := 15) (L' := [(0, .ref 143), (1, .int (0 : Int32)), (2, .int (25 : Int32))]) h_m250 (z_at.mk 3 rfl rfl) rfl (u := .ref 144) rfl rfl rfl ?_
    refine w_p h_m250 1 (pc' := 16) (L' := [(0, .ref 143), (1, .int (0 : Int32)), (2, .int (25 : Int32))]) (st' := [.int (25 : Int32), .ref 144, .int (0 : Int32)]) rfl ?_
    refine w_cs (As := [.int (25 : Int32)]) (rest := [.ref 144, .int (0 : Int32)]) (j := 174) (L0 := [(0, .int (25 : Int32))]) (pc' := 19) (L' := [(0, .ref 143), (1, .int (0 : Int32)), (2, .int (25 : Int32))]) h_m250 (z_at.mk 3 rfl rfl) (Or.inl ⟨rfl, rfl⟩) rfl rfl rfl rfl rfl ?_
    refine w_p h_m174 5 (pc' := 6) (L' := [(0, .int (25 : Int32))]) (st' := [.int (95 : Int32)]) rfl ?_
    refine w_ri h_m174 (z_at.mk 1 rfl rfl) rfl rfl ?_
    show z_W 998 250 19 [(0, .ref 143), (1, .int (0 : Int32)), (2, .int (25 : Int32))] [.int (95 : Int32), .ref 144, .int (0 : Int32)] m _
    refine w_al H (t := 0) (j := 95) (pc' := 20) (L' := [(0, .ref 143), (1, .int (0 : Int32)), (2, .int (25 : Int32))]) h_m250 (z_at.mk 1 rfl rfl) rfl rfl rfl (u := .int (0 : Int32)) rfl rfl rfl ?_
    refine w_p h_m250 9 (pc' := 12) (L' := [(0, .ref 143), (1, .int (0 : Int32)), (2, .int (26 : Int32))]) (st' := [.ref 143, .int (0 : Int32)]) rfl ?_
    refine w_gf H (pc' := 15) (L' := [(0, .ref 143), (1, .int (0 : Int32)), (2, .int (26 : Int32))]) h_m250 (z_at.mk 3 rfl rfl) rfl (u := .ref 144) rfl rfl rfl ?_
    refine w_p h_m250 1 (pc' := 16) (L' := [(0, .ref 143), (1, .int (0 : Int32)), (2, .int (26 : Int32))]) (st' := [.int (26 : Int32), .ref 144, .int (0 : Int32)]) rfl ?_
    refine w_cs (As := [.int (26 : Int32)]) (rest := [.ref 144, .int (0 : Int32)]) (j := 174) (L0 := [(0, .int (26 : Int32))]) (pc' := 19) (L' := [(0, .ref 143), (1, .int (0 : Int32)), (2, .int (26 : Int32))]) h_m250 (z_at.mk 3 rfl rfl) (Or.inl ⟨rfl, rfl⟩) rfl rfl rfl rfl rfl ?_
    refine w_p h_m174 5 (pc' := 6) (L' := [(0, .int (26 : Int32))]) (st' := [.int (98 : Int32)]) rfl ?_
    refine w_ri h_m174 (z_at.mk 1 rfl rfl) rfl rfl ?_
    show z_W 998 250 19 [(0, .ref 143), (1, .int (0 : Int32)), (2, .int (26 : Int32))] [.int (98 : Int32), .ref 144, .int (0 : Int32)] m _
    refine w_al H (t := 0) (j := 98) (pc' := 20) (L' := [(0, .ref 143), (1, .int (0 : Int32)), (2, .int (26 : Int32))]) h_m250 (z_at.mk 1 rfl rfl) rfl rfl rfl (u := .int (0 : Int32)) rfl rfl rfl ?_
    refine w_p h_m250 9 (pc' := 12) (L' := [(0, .ref 143), (1, .int (0 : Int32)), (2, .int (27 : Int32))]) (st' := [.ref 143, .int (0 : Int32)]) rfl ?_
    refine w_gf H (pc' := 15) (L' := [(0, .ref 143), (1, .int (0 : Int32)), (2, .int (27 : Int32))]) h_m250 (z_at.mk 3 rfl rfl) rfl (u := .ref 144) rfl rfl rfl ?_
    refine w_p h_m250 1 (pc' := 16) (L' := [(0, .ref 143), (1, .int (0 : Int32)), (2, .int (27 : Int32))]) (st' := [.int (27 : Int32), .ref 144, .int (0 : Int32)]) rfl ?_
    refine w_cs (As := [.int (27 : Int32)]) (rest := [.ref 144, .int (0 : Int32)]) (j := 174) (L0 := [(0, .int (27 : Int32))]) (pc' := 19) (L' := [(0, .ref 143), (1, .int (0 : Int32)), (2, .int (27 : Int32))]) h_m250 (z_at.mk 3 rfl rfl) (Or.inl ⟨rfl, rfl⟩) rfl rfl rfl rfl rfl ?_
    refine w_p h_m174 5 (pc' := 6) (L' := [(0, .int (27 : Int32))]) (st' := [.int (101 : Int32)]) rfl ?_
    refine w_ri h_m174 (z_at.mk 1 rfl rfl) rfl rfl ?_
    show z_W 998 250 19 [(0, .ref 143), (1, .int (0 : Int32)), (2, .int (27 : Int32))] [.int (101 : Int32), .ref 144, .int (0 : Int32)] m _
    refine w_al H (t := 0) (j := 101) (pc' := 20) (L' := [(0, .ref 143), (1, .int (0 : Int32)), (2, .int (27 : Int32))]) h_m250 (z_at.mk 1 rfl rfl) rfl rfl rfl (u := .int (0 : Int32)) rfl rfl rfl ?_
    refine w_p h_m250 9 (pc' := 12) (L' := [(0, .ref 143), (1, .int (0 : Int32)), (2, .int (28 : Int32))]) (st' := [.ref 143, .int (0 : Int32)]) rfl ?_
    refine w_gf H (pc' := 15) (L' := [(0, .ref 143), (1, .int (0 : Int32)), (2, .int (28 : Int32))]) h_m250 (z_at.mk 3 rfl rfl) rfl (u := .ref 144) rfl rfl rfl ?_
    refine w_p h_m250 1 (pc' := 16) (L' := [(0, .ref 143), (1, .int (0 : Int32)), (2, .int (28 : Int32))]) (st' := [.int (28 : Int32), .ref 144, .int (0 : Int32)]) rfl ?_
    refine w_cs (As := [.int (28 : Int32)]) (rest := [.ref 144, .int (0 : Int32)]) (j := 174) (L0 := [(0, .int (28 : Int32))]) (pc' := 19) (L' := [(0, .ref 143), (1, .int (0 : Int32)), (2, .int (28 : Int32))]) h_m250 (z_at.mk 3 rfl rfl) (Or.inl ⟨rfl, rfl⟩) rfl rfl rfl rfl rfl ?_
    refine w_p h_m174 5 (pc' := 6) (L' := [(0, .int (28 : Int32))]) (st' := [.int (104 : Int32)]) rfl ?_
    refine w_ri h_m174 (z_at.mk 1 rfl rfl) rfl rfl ?_
    show z_W 998 250 19 [(0, .ref 143), (1, .int (0 : Int32)), (2, .int (28 : Int32))] [.int (104 : Int32), .ref 144, .int (0 : Int32)] m _
    refine w_al H (t := 0) (j := 104) (pc' := 20) (L' := [(0, .ref 143), (1, .int (0 : Int32)), (2, .int (28 : Int32))]) h_m250 (z_at.mk 1 rfl rfl) rfl rfl rfl (u := .int (0 : Int32)) rfl rfl rfl ?_
    refine w_p h_m250 9 (pc' := 12) (L' := [(0, .ref 143), (1, .int (0 : Int32)), (2, .int (29 : Int32))]) (st' := [.ref 143, .int (0 : Int32)]) rfl ?_
    refine w_gf H (pc' := 15) (L' := [(0, .ref 143), (1, .int (0 : Int32)), (2, .int (29 : Int32))]) h_m250 (z_at.mk 3 rfl rfl) rfl (u := .ref 144) rfl rfl rfl ?_
    refine w_p h_m250 1 (pc' := 16) (L' := [(0, .ref 143), (1, .int (0 : Int32)), (2, .int (29 : Int32))]) (st' := [.int (29 : Int32), .ref 144, .int (0 : Int32)]) rfl ?_
    refine w_cs (As := [.int (29 : Int32)]) (rest := [.ref 144, .int (0 : Int32)]) (j := 174) (L0 := [(0, .int (29 : Int32))]) (pc' := 19) (L' := [(0, .ref 143), (1, .int (0 : Int32)), (2, .int (29 : Int32))]) h_m250 (z_at.mk 3 rfl rfl) (Or.inl ⟨rfl, rfl⟩) rfl rfl rfl rfl rfl ?_
    refine w_p h_m174 5 (pc' := 6) (L' := [(0, .int (29 : Int32))]) (st' := [.int (107 : Int32)]) rfl ?_
    refine w_ri h_m174 (z_at.mk 1 rfl rfl) rfl rfl ?_
    show z_W 998 250 19 [(0, .ref 143), (1, .int (0 : Int32)), (2, .int (29 : Int32))] [.int (107 : Int32), .ref 144, .int (0 : Int32)] m _
    refine w_al H (t := 0) (j := 107) (pc' := 20) (L' := [(0, .ref 143), (1, .int (0 : Int32)), (2, .int (29 : Int32))]) h_m250 (z_at.mk 1 rfl rfl) rfl rfl rfl (u := .int (0 : Int32)) rfl rfl rfl ?_
    refine w_p h_m250 9 (pc' := 12) (L' := [(0, .ref 143), (1, .int (0 : Int32)), (2, .int (30 : Int32))]) (st' := [.ref 143, .int (0 : Int32)]) rfl ?_
    refine w_gf H (pc' := 15) (L' := [(0, .ref 143), (1, .int (0 : Int32)), (2, .int (30 : Int32))]) h_m250 (z_at.mk 3 rfl rfl) rfl (u := .ref 144) rfl rfl rfl ?_
    refine w_p h_m250 1 (pc' := 16) (L' := [(0, .ref 143), (1, .int (0 : Int32)), (2, .int (30 : Int32))]) (st' := [.int (30 : Int32), .ref 144, .int (0 : Int32)]) rfl ?_
    refine w_cs (As := [.int (30 : Int32)]) (rest := [.ref 144, .int (0 : Int32)]) (j := 174) (L0 := [(0, .int (30 : Int32))]) (pc' := 19) (L' := [(0, .ref 143), (1, .int (0 : Int32)), (2, .int (30 : Int32))]) h_m250 (z_at.mk 3 rfl rfl) (Or.inl ⟨rfl, rfl⟩) rfl rfl rfl rfl rfl ?_
    refine w_p h_m174 5 (pc' := 6) (L' := [(0, .int (30 : Int32))]) (st' := [.int (110 : Int32)]) rfl ?_
    refine w_ri h_m174 (z_at.mk 1 rfl rfl) rfl rfl ?_
    show z_W 998 250 19 [(0, .ref 143), (1, .int (0 : Int32)), (2, .int (30 : Int32))] [.int (110 : Int32), .ref 144, .int (0 : Int32)] m _
    refine w_al H (t := 0) (j := 110) (pc' := 20) (L' := [(0, .ref 143), (1, .int (0 : Int32)), (2, .int (30 : Int32))]) h_m250 (z_at.mk 1 rfl rfl) rfl rfl rfl (u := .int (0 : Int32)) rfl rfl rfl ?_
    refine w_p h_m250 9 (pc' := 12) (L' := [(0, .ref 143), (1, .int (0 : Int32)), (2, .int (31 : Int32))]) (st' := [.ref 143, .int (0 : Int32)]) rfl ?_
    refine w_gf H (pc' := 15) (L' := [(0, .ref 143), (1, .int (0 : Int32)), (2, .int (31 : Int32))]) h_m250 (z_at.mk 3 rfl rfl) rfl (u := .ref 144) rfl rfl rfl ?_
    refine w_p h_m250 1 (pc' := 16) (L' := [(0, .ref 143), (1, .int (0 : Int32)), (2, .int (31 : Int32))]) (st' := [.int (31 : Int32), .ref 144, .int (0 : Int32)]) rfl ?_
    refine w_cs (As := [.int (31 : Int32)]) (rest := [.ref 144, .int (0 : Int32)]) (j := 174) (L0 := [(0, .int (31 : Int32))]) (pc' := 19) (L' := [(0, .ref 143), (1, .int (0 : Int32)), (2, .int (31 : Int32))]) h_m250 (z_at.mk 3 rfl rfl) (Or.inl ⟨rfl, rfl⟩) rfl rfl rfl rfl rfl ?_
    refine w_p h_m174 5 (pc' := 6) (L' := [(0, .int (31 : Int32))]) (st' := [.int (113 : Int32)]) rfl ?_
    refine w_ri h_m174 (z_at.mk 1 rfl rfl) rfl rfl ?_
    show z_W 998 250 19 [(0, .ref 143), (1, .int (0 : Int32)), (2, .int (31 : Int32))] [.int (113 : Int32), .ref 144, .int (0 : Int32)] m _
    refine w_al H (t := 0) (j := 113) (pc' := 20) (L' := [(0, .ref 143), (1, .int (0 : Int32)), (2, .int (31 : Int32))]) h_m250 (z_at.mk 1 rfl rfl) rfl rfl rfl (u := .int (0 : Int32)) rfl rfl rfl ?_
    refine w_p h_m250 9 (pc' := 12) (L' := [(0, .ref 143), (1, .int (0 : Int32)), (2, .int (32 : Int32))]) (st' := [.ref 143, .int (0 : Int32)]) rfl ?_
    refine w_gf H (pc' := 15) (L' := [(0, .ref 143), (1, .int (0 : Int32)), (2, .int (32 : Int32))]) h_m250 (z_at.mk 3 rfl rfl) rfl (u := .ref 144) rfl rfl rfl ?_
    refine w_p h_m250 1 (pc' := 16) (L' := [(0, .ref 143), (1, .int (0 : Int32)), (2, .int (32 : Int32))]) (st' := [.int (32 : Int32), .ref 144, .int (0 : Int32)]) rfl ?_
    refine w_cs (As := [.int (32 : Int32)]) (rest := [.ref 144, .int (0 : Int32)]) (j := 174) (L0 := [(0, .int (32 : Int32))]) (pc' := 19) (L' := [(0, .ref 143), (1, .int (0 : Int32)), (2, .int (32 : Int32))]) h_m250 (z_at.mk 3 rfl rfl) (Or.inl ⟨rfl, rfl⟩) rfl rfl rfl rfl rfl ?_
    refine w_p h_m174 5 (pc' := 6) (L' := [(0, .int (32 : Int32))]) (st' := [.int (116 : Int32)]) rfl ?_
    refine w_ri h_m174 (z_at.mk 1 rfl rfl) rfl rfl ?_
    show z_W 998 250 19 [(0, .ref 143), (1, .int (0 : Int32)), (2, .int (32 : Int32))] [.int (116 : Int32), .ref 144, .int (0 : Int32)] m _
    refine w_al H (t := 0) (j := 116) (pc' := 20) (L' := [(0, .ref 143), (1, .int (0 : Int32)), (2, .int (32 : Int32))]) h_m250 (z_at.mk 1 rfl rfl) rfl rfl rfl (u := .int (0 : Int32)) rfl rfl rfl ?_
    refine w_p h_m250 9 (pc' := 12) (L' := [(0, .ref 143), (1, .int (0 : Int32)), (2, .int (33 : Int32))]) (st' := [.ref 143, .int (0 : Int32)]) rfl ?_
    refine w_gf H (pc' := 15) (L' := [(0, .ref 143), (1, .int (0 : Int32)), (2, .int (33 : Int32))]) h_m250 (z_at.mk 3 rfl rfl) rfl (u := .ref 144) rfl rfl rfl ?_
    refine w_p h_m250 1 (pc' := 16) (L' := [(0, .ref 143), (1, .int (0 : Int32)), (2, .int (33 : Int32))]) (st' := [.int (33 : Int32), .ref 144, .int (0 : Int32)]) rfl ?_
    refine w_cs (As := [.int (33 : Int32)]) (rest := [.ref 144, .int (0 : Int32)]) (j := 174) (L0 := [(0, .int (33 : Int32))]) (pc' := 19) (L' := [(0, .ref 143), (1, .int (0 : Int32)), (2, .int (33 : Int32))]) h_m250 (z_at.mk 3 rfl rfl) (Or.inl ⟨rfl, rfl⟩) rfl rfl rfl rfl rfl ?_
    refine w_p h_m174 5 (pc' := 6) (L' := [(0, .int (33 : Int32))]) (st' := [.int (119 : Int32)]) rfl ?_
    refine w_ri h_m174 (z_at.mk 1 rfl rfl) rfl rfl ?_
    show z_W 998 250 19 [(0, .ref 143), (1, .int (0 : Int32)), (2, .int (33 : Int32))] [.int (119 : Int32), .ref 144, .int (0 : Int32)] m _
    refine w_al H (t := 0) (j := 119) (pc' := 20) (L' := [(0, .ref 143), (1, .int (0 : Int32)), (2, .int (33 : Int32))]) h_m250 (z_at.mk 1 rfl rfl) rfl rfl rfl (u := .int (0 : Int32)) rfl rfl rfl ?_
    refine w_p h_m250 9 (pc' := 12) (L' := [(0, .ref 143), (1, .int (0 : Int32)), (2, .int (34 : Int32))]) (st' := [.ref 143, .int (0 : Int32)]) rfl ?_
    refine w_gf H (pc' := 15) (L' := [(0, .ref 143), (1, .int (0 : Int32)), (2, .int (34 : Int32))]) h_m250 (z_at.mk 3 rfl rfl) rfl (u := .ref 144) rfl rfl rfl ?_
    refine w_p h_m250 1 (pc' := 16) (L' := [(0, .ref 143), (1, .int (0 : Int32)), (2, .int (34 : Int32))]) (st' := [.int (34 : Int32), .ref 144, .int (0 : Int32)]) rfl ?_
    refine w_cs (As := [.int (34 : Int32)]) (rest := [.ref 144, .int (0 : Int32)]) (j := 174) (L0 := [(0, .int (34 : Int32))]) (pc' := 19) (L' := [(0, .ref 143), (1, .int (0 : Int32)), (2, .int (34 : Int32))]) h_m250 (z_at.mk 3 rfl rfl) (Or.inl ⟨rfl, rfl⟩) rfl rfl rfl rfl rfl ?_
    refine w_p h_m174 5 (pc' := 6) (L' := [(0, .int (34 : Int32))]) (st' := [.int (122 : Int32)]) rfl ?_
    refine w_ri h_m174 (z_at.mk 1 rfl rfl) rfl rfl ?_
    show z_W 998 250 19 [(0, .ref 143), (1, .int (0 : Int32)), (2, .int (34 : Int32))] [.int (122 : Int32), .ref 144, .int (0 : Int32)] m _
    refine w_al H (t := 0) (j := 122) (pc' := 20) (L' := [(0, .ref 143), (1, .int (0 : Int32)), (2, .int (34 : Int32))]) h_m250 (z_at.mk 1 rfl rfl) rfl rfl rfl (u := .int (0 : Int32)) rfl rfl rfl ?_
    refine w_p h_m250 9 (pc' := 12) (L' := [(0, .ref 143), (1, .int (0 : Int32)), (2, .int (35 : Int32))]) (st' := [.ref 143, .int (0 : Int32)]) rfl ?_
    refine w_gf H (pc' := 15) (L' := [(0, .ref 143), (1, .int (0 : Int32)), (2, .int (35 : Int32))]) h_m250 (z_at.mk 3 rfl rfl) rfl (u := .ref 144) rfl rfl rfl ?_
    refine w_p h_m250 1 (pc' := 16) (L' := [(0, .ref 143), (1, .int (0 : Int32)), (2, .int (35 : Int32))]) (st' := [.int (35 : Int32), .ref 144, .int (0 : Int32)]) rfl ?_
    refine w_cs (As := [.int (35 : Int32)]) (rest := [.ref 144, .int (0 : Int32)]) (j := 174) (L0 := [(0, .int (35 : Int32))]) (pc' := 19) (L' := [(0, .ref 143), (1, .int (0 : Int32)), (2, .int (35 : Int32))]) h_m250 (z_at.mk 3 rfl rfl) (Or.inl ⟨rfl, rfl⟩) rfl rfl rfl rfl rfl ?_
    refine w_p h_m174 5 (pc' := 6) (L' := [(0, .int (35 : Int32))]) (st' := [.int (125 : Int32)]) rfl ?_
    refine w_ri h_m174 (z_at.mk 1 rfl rfl) rfl rfl ?_
    show z_W 998 250 19 [(0, .ref 143), (1, .int (0 : Int32)), (2, .int (35 : Int32))] [.int (125 : Int32), .ref 144, .int (0 : Int32)] m _
    refine w_al H (t := 0) (j := 125) (pc' := 20) (L' := [(0, .ref 143), (1, .int (0 : Int32)), (2, .int (35 : Int32))]) h_m250 (z_at.mk 1 rfl rfl) rfl rfl rfl (u := .int (0 : Int32)) rfl rfl rfl ?_
    refine w_p h_m250 9 (pc' := 12) (L' := [(0, .ref 143), (1, .int (0 : Int32)), (2, .int (36 : Int32))]) (st' := [.ref 143, .int (0 : Int32)]) rfl ?_
    refine w_gf H (pc' := 15) (L' := [(0, .ref 143), (1, .int (0 : Int32)), (2, .int (36 : Int32))]) h_m250 (z_at.mk 3 rfl rfl) rfl (u := .ref 144) rfl rfl rfl ?_
    refine w_p h_m250 1 (pc' := 16) (L' := [(0, .ref 143), (1, .int (0 : Int32)), (2, .int (36 : Int32))]) (st' := [.int (36 : Int32), .ref 144, .int (0 : Int32)]) rfl ?_
    refine w_cs (As := [.int (36 : Int32)]) (rest := [.ref 144, .int (0 : Int32)]) (j := 174) (L0 := [(0, .int (36 : Int32))]) (pc' := 19) (L' := [(0, .ref 143), (1, .int (0 : Int32)), (2, .int (36 : Int32))]) h_m250 (z_at.mk 3 rfl rfl) (Or.inl ⟨rfl, rfl⟩) rfl rfl rfl rfl rfl ?_
    refine w_p h_m174 5 (pc' := 6) (L' := [(0, .int (36 : Int32))]) (st' := [.int (128 : Int32)]) rfl ?_
    refine w_ri h_m174 (z_at.mk 1 rfl rfl) rfl rfl ?_
    show z_W 998 250 19 [(0, .ref 143), (1, .int (0 : Int32)), (2, .int (36 : Int32))] [.int (128 : Int32), .ref 144, .int (0 : Int32)] m _
    refine w_al H (t := 0) (j := 128) (pc' := 20) (L' := [(0, .ref 143), (1, .int (0 : Int32)), (2, .int (36 : Int32))]) h_m250 (z_at.mk 1 rfl rfl) rfl rfl rfl (u := .int (0 : Int32)) rfl rfl rfl ?_
    refine w_p h_m250 9 (pc' := 12) (L' := [(0, .ref 143), (1, .int (0 : Int32)), (2, .int (37 : Int32))]) (st' := [.ref 143, .int (0 : Int32)]) rfl ?_
    refine w_gf H (pc' := 15) (L' := [(0, .ref 143), (1, .int (0 : Int32)), (2, .int (37 : Int32))]) h_m250 (z_at.mk 3 rfl rfl) rfl (u := .ref 144) rfl rfl rfl ?_
    refine w_p h_m250 1 (pc' := 16) (L' := [(0, .ref 143), (1, .int (0 : Int32)), (2, .int (37 : Int32))]) (st' := [.int (37 : Int32), .ref 144, .int (0 : Int32)]) rfl ?_
    refine w_cs (As := [.int (37 : Int32)]) (rest := [.ref 144, .int (0 : Int32)]) (j := 174) (L0 := [(0, .int (37 : Int32))]) (pc' := 19) (L' := [(0, .ref 143), (1, .int (0 : Int32)), (2, .int (37 : Int32))]) h_m250 (z_at.mk 3 rfl rfl) (Or.inl ⟨rfl, rfl⟩) rfl rfl rfl rfl rfl ?_
    refine w_p h_m174 5 (pc' := 6) (L' := [(0, .int (37 : Int32))]) (st' := [.int (131 : Int32)]) rfl ?_
    refine w_ri h_m174 (z_at.mk 1 rfl rfl) rfl rfl ?_
    show z_W 998 250 19 [(0, .ref 143), (1, .int (0 : Int32)), (2, .int (37 : Int32))] [.int (131 : Int32), .ref 144, .int (0 : Int32)] m _
    refine w_al H (t := 0) (j := 131) (pc' := 20) (L' := [(0, .ref 143), (1, .int (0 : Int32)), (2, .int (37 : Int32))]) h_m250 (z_at.mk 1 rfl rfl) rfl rfl rfl (u := .int (0 : Int32)) rfl rfl rfl ?_
    refine w_p h_m250 9 (pc' := 12) (L' := [(0, .ref 143), (1, .int (0 : Int32)), (2, .int (38 : Int32))]) (st' := [.ref 143, .int (0 : Int32)]) rfl ?_
    refine w_gf H (pc' := 15) (L' := [(0, .ref 143), (1, .int (0 : Int32)), (2, .int (38 : Int32))]) h_m250 (z_at.mk 3 rfl rfl) rfl (u := .ref 144) rfl rfl rfl ?_
    refine w_p h_m250 1 (pc' := 16) (L' := [(0, .ref 143), (1, .int (0 : Int32)), (2, .int (38 : Int32))]) (st' := [.int (38 : Int32), .ref 144, .int (0 : Int32)]) rfl ?_
    refine w_cs (As := [.int (38 : Int32)]) (rest := [.ref 144, .int (0 : Int32)]) (j := 174) (L0 := [(0, .int (38 : Int32))]) (pc' := 19) (L' := [(0, .ref 143), (1, .int (0 : Int32)), (2, .int (38 : Int32))]) h_m250 (z_at.mk 3 rfl rfl) (Or.inl ⟨rfl, rfl⟩) rfl rfl rfl rfl rfl ?_
    refine w_p h_m174 5 (pc' := 6) (L' := [(0, .int (38 : Int32))]) (st' := [.int (134 : Int32)]) rfl ?_
    refine w_ri h_m174 (z_at.mk 1 rfl rfl) rfl rfl ?_
    show z_W 998 250 19 [(0, .ref 143), (1, .int (0 : Int32)), (2, .int (38 : Int32))] [.int (134 : Int32), .ref 144, .int (0 : Int32)] m _
    refine w_al H (t := 0) (j := 134) (pc' := 20) (L' := [(0, .ref 143), (1, .int (0 : Int32)), (2, .int (38 : Int32))]) h_m250 (z_at.mk 1 rfl rfl) rfl rfl rfl (u := .int (0 : Int32)) rfl rfl rfl ?_
    refine w_p h_m250 9 (pc' := 12) (L' := [(0, .ref 143), (1, .int (0 : Int32)), (2, .int (39 : Int32))]) (st' := [.ref 143, .int (0 : Int32)]) rfl ?_
    refine w_gf H (pc' := 15) (L' := [(0, .ref 143), (1, .int (0 : Int32)), (2, .int (39 : Int32))]) h_m250 (z_at.mk 3 rfl rfl) rfl (u := .ref 144) rfl rfl rfl ?_
    refine w_p h_m250 1 (pc' := 16) (L' := [(0, .ref 143), (1, .int (0 : Int32)), (2, .int (39 : Int32))]) (st' := [.int (39 : Int32), .ref 144, .int (0 : Int32)]) rfl ?_
    refine w_cs (As := [.int (39 : Int32)]) (rest := [.ref 144, .int (0 : Int32)]) (j := 174) (L0 := [(0, .int (39 : Int32))]) (pc' := 19) (L' := [(0, .ref 143), (1, .int (0 : Int32)), (2, .int (39 : Int32))]) h_m250 (z_at.mk 3 rfl rfl) (Or.inl ⟨rfl, rfl⟩) rfl rfl rfl rfl rfl ?_
    refine w_p h_m174 5 (pc' := 6) (L' := [(0, .int (39 : Int32))]) (st' := [.int (137 : Int32)]) rfl ?_
    refine w_ri h_m174 (z_at.mk 1 rfl rfl) rfl rfl ?_
    show z_W 998 250 19 [(0, .ref 143), (1, .int (0 : Int32)), (2, .int (39 : Int32))] [.int (137 : Int32), .ref 144, .int (0 : Int32)] m _
    refine w_al H (t := 0) (j := 137) (pc' := 20) (L' := [(0, .ref 143), (1, .int (0 : Int32)), (2, .int (39 : Int32))]) h_m250 (z_at.mk 1 rfl rfl) rfl rfl rfl (u := .int (0 : Int32)) rfl rfl rfl ?_
    refine w_p h_m250 9 (pc' := 12) (L' := [(0, .ref 143), (1, .int (0 : Int32)), (2, .int (40 : Int32))]) (st' := [.ref 143, .int (0 : Int32)]) rfl ?_
    refine w_gf H (pc' := 15) (L' := [(0, .ref 143), (1, .int (0 : Int32)), (2, .int (40 : Int32))]) h_m250 (z_at.mk 3 rfl rfl) rfl (u := .ref 144) rfl rfl rfl ?_
    refine w_p h_m250 1 (pc' := 16) (L' := [(0, .ref 143), (1, .int (0 : Int32)), (2, .int (40 : Int32))]) (st' := [.int (40 : Int32), .ref 144, .int (0 : Int32)]) rfl ?_
    refine w_cs (As := [.int (40 : Int32)]) (rest := [.ref 144, .int (0 : Int32)]) (j := 174) (L0 := [(0, .int (40 : Int32))]) (pc' := 19) (L' := [(0, .ref 143), (1, .int (0 : Int32)), (2, .int (40 : Int32))]) h_m250 (z_at.mk 3 rfl rfl) (Or.inl ⟨rfl, rfl⟩) rfl rfl rfl rfl rfl ?_
    refine w_p h_m174 5 (pc' := 6) (L' := [(0, .int (40 : Int32))]) (st' := [.int (140 : Int32)]) rfl ?_
    refine w_ri h_m174 (z_at.mk 1 rfl rfl) rfl rfl ?_
    show z_W 998 250 19 [(0, .ref 143), (1, .int (0 : Int32)), (2, .int (40 : Int32))] [.int (140 : Int32), .ref 144, .int (0 : Int32)] m _
    refine w_al H (t := 0) (j := 140) (pc' := 20) (L' := [(0, .ref 143), (1, .int (0 : Int32)), (2, .int (40 : Int32))]) h_m250 (z_at.mk 1 rfl rfl) rfl rfl rfl (u := .int (0 : Int32)) rfl rfl rfl ?_
    refine w_p h_m250 9 (pc' := 12) (L' := [(0, .ref 143), (1, .int (0 : Int32)), (2, .int (41 : Int32))]) (st' := [.ref 143, .int (0 : Int32)]) rfl ?_
    refine w_gf H (pc' := 15) (L' := [(0, .ref 143), (1, .int (0 : Int32)), (2, .int (41 : Int32))]) h_m250 (z_at.mk 3 rfl rfl) rfl (u := .ref 144) rfl rfl rfl ?_
    refine w_p h_m250 1 (pc' := 16) (L' := [(0, .ref 143), (1, .int (0 : Int32)), (2, .int (41 : Int32))]) (st' := [.int (41 : Int32), .ref 144, .int (0 : Int32)]) rfl ?_
    refine w_cs (As := [.int (41 : Int32)]) (rest := [.ref 144, .int (0 : Int32)]) (j := 174) (L0 := [(0, .int (41 : Int32))]) (pc' := 19) (L' := [(0, .ref 143), (1, .int (0 : Int32)), (2, .int (41 : Int32))]) h_m250 (z_at.mk 3 rfl rfl) (Or.inl ⟨rfl, rfl⟩) rfl rfl rfl rfl rfl ?_
    refine w_p h_m174 5 (pc' := 6) (L' := [(0, .int (41 : Int32))]) (st' := [.int (143 : Int32)]) rfl ?_
    refine w_ri h_m174 (z_at.mk 1 rfl rfl) rfl rfl ?_
    show z_W 998 250 19 [(0, .ref 143), (1, .int (0 : Int32)), (2, .int (41 : Int32))] [.int (143 : Int32), .ref 144, .int (0 : Int32)] m _
    refine w_al H (t := 0) (j := 143) (pc' := 20) (L' := [(0, .ref 143), (1, .int (0 : Int32)), (2, .int (41 : Int32))]) h_m250 (z_at.mk 1 rfl rfl) rfl rfl rfl (u := .int (0 : Int32)) rfl rfl rfl ?_
    refine w_p h_m250 9 (pc' := 12) (L' := [(0, .ref 143), (1, .int (0 : Int32)), (2, .int (42 : Int32))]) (st' := [.ref 143, .int (0 : Int32)]) rfl ?_
    refine w_gf H (pc' := 15) (L' := [(0, .ref 143), (1, .int (0 : Int32)), (2, .int (42 : Int32))]) h_m250 (z_at.mk 3 rfl rfl) rfl (u := .ref 144) rfl rfl rfl ?_
    refine w_p h_m250 1 (pc' := 16) (L' := [(0, .ref 143), (1, .int (0 : Int32)), (2, .int (42 : Int32))]) (st' := [.int (42 : Int32), .ref 144, .int (0 : Int32)]) rfl ?_
    refine w_cs (As := [.int (42 : Int32)]) (rest := [.ref 144, .int (0 : Int32)]) (j := 174) (L0 := [(0, .int (42 : Int32))]) (pc' := 19) (L' := [(0, .ref 143), (1, .int (0 : Int32)), (2, .int (42 : Int32))]) h_m250 (z_at.mk 3 rfl rfl) (Or.inl ⟨rfl, rfl⟩) rfl rfl rfl rfl rfl ?_
    refine w_p h_m174 5 (pc' := 6) (L' := [(0, .int (42 : Int32))]) (st' := [.int (146 : Int32)]) rfl ?_
    refine w_ri h_m174 (z_at.mk 1 rfl rfl) rfl rfl ?_
    show z_W 998 250 19 [(0, .ref 143), (1, .int (0 : Int32)), (2, .int (42 : Int32))] [.int (146 : Int32), .ref 144, .int (0 : Int32)] m _
    refine w_al H (t := 0) (j := 146) (pc' := 20) (L' := [(0, .ref 143), (1, .int (0 : Int32)), (2, .int (42 : Int32))]) h_m250 (z_at.mk 1 rfl rfl) rfl rfl rfl (u := .int (0 : Int32)) rfl rfl rfl ?_
    refine w_p h_m250 9 (pc' := 12) (L' := [(0, .ref 143), (1, .int (0 : Int32)), (2, .int (43 : Int32))]) (st' := [.ref 143, .int (0 : Int32)]) rfl ?_
    refine w_gf H (pc' := 15) (L' := [(0, .ref 143), (1, .int (0 : Int32)), (2, .int (43 : Int32))]) h_m250 (z_at.mk 3 rfl rfl) rfl (u := .ref 144) rfl rfl rfl ?_
    refine w_p h_m250 1 (pc' := 16) (L' := [(0, .ref 143), (1, .int (0 : Int32)), (2, .int (43 : Int32))]) (st' := [.int (43 : Int32), .ref 144, .int (0 : Int32)]) rfl ?_
    refine w_cs (As := [.int (43 : Int32)]) (rest := [.ref 144, .int (0 : Int32)]) (j := 174) (L0 := [(0, .int (43 : Int32))]) (pc' := 19) (L' := [(0, .ref 143), (1, .int (0 : Int32)), (2, .int (43 : Int32))]) h_m250 (z_at.mk 3 rfl rfl) (Or.inl ⟨rfl, rfl⟩) rfl rfl rfl rfl rfl ?_
    refine w_p h_m174 5 (pc' := 6) (L' := [(0, .int (43 : Int32))]) (st' := [.int (149 : Int32)]) rfl ?_
    refine w_ri h_m174 (z_at.mk 1 rfl rfl) rfl rfl ?_
    show z_W 998 250 19 [(0, .ref 143), (1, .int (0 : Int32)), (2, .int (43 : Int32))] [.int (149 : Int32), .ref 144, .int (0 : Int32)] m _
    refine w_al H (t := 0) (j := 149) (pc' := 20) (L' := [(0, .ref 143), (1, .int (0 : Int32)), (2, .int (43 : Int32))]) h_m250 (z_at.mk 1 rfl rfl) rfl rfl rfl (u := .int (0 : Int32)) rfl rfl rfl ?_
    refine w_p h_m250 9 (pc' := 12) (L' := [(0, .ref 143), (1, .int (0 : Int32)), (2, .int (44 : Int32))]) (st' := [.ref 143, .int (0 : Int32)]) rfl ?_
    refine w_gf H (pc' := 15) (L' := [(0, .ref 143), (1, .int (0 : Int32)), (2, .int (44 : Int32))]) h_m250 (z_at.mk 3 rfl rfl) rfl (u := .ref 144) rfl rfl rfl ?_
    refine w_p h_m250 1 (pc' := 16) (L' := [(0, .ref 143), (1, .int (0 : Int32)), (2, .int (44 : Int32))]) (st' := [.int (44 : Int32), .ref 144, .int (0 : Int32)]) rfl ?_
    refine w_cs (As := [.int (44 : Int32)]) (rest := [.ref 144, .int (0 : Int32)]) (j := 174) (L0 := [(0, .int (44 : Int32))]) (pc' := 19) (L' := [(0, .ref 143), (1, .int (0 : Int32)), (2, .int (44 : Int32))]) h_m250 (z_at.mk 3 rfl rfl) (Or.inl ⟨rfl, rfl⟩) rfl rfl rfl rfl rfl ?_
    refine w_p h_m174 5 (pc' := 6) (L' := [(0, .int (44 : Int32))]) (st' := [.int (152 : Int32)]) rfl ?_
    refine w_ri h_m174 (z_at.mk 1 rfl rfl) rfl rfl ?_
    show z_W 998 250 19 [(0, .ref 143), (1, .int (0 : Int32)), (2, .int (44 : Int32))] [.int (152 : Int32), .ref 144, .int (0 : Int32)] m _
    refine w_al H (t := 0) (j := 152) (pc' := 20) (L' := [(0, .ref 143), (1, .int (0 : Int32)), (2, .int (44 : Int32))]) h_m250 (z_at.mk 1 rfl rfl) rfl rfl rfl (u := .int (0 : Int32)) rfl rfl rfl ?_
    refine w_p h_m250 9 (pc' := 12) (L' := [(0, .ref 143), (1, .int (0 : Int32)), (2, .int (45 : Int32))]) (st' := [.ref 143, .int (0 : Int32)]) rfl ?_
    refine w_gf H (pc' := 15) (L' := [(0, .ref 143), (1, .int (0 : Int32)), (2, .int (45 : Int32))]) h_m250 (z_at.mk 3 rfl rfl) rfl (u := .ref 144) rfl rfl rfl ?_
    refine w_p h_m250 1 (pc' := 16) (L' := [(0, .ref 143), (1, .int (0 : Int32)), (2, .int (45 : Int32))]) (st' := [.int (45 : Int32), .ref 144, .int (0 : Int32)]) rfl ?_
    refine w_cs (As := [.int (45 : Int32)]) (rest := [.ref 144, .int (0 : Int32)]) (j := 174) (L0 := [(0, .int (45 : Int32))]) (pc' := 19) (L' := [(0, .ref 143), (1, .int (0 : Int32)), (2, .int (45 : Int32))]) h_m250 (z_at.mk 3 rfl rfl) (Or.inl ⟨rfl, rfl⟩) rfl rfl rfl rfl rfl ?_
    refine w_p h_m174 5 (pc' := 6) (L' := [(0, .int (45 : Int32))]) (st' := [.int (155 : Int32)]) rfl ?_
    refine w_ri h_m174 (z_at.mk 1 rfl rfl) rfl rfl ?_
    show z_W 998 250 19 [(0, .ref 143), (1, .int (0 : Int32)), (2, .int (45 : Int32))] [.int (155 : Int32), .ref 144, .int (0 : Int32)] m _
    refine w_al H (t := 0) (j := 155) (pc' := 20) (L' := [(0, .ref 143), (1, .int (0 : Int32)), (2, .int (45 : Int32))]) h_m250 (z_at.mk 1 rfl rfl) rfl rfl rfl (u := .int (0 : Int32)) rfl rfl rfl ?_
    refine w_p h_m250 9 (pc' := 12) (L' := [(0, .ref 143), (1, .int (0 : Int32)), (2, .int (46 : Int32))]) (st' := [.ref 143, .int (0 : Int32)]) rfl ?_
    refine w_gf H (pc' := 15) (L' := [(0, .ref 143), (1, .int (0 : Int32)), (2, .int (46 : Int32))]) h_m250 (z_at.mk 3 rfl rfl) rfl (u := .ref 144) rfl rfl rfl ?_
    refine w_p h_m250 1 (pc' := 16) (L' := [(0, .ref 143), (1, .int (0 : Int32)), (2, .int (46 : Int32))]) (st' := [.int (46 : Int32), .ref 144, .int (0 : Int32)]) rfl ?_
    refine w_cs (As := [.int (46 : Int32)]) (rest := [.ref 144, .int (0 : Int32)]) (j := 174) (L0 := [(0, .int (46 : Int32))]) (pc' := 19) (L' := [(0, .ref 143), (1, .int (0 : Int32)), (2, .int (46 : Int32))]) h_m250 (z_at.mk 3 rfl rfl) (Or.inl ⟨rfl, rfl⟩) rfl rfl rfl rfl rfl ?_
    refine w_p h_m174 5 (pc' := 6) (L' := [(0, .int (46 : Int32))]) (st' := [.int (158 : Int32)]) rfl ?_
    refine w_ri h_m174 (z_at.mk 1 rfl rfl) rfl rfl ?_
    show z_W 998 250 19 [(0, .ref 143), (1, .int (0 : Int32)), (2, .int (46 : Int32))] [.int (158 : Int32), .ref 144, .int (0 : Int32)] m _
    refine w_al H (t := 0) (j := 158) (pc' := 20) (L' := [(0, .ref 143), (1, .int (0 : Int32)), (2, .int (46 : Int32))]) h_m250 (z_at.mk 1 rfl rfl) rfl rfl rfl (u := .int (0 : Int32)) rfl rfl rfl ?_
    refine w_p h_m250 9 (pc' := 12) (L' := [(0, .ref 143), (1, .int (0 : Int32)), (2, .int (47 : Int32))]) (st' := [.ref 143, .int (0 : Int32)]) rfl ?_
    refine w_gf H (pc' := 15) (L' := [(0, .ref 143), (1, .int (0 : Int32)), (2, .int (47 : Int32))]) h_m250 (z_at.mk 3 rfl rfl) rfl (u := .ref 144) rfl rfl rfl ?_
    refine w_p h_m250 1 (pc' := 16) (L' := [(0, .ref 143), (1, .int (0 : Int32)), (2, .int (47 : Int32))]) (st' := [.int (47 : Int32), .ref 144, .int (0 : Int32)]) rfl ?_
    refine w_cs (As := [.int (47 : Int32)]) (rest := [.ref 144, .int (0 : Int32)]) (j := 174) (L0 := [(0, .int (47 : Int32))]) (pc' := 19) (L' := [(0, .ref 143), (1, .int (0 : Int32)), (2, .int (47 : Int32))]) h_m250 (z_at.mk 3 rfl rfl) (Or.inl ⟨rfl, rfl⟩) rfl rfl rfl rfl rfl ?_
    refine w_p h_m174 5 (pc' := 6) (L' := [(0, .int (47 : Int32))]) (st' := [.int (161 : Int32)]) rfl ?_
    refine w_ri h_m174 (z_at.mk 1 rfl rfl) rfl rfl ?_
    show z_W 998 250 19 [(0, .ref 143), (1, .int (0 : Int32)), (2, .int (47 : Int32))] [.int (161 : Int32), .ref 144, .int (0 : Int32)] m _
    refine w_al H (t := 0) (j := 161) (pc' := 20) (L' := [(0, .ref 143), (1, .int (0 : Int32)), (2, .int (47 : Int32))]) h_m250 (z_at.mk 1 rfl rfl) rfl rfl rfl (u := .int (0 : Int32)) rfl rfl rfl ?_
    refine w_p h_m250 9 (pc' := 12) (L' := [(0, .ref 143), (1, .int (0 : Int32)), (2, .int (48 : Int32))]) (st' := [.ref 143, .int (0 : Int32)]) rfl ?_
    refine w_gf H (pc' := 15) (L' := [(0, .ref 143), (1, .int (0 : Int32)), (2, .int (48 : Int32))]) h_m250 (z_at.mk 3 rfl rfl) rfl (u := .ref 144) rfl rfl rfl ?_
    refine w_p h_m250 1 (pc' := 16) (L' := [(0, .ref 143), (1, .int (0 : Int32)), (2, .int (48 : Int32))]) (st' := [.int (48 : Int32), .ref 144, .int (0 : Int32)]) rfl ?_
    refine w_cs (As := [.int (48 : Int32)]) (rest := [.ref 144, .int (0 : Int32)]) (j := 174) (L0 := [(0, .int (48 : Int32))]) (pc' := 19) (L' := [(0, .ref 143), (1, .int (0 : Int32)), (2, .int (48 : Int32))]) h_m250 (z_at.mk 3 rfl rfl) (Or.inl ⟨rfl, rfl⟩) rfl rfl rfl rfl rfl ?_
    refine w_p h_m174 5 (pc' := 6) (L' := [(0, .int (48 : Int32))]) (st' := [.int (164 : Int32)]) rfl ?_
    refine w_ri h_m174 (z_at.mk 1 rfl rfl) rfl rfl ?_
    show z_W 998 250 19 [(0, .ref 143), (1, .int (0 : Int32)), (2, .int (48 : Int32))] [.int (164 : Int32), .ref 144, .int (0 : Int32)] m _
    refine w_al H (t := 0) (j := 164) (pc' := 20) (L' := [(0, .ref 143), (1, .int (0 : Int32)), (2, .int (48 : Int32))]) h_m250 (z_at.mk 1 rfl rfl) rfl rfl rfl (u := .int (0 : Int32)) rfl rfl rfl ?_
    refine w_p h_m250 9 (pc' := 12) (L' := [(0, .ref 143), (1, .int (0 : Int32)), (2, .int (49 : Int32))]) (st' := [.ref 143, .int (0 : Int32)]) rfl ?_
    refine w_gf H (pc' := 15) (L' := [(0, .ref 143), (1, .int (0 : Int32)), (2, .int (49 : Int32))]) h_m250 (z_at.mk 3 rfl rfl) rfl (u := .ref 144) rfl rfl rfl ?_
    refine w_p h_m250 1 (pc' := 16) (L' := [(0, .ref 143), (1, .int (0 : Int32)), (2, .int (49 : Int32))]) (st' := [.int (49 : Int32), .ref 144, .int (0 : Int32)]) rfl ?_
    refine w_cs (As := [.int (49 : Int32)]) (rest := [.ref 144, .int (0 : Int32)]) (j := 174) (L0 := [(0, .int (49 : Int32))]) (pc' := 19) (L' := [(0, .ref 143), (1, .int (0 : Int32)), (2, .int (49 : Int32))]) h_m250 (z_at.mk 3 rfl rfl) (Or.inl ⟨rfl, rfl⟩) rfl rfl rfl rfl rfl ?_
    refine w_p h_m174 5 (pc' := 6) (L' := [(0, .int (49 : Int32))]) (st' := [.int (167 : Int32)]) rfl ?_
    refine w_ri h_m174 (z_at.mk 1 rfl rfl) rfl rfl ?_
    show z_W 998 250 19 [(0, .ref 143), (1, .int (0 : Int32)), (2, .int (49 : Int32))] [.int (167 : Int32), .ref 144, .int (0 : Int32)] m _
    refine w_al H (t := 0) (j := 167) (pc' := 20) (L' := [(0, .ref 143), (1, .int (0 : Int32)), (2, .int (49 : Int32))]) h_m250 (z_at.mk 1 rfl rfl) rfl rfl rfl (u := .int (0 : Int32)) rfl rfl rfl ?_
    refine w_p h_m250 9 (pc' := 12) (L' := [(0, .ref 143), (1, .int (0 : Int32)), (2, .int (50 : Int32))]) (st' := [.ref 143, .int (0 : Int32)]) rfl ?_
    refine w_gf H (pc' := 15) (L' := [(0, .ref 143), (1, .int (0 : Int32)), (2, .int (50 : Int32))]) h_m250 (z_at.mk 3 rfl rfl) rfl (u := .ref 144) rfl rfl rfl ?_
    refine w_p h_m250 1 (pc' := 16) (L' := [(0, .ref 143), (1, .int (0 : Int32)), (2, .int (50 : Int32))]) (st' := [.int (50 : Int32), .ref 144, .int (0 : Int32)]) rfl ?_
    refine w_cs (As := [.int (50 : Int32)]) (rest := [.ref 144, .int (0 : Int32)]) (j := 174) (L0 := [(0, .int (50 : Int32))]) (pc' := 19) (L' := [(0, .ref 143), (1, .int (0 : Int32)), (2, .int (50 : Int32))]) h_m250 (z_at.mk 3 rfl rfl) (Or.inl ⟨rfl, rfl⟩) rfl rfl rfl rfl rfl ?_
    refine w_p h_m174 5 (pc' := 6) (L' := [(0, .int (50 : Int32))]) (st' := [.int (170 : Int32)]) rfl ?_
    refine w_ri h_m174 (z_at.mk 1 rfl rfl) rfl rfl ?_
    show z_W 998 250 19 [(0, .ref 143), (1, .int (0 : Int32)), (2, .int (50 : Int32))] [.int (170 : Int32), .ref 144, .int (0 : Int32)] m _
    refine w_al H (t := 0) (j := 170) (pc' := 20) (L' := [(0, .ref 143), (1, .int (0 : Int32)), (2, .int (50 : Int32))]) h_m250 (z_at.mk 1 rfl rfl) rfl rfl rfl (u := .int (0 : Int32)) rfl rfl rfl ?_
    refine w_p h_m250 9 (pc' := 12) (L' := [(0, .ref 143), (1, .int (0 : Int32)), (2, .int (51 : Int32))]) (st' := [.ref 143, .int (0 : Int32)]) rfl ?_
    refine w_gf H (pc' := 15) (L' := [(0, .ref 143), (1, .int (0 : Int32)), (2, .int (51 : Int32))]) h_m250 (z_at.mk 3 rfl rfl) rfl (u := .ref 144) rfl rfl rfl ?_
    refine w_p h_m250 1 (pc' := 16) (L' := [(0, .ref 143), (1, .int (0 : Int32)), (2, .int (51 : Int32))]) (st' := [.int (51 : Int32), .ref 144, .int (0 : Int32)]) rfl ?_
    refine w_cs (As := [.int (51 : Int32)]) (rest := [.ref 144, .int (0 : Int32)]) (j := 174) (L0 := [(0, .int (51 : Int32))]) (pc' := 19) (L' := [(0, .ref 143), (1, .int (0 : Int32)), (2, .int (51 : Int32))]) h_m250 (z_at.mk 3 rfl rfl) (Or.inl ⟨rfl, rfl⟩) rfl rfl rfl rfl rfl ?_
    refine w_p h_m174 5 (pc' := 6) (L' := [(0, .int (51 : Int32))]) (st' := [.int (173 : Int32)]) rfl ?_
    refine w_ri h_m174 (z_at.mk 1 rfl rfl) rfl rfl ?_
    show z_W 998 250 19 [(0, .ref 143), (1, .int (0 : Int32)), (2, .int (51 : Int32))] [.int (173 : Int32), .ref 144, .int (0 : Int32)] m _
    refine w_al H (t := 0) (j := 173) (pc' := 20) (L' := [(0, .ref 143), (1, .int (0 : Int32)), (2, .int (51 : Int32))]) h_m250 (z_at.mk 1 rfl rfl) rfl rfl rfl (u := .int (0 : Int32)) rfl rfl rfl ?_
    refine w_p h_m250 9 (pc' := 12) (L' := [(0, .ref 143), (1, .int (0 : Int32)), (2, .int (52 : Int32))]) (st' := [.ref 143, .int (0 : Int32)]) rfl ?_
    refine w_gf H (pc' := 15) (L' := [(0, .ref 143), (1, .int (0 : Int32)), (2, .int (52 : Int32))]) h_m250 (z_at.mk 3 rfl rfl) rfl (u := .ref 144) rfl rfl rfl ?_
    refine w_p h_m250 1 (pc' := 16) (L' := [(0, .ref 143), (1, .int (0 : Int32)), (2, .int (52 : Int32))]) (st' := [.int (52 : Int32), .ref 144, .int (0 : Int32)]) rfl ?_
    refine w_cs (As := [.int (52 : Int32)]) (rest := [.ref 144, .int (0 : Int32)]) (j := 174) (L0 := [(0, .int (52 : Int32))]) (pc' := 19) (L' := [(0, .ref 143), (1, .int (0 : Int32)), (2, .int (52 : Int32))]) h_m250 (z_at.mk 3 rfl rfl) (Or.inl ⟨rfl, rfl⟩) rfl rfl rfl rfl rfl ?_
    refine w_p h_m174 5 (pc' := 6) (L' := [(0, .int (52 : Int32))]) (st' := [.int (176 : Int32)]) rfl ?_
    refine w_ri h_m174 (z_at.mk 1 rfl rfl) rfl rfl ?_
    show z_W 998 250 19 [(0, .ref 143), (1, .int (0 : Int32)), (2, .int (52 : Int32))] [.int (176 : Int32), .ref 144, .int (0 : Int32)] m _
    refine w_al H (t := 0) (j := 176) (pc' := 20) (L' := [(0, .ref 143), (1, .int (0 : Int32)), (2, .int (52 : Int32))]) h_m250 (z_at.mk 1 rfl rfl) rfl rfl rfl (u := .int (0 : Int32)) rfl rfl rfl ?_
    refine w_p h_m250 9 (pc' := 12) (L' := [(0, .ref 143), (1, .int (0 : Int32)), (2, .int (53 : Int32))]) (st' := [.ref 143, .int (0 : Int32)]) rfl ?_
    refine w_gf H (pc' := 15) (L' := [(0, .ref 143), (1, .int (0 : Int32)), (2, .int (53 : Int32))]) h_m250 (z_at.mk 3 rfl rfl) rfl (u := .ref 144) rfl rfl rfl ?_
    refine w_p h_m250 1 (pc' := 16) (L' := [(0, .ref 143), (1, .int (0 : Int32)), (2, .int (53 : Int32))]) (st' := [.int (53 : Int32), .ref 144, .int (0 : Int32)]) rfl ?_
    refine w_cs (As := [.int (53 : Int32)]) (rest := [.ref 144, .int (0 : Int32)]) (j := 174) (L0 := [(0, .int (53 : Int32))]) (pc' := 19) (L' := [(0, .ref 143), (1, .int (0 : Int32)), (2, .int (53 : Int32))]) h_m250 (z_at.mk 3 rfl rfl) (Or.inl ⟨rfl, rfl⟩) rfl rfl rfl rfl rfl ?_
    refine w_p h_m174 5 (pc' := 6) (L' := [(0, .int (53 : Int32))]) (st' := [.int (179 : Int32)]) rfl ?_
    refine w_ri h_m174 (z_at.mk 1 rfl rfl) rfl rfl ?_
    show z_W 998 250 19 [(0, .ref 143), (1, .int (0 : Int32)), (2, .int (53 : Int32))] [.int (179 : Int32), .ref 144, .int (0 : Int32)] m _
    refine w_al H (t := 0) (j := 179) (pc' := 20) (L' := [(0, .ref 143), (1, .int (0 : Int32)), (2, .int (53 : Int32))]) h_m250 (z_at.mk 1 rfl rfl) rfl rfl rfl (u := .int (0 : Int32)) rfl rfl rfl ?_
    refine w_p h_m250 9 (pc' := 12) (L' := [(0, .ref 143), (1, .int (0 : Int32)), (2, .int (54 : Int32))]) (st' := [.ref 143, .int (0 : Int32)]) rfl ?_
    refine w_gf H (pc' := 15) (L' := [(0, .ref 143), (1, .int (0 : Int32)), (2, .int (54 : Int32))]) h_m250 (z_at.mk 3 rfl rfl) rfl (u := .ref 144) rfl rfl rfl ?_
    refine w_p h_m250 1 (pc' := 16) (L' := [(0, .ref 143), (1, .int (0 : Int32)), (2, .int (54 : Int32))]) (st' := [.int (54 : Int32), .ref 144, .int (0 : Int32)]) rfl ?_
    refine w_cs (As := [.int (54 : Int32)]) (rest := [.ref 144, .int (0 : Int32)]) (j := 174) (L0 := [(0, .int (54 : Int32))]) (pc' := 19) (L' := [(0, .ref 143), (1, .int (0 : Int32)), (2, .int (54 : Int32))]) h_m250 (z_at.mk 3 rfl rfl) (Or.inl ⟨rfl, rfl⟩) rfl rfl rfl rfl rfl ?_
    refine w_p h_m174 5 (pc' := 6) (L' := [(0, .int (54 : Int32))]) (st' := [.int (182 : Int32)]) rfl ?_
    refine w_ri h_m174 (z_at.mk 1 rfl rfl) rfl rfl ?_
    show z_W 998 250 19 [(0, .ref 143), (1, .int (0 : Int32)), (2, .int (54 : Int32))] [.int (182 : Int32), .ref 144, .int (0 : Int32)] m _
    refine w_al H (t := 0) (j := 182) (pc' := 20) (L' := [(0, .ref 143), (1, .int (0 : Int32)), (2, .int (54 : Int32))]) h_m250 (z_at.mk 1 rfl rfl) rfl rfl rfl (u := .int (0 : Int32)) rfl rfl rfl ?_
    refine w_p h_m250 9 (pc' := 12) (L' := [(0, .ref 143), (1, .int (0 : Int32)), (2, .int (55 : Int32))]) (st' := [.ref 143, .int (0 : Int32)]) rfl ?_
    refine w_gf H (pc' := 15) (L' := [(0, .ref 143), (1, .int (0 : Int32)), (2, .int (55 : Int32))]) h_m250 (z_at.mk 3 rfl rfl) rfl (u := .ref 144) rfl rfl rfl ?_
    refine w_p h_m250 1 (pc' := 16) (L' := [(0, .ref 143), (1, .int (0 : Int32)), (2, .int (55 : Int32))]) (st' := [.int (55 : Int32), .ref 144, .int (0 : Int32)]) rfl ?_
    refine w_cs (As := [.int (55 : Int32)]) (rest := [.ref 144, .int (0 : Int32)]) (j := 174) (L0 := [(0, .int (55 : Int32))]) (pc' := 19) (L' := [(0, .ref 143), (1, .int (0 : Int32)), (2, .int (55 : Int32))]) h_m250 (z_at.mk 3 rfl rfl) (Or.inl ⟨rfl, rfl⟩) rfl rfl rfl rfl rfl ?_
    refine w_p h_m174 5 (pc' := 6) (L' := [(0, .int (55 : Int32))]) (st' := [.int (185 : Int32)]) rfl ?_
    refine w_ri h_m174 (z_at.mk 1 rfl rfl) rfl rfl ?_
    show z_W 998 250 19 [(0, .ref 143), (1, .int (0 : Int32)), (2, .int (55 : Int32))] [.int (185 : Int32), .ref 144, .int (0 : Int32)] m _
    refine w_al H (t := 0) (j := 185) (pc' := 20) (L' := [(0, .ref 143), (1, .int (0 : Int32)), (2, .int (55 : Int32))]) h_m250 (z_at.mk 1 rfl rfl) rfl rfl rfl (u := .int (0 : Int32)) rfl rfl rfl ?_
    refine w_p h_m250 9 (pc' := 12) (L' := [(0, .ref 143), (1, .int (0 : Int32)), (2, .int (56 : Int32))]) (st' := [.ref 143, .int (0 : Int32)]) rfl ?_
    refine w_gf H (pc' := 15) (L' := [(0, .ref 143), (1, .int (0 : Int32)), (2, .int (56 : Int32))]) h_m250 (z_at.mk 3 rfl rfl) rfl (u := .ref 144) rfl rfl rfl ?_
    refine w_p h_m250 1 (pc' := 16) (L' := [(0, .ref 143), (1, .int (0 : Int32)), (2, .int (56 : Int32))]) (st' := [.int (56 : Int32), .ref 144, .int (0 : Int32)]) rfl ?_
    refine w_cs (As := [.int (56 : Int32)]) (rest := [.ref 144, .int (0 : Int32)]) (j := 174) (L0 := [(0, .int (56 : Int32))]) (pc' := 19) (L' := [(0, .ref 143), (1, .int (0 : Int32)), (2, .int (56 : Int32))]) h_m250 (z_at.mk 3 rfl rfl) (Or.inl ⟨rfl, rfl⟩) rfl rfl rfl rfl rfl ?_
    refine w_p h_m174 5 (pc' := 6) (L' := [(0, .int (56 : Int32))]) (st' := [.int (188 : Int32)]) rfl ?_
    refine w_ri h_m174 (z_at.mk 1 rfl rfl) rfl rfl ?_
    show z_W 998 250 19 [(0, .ref 143), (1, .int (0 : Int32)), (2, .int (56 : Int32))] [.int (188 : Int32), .ref 144, .int (0 : Int32)] m _
    refine w_al H (t := 0) (j := 188) (pc' := 20) (L' := [(0, .ref 143), (1, .int (0 : Int32)), (2, .int (56 : Int32))]) h_m250 (z_at.mk 1 rfl rfl) rfl rfl rfl (u := .int (0 : Int32)) rfl rfl rfl ?_
    refine w_p h_m250 9 (pc' := 12) (L' := [(0, .ref 143), (1, .int (0 : Int32)), (2, .int (57 : Int32))]) (st' := [.ref 143, .int (0 : Int32)]) rfl ?_
    refine w_gf H (pc' := 15) (L' := [(0, .ref 143), (1, .int (0 : Int32)), (2, .int (57 : Int32))]) h_m250 (z_at.mk 3 rfl rfl) rfl (u := .ref 144) rfl rfl rfl ?_
    refine w_p h_m250 1 (pc' := 16) (L' := [(0, .ref 143), (1, .int (0 : Int32)), (2, .int (57 : Int32))]) (st' := [.int (57 : Int32), .ref 144, .int (0 : Int32)]) rfl ?_
    refine w_cs (As := [.int (57 : Int32)]) (rest := [.ref 144, .int (0 : Int32)]) (j := 174) (L0 := [(0, .int (57 : Int32))]) (pc' := 19) (L' := [(0, .ref 143), (1, .int (0 : Int32)), (2, .int (57 : Int32))]) h_m250 (z_at.mk 3 rfl rfl) (Or.inl ⟨rfl, rfl⟩) rfl rfl rfl rfl rfl ?_
    refine w_p h_m174 5 (pc' := 6) (L' := [(0, .int (57 : Int32))]) (st' := [.int (191 : Int32)]) rfl ?_
    refine w_ri h_m174 (z_at.mk 1 rfl rfl) rfl rfl ?_
    show z_W 998 250 19 [(0, .ref 143), (1, .int (0 : Int32)), (2, .int (57 : Int32))] [.int (191 : Int32), .ref 144, .int (0 : Int32)] m _
    refine w_al H (t := 0) (j := 191) (pc' := 20) (L' := [(0, .ref 143), (1, .int (0 : Int32)), (2, .int (57 : Int32))]) h_m250 (z_at.mk 1 rfl rfl) rfl rfl rfl (u := .int (0 : Int32)) rfl rfl rfl ?_
    refine w_p h_m250 9 (pc' := 12) (L' := [(0, .ref 143), (1, .int (0 : Int32)), (2, .int (58 : Int32))]) (st' := [.ref 143, .int (0 : Int32)]) rfl ?_
    refine w_gf H (pc' := 15) (L' := [(0, .ref 143), (1, .int (0 : Int32)), (2, .int (58 : Int32))]) h_m250 (z_at.mk 3 rfl rfl) rfl (u := .ref 144) rfl rfl rfl ?_
    refine w_p h_m250 1 (pc' := 16) (L' := [(0, .ref 143), (1, .int (0 : Int32)), (2, .int (58 : Int32))]) (st' := [.int (58 : Int32), .ref 144, .int (0 : Int32)]) rfl ?_
    refine w_cs (As := [.int (58 : Int32)]) (rest := [.ref 144, .int (0 : Int32)]) (j := 174) (L0 := [(0, .int (58 : Int32))]) (pc' := 19) (L' := [(0, .ref 143), (1, .int (0 : Int32)), (2, .int (58 : Int32))]) h_m250 (z_at.mk 3 rfl rfl) (Or.inl ⟨rfl, rfl⟩) rfl rfl rfl rfl rfl ?_
    refine w_p h_m174 5 (pc' := 6) (L' := [(0, .int (58 : Int32))]) (st' := [.int (194 : Int32)]) rfl ?_
    refine w_ri h_m174 (z_at.mk 1 rfl rfl) rfl rfl ?_
    show z_W 998 250 19 [(0, .ref 143), (1, .int (0 : Int32)), (2, .int (58 : Int32))] [.int (194 : Int32), .ref 144, .int (0 : Int32)] m _
    refine w_al H (t := 0) (j := 194) (pc' := 20) (L' := [(0, .ref 143), (1, .int (0 : Int32)), (2, .int (58 : Int32))]) h_m250 (z_at.mk 1 rfl rfl) rfl rfl rfl (u := .int (0 : Int32)) rfl rfl rfl ?_
    refine w_p h_m250 9 (pc' := 12) (L' := [(0, .ref 143), (1, .int (0 : Int32)), (2, .int (59 : Int32))]) (st' := [.ref 143, .int (0 : Int32)]) rfl ?_
    refine w_gf H (pc' := 15) (L' := [(0, .ref 143), (1, .int (0 : Int32)), (2, .int (59 : Int32))]) h_m250 (z_at.mk 3 rfl rfl) rfl (u := .ref 144) rfl rfl rfl ?_
    refine w_p h_m250 1 (pc' := 16) (L' := [(0, .ref 143), (1, .int (0 : Int32)), (2, .int (59 : Int32))]) (st' := [.int (59 : Int32), .ref 144, .int (0 : Int32)]) rfl ?_
    refine w_cs (As := [.int (59 : Int32)]) (rest := [.ref 144, .int (0 : Int32)]) (j := 174) (L0 := [(0, .int (59 : Int32))]) (pc' := 19) (L' := [(0, .ref 143), (1, .int (0 : Int32)), (2, .int (59 : Int32))]) h_m250 (z_at.mk 3 rfl rfl) (Or.inl ⟨rfl, rfl⟩) rfl rfl rfl rfl rfl ?_
    refine w_p h_m174 5 (pc' := 6) (L' := [(0, .int (59 : Int32))]) (st' := [.int (197 : Int32)]) rfl ?_
    refine w_ri h_m174 (z_at.mk 1 rfl rfl) rfl rfl ?_
    show z_W 998 250 19 [(0, .ref 143), (1, .int (0 : Int32)), (2, .int (59 : Int32))] [.int (197 : Int32), .ref 144, .int (0 : Int32)] m _
    refine w_al H (t := 0) (j := 197) (pc' := 20) (L' := [(0, .ref 143), (1, .int (0 : Int32)), (2, .int (59 : Int32))]) h_m250 (z_at.mk 1 rfl rfl) rfl rfl rfl (u := .int (0 : Int32)) rfl rfl rfl ?_
    refine w_p h_m250 8 (pc' := 29) (L' := [(0, .ref 143), (1, .int (0 : Int32)), (2, .int (60 : Int32))]) (st' := [.int (0 : Int32)]) rfl ?_
    refine w_ri h_m250 (z_at.mk 1 rfl rfl) rfl rfl ?_
    show z_W 999 251 76 [(0, .ref 143), (1, .int (xs 1))] [.int (0 : Int32)] m _
    refine w_p h_m251 2 (pc' := 97) (L' := []) (st' := [.long (0 : Int64)]) rfl ?_
    refine w_rl h_m251 (z_at.mk 1 rfl rfl) rfl ?_
    show z_W 1000 1000 818 [(0, .ref 0), (1, .ref 39), (2, .ref 143), (3, .int (0 : Int32))] [.long (0 : Int64), .long (0 : Int64)] m _
    refine w_p h_m1000 6 (pc' := 20) (L' := [(0, .ref 0), (1, .ref 39), (2, .ref 143), (3, .int (6 : Int32))]) (st' := [.ref 0, .int (6 : Int32)]) rfl ?_
    refine w_lene H (x := (6 : Int32)) (pc' := 21) (L' := [(0, .ref 0), (1, .ref 39), (2, .ref 143), (3, .int (6 : Int32))]) h_m1000 (z_at.mk 1 rfl rfl) (by decide) rfl (by decide) rfl rfl rfl ?_
    refine w_p h_m1000 4 (pc' := 1381) (L' := [(0, .ref 0), (1, .ref 39), (2, .ref 143), (3, .int (6 : Int32))]) (st' := [.int (1 : Int32)]) rfl ?_
    refine w_ri h_m1000 (z_at.mk 1 rfl rfl) rfl rfl ?_
    exact hQ _ _ _ _ H (by decide) (by decide)
  by_cases c_11 : (xs 1).toInt = 10
  · refine w_sw (off := 178) (pc' := 179) (L' := [(0, .ref 39), (1, .int (xs 1))]) h_m140 (z_at.mk 59 rfl rfl) (z_off_v (v := 10) c_11 (by decide)) rfl rfl rfl ?_
    refine w_p h_m140 1 (pc' := 180) (L' := [(0, .ref 39), (1, .int (xs 1))]) (st' := [.ref 39]) rfl ?_
    refine w_gf H (pc' := 183) (L' := [(0, .ref 39), (1, .int (xs 1))]) h_m140 (z_at.mk 3 rfl rfl) rfl (u := .ref 129) rfl rfl rfl ?_
    refine w_cv (H.t rfl) (pc' := 186) (L' := [(0, .ref 39), (1, .int (xs 1))]) (rest := []) (Ps := []) (L0 := [(0, .ref 129)]) h_m140 (z_at.mk 3 rfl rfl) (Or.inl ⟨rfl, rfl⟩) rfl rfl (by decide) (by decide) rfl rfl rfl rfl rfl rfl (by decide) rfl rfl rfl ?_
    refine w_p h_m307 1 (pc' := 1) (L' := [(0, .ref 129)]) (st' := [.ref 129]) rfl ?_
    refine w_cv (H.t rfl) (pc' := 4) (L' := [(0, .ref 129)]) (rest := []) (Ps := []) (L0 := [(0, .ref 129)]) h_m307 (z_at.mk 3 rfl rfl) (Or.inr ⟨rfl, rfl, rfl⟩) rfl rfl (by decide) (by decide) rfl rfl rfl rfl rfl rfl (by decide) rfl rfl rfl ?_
    refine w_p h_m273 1 (pc' := 1) (L' := [(0, .ref 129)]) (st' := [.ref 129]) rfl ?_
    refine w_gf H (pc' := 4) (L' := [(0, .ref 129)]) h_m273 (z_at.mk 3 rfl rfl) rfl (u := .int (0 : Int32)) rfl rfl rfl ?_
    refine w_ri h_m273 (z_at.mk 1 rfl rfl) rfl rfl ?_
    show z_W 998 307 4 [(0, .ref 129)] [.int (0 : Int32)] m _
    refine w_ri h_m307 (z_at.mk 1 rfl rfl) rfl rfl ?_
    show z_W 999 140 186 [(0, .ref 39), (1, .int (xs 1))] [.int (0 : Int32)] m _
    refine w_p h_m140 1 (pc' := 187) (L' := [(0, .ref 39), (1, .int (xs 1))]) (st' := [.long (0 : Int64)]) rfl ?_
    refine w_rl h_m140 (z_at.mk 1 rfl rfl) rfl ?_
    show z_W 1000 1000 809 [(0, .ref 0), (1, .ref 39), (2, .ref 143), (3, .int (0 : Int32))] [.long (0 : Int64)] m _
    refine w_p h_m1000 5 (pc' := 814) (L' := [(0, .ref 0), (1, .ref 39), (2, .ref 143), (3, .int (0 : Int32))]) (st' := [.int (1 : Int32), .ref 0, .ref 143, .long (0 : Int64)]) rfl ?_
    refine w_ae H (j := 1) (pc' := 815) (L' := [(0, .ref 0), (1, .ref 39), (2, .ref 143), (3, .int (0 : Int32))]) h_m1000 (z_at.mk 1 rfl rfl) rfl rfl rfl (by decide) rfl (by decide) rfl rfl rfl ?_
    refine w_cv (H.t rfl) (pc' := 818) (L' := [(0, .ref 0), (1, .ref 39), (2, .ref 143), (3, .int (0 : Int32))]) (rest := [.long (0 : Int64)]) (Ps := [.int (xs 1)]) (L0 := [(0, .ref 143), (1, .int (xs 1))]) h_m1000 (z_at.mk 3 rfl rfl) (Or.inl ⟨rfl, rfl⟩) rfl rfl (by decide) (by decide) rfl rfl rfl rfl rfl rfl (by decide) rfl rfl rfl ?_
    refine w_p h_m251 1 (pc' := 1) (L' := [(0, .ref 143), (1, .int (xs 1))]) (st' := [.int (xs 1)]) rfl ?_
    refine w_t1 (pc' := 14) (L' := [(0, .ref 143), (1, .int (xs 1))]) h_m251 (z_at.mk 3 rfl rfl) rfl (zc (a := (xs 1).toInt) (b := 0) rfl rfl (decide_eq_true (by omega))) rfl rfl ?_
    refine w_p h_m251 2 (pc' := 16) (L' := [(0, .ref 143), (1, .int (xs 1))]) (st' := [.int (1 : Int32), .int (xs 1)]) rfl ?_
    refine w_t2 (pc' := 27) (L' := [(0, .ref 143), (1, .int (xs 1))]) h_m251 (z_at.mk 3 rfl rfl) rfl (zc (a := (xs 1).toInt) (b := 1) rfl rfl (decide_eq_true (by omega))) rfl rfl ?_
    refine w_p h_m251 3 (pc' := 31) (L' := [(0, .ref 143), (1, .int (xs 1))]) (st' := [.int (7 : Int32), .int (2 : Int32), .int (xs 1)]) rfl ?_
    refine w_cs (As := [.int (xs 1), .int (2 : Int32), .int (7 : Int32)]) (rest := []) (j := 159) (L0 := [(0, .int (xs 1)), (1, .int (2 : Int32)), (2, .int (7 : Int32))]) (pc' := 34) (L' := [(0, .ref 143), (1, .int (xs 1))]) h_m251 (z_at.mk 3 rfl rfl) (Or.inl ⟨rfl, rfl⟩) rfl rfl rfl rfl rfl ?_
    refine w_p h_m159 2 (pc' := 2) (L' := [(0, .int (xs 1)), (1, .int (2 : Int32)), (2, .int (7 : Int32))]) (st' := [.int (2 : Int32), .int (xs 1)]) rfl ?_
    refine w_f2 (pc' := 5) (L' := [(0, .int (xs 1)), (1, .int (2 : Int32)), (2, .int (7 : Int32))]) h_m159 (z_at.mk 3 rfl rfl) rfl (zc (a := (xs 1).toInt) (b := 2) rfl rfl (decide_eq_false (by omega))) rfl rfl ?_
    refine w_p h_m159 2 (pc' := 7) (L' := [(0, .int (xs 1)), (1, .int (2 : Int32)), (2, .int (7 : Int32))]) (st' := [.int (7 : Int32), .int (xs 1)]) rfl ?_
    refine w_t2 (pc' := 14) (L' := []) h_m159 (z_at.mk 3 rfl rfl) rfl (zc (a := (xs 1).toInt) (b := 7) rfl rfl (decide_eq_true (by omega))) rfl rfl ?_
    refine w_p h_m159 1 (pc' := 15) (L' := []) (st' := [.int (0 : Int32)]) rfl ?_
    refine w_ri h_m159 (z_at.mk 1 rfl rfl) rfl rfl ?_
    show z_W 999 251 34 [(0, .ref 143), (1, .int (xs 1))] [.int (0 : Int32)] m _
    refine w_p h_m251 3 (pc' := 54) (L' := [(0, .ref 143), (1, .int (xs 1))]) (st' := [.int (8 : Int32), .int (xs 1)]) rfl ?_
    refine w_t2 (pc' := 66) (L' := [(0, .ref 143), (1, .int (xs 1))]) h_m251 (z_at.mk 3 rfl rfl) rfl (zc (a := (xs 1).toInt) (b := 8) rfl rfl (decide_eq_true (by omega))) rfl rfl ?_
    refine w_p h_m251 2 (pc' := 69) (L' := [(0, .ref 143), (1, .int (xs 1))]) (st' := [.int (9 : Int32), .int (xs 1)]) rfl ?_
    refine w_t2 (pc' := 80) (L' := [(0, .ref 143), (1, .int (xs 1))]) h_m251 (z_at.mk 3 rfl rfl) rfl (zc (a := (xs 1).toInt) (b := 9) rfl rfl (decide_eq_true (by omega))) rfl rfl ?_
    refine w_p h_m251 2 (pc' := 83) (L' := [(0, .ref 143), (1, .int (xs 1))]) (st' := [.int (10 : Int32), .int (xs 1)]) rfl ?_
    refine w_f2 (pc' := 86) (L' := [(0, .ref 143), (1, .int (xs 1))]) h_m251 (z_at.mk 3 rfl rfl) rfl (zc (a := (xs 1).toInt) (b := 10) rfl rfl (decide_eq_false (by omega))) rfl rfl ?_
    refine w_p h_m251 1 (pc' := 87) (L' := [(0, .ref 143), (1, .int (xs 1))]) (st' := [.ref 143]) rfl ?_
    refine w_gf H (pc' := 90) (L' := [(0, .ref 143), (1, .int (xs 1))]) h_m251 (z_at.mk 3 rfl rfl) rfl (u := .int (0 : Int32)) rfl rfl rfl ?_
    refine w_p h_m251 2 (pc' := 97) (L' := []) (st' := [.long (0 : Int64)]) rfl ?_
    refine w_rl h_m251 (z_at.mk 1 rfl rfl) rfl ?_
    show z_W 1000 1000 818 [(0, .ref 0), (1, .ref 39), (2, .ref 143), (3, .int (0 : Int32))] [.long (0 : Int64), .long (0 : Int64)] m _
    refine w_p h_m1000 6 (pc' := 20) (L' := [(0, .ref 0), (1, .ref 39), (2, .ref 143), (3, .int (6 : Int32))]) (st' := [.ref 0, .int (6 : Int32)]) rfl ?_
    refine w_lene H (x := (6 : Int32)) (pc' := 21) (L' := [(0, .ref 0), (1, .ref 39), (2, .ref 143), (3, .int (6 : Int32))]) h_m1000 (z_at.mk 1 rfl rfl) (by decide) rfl (by decide) rfl rfl rfl ?_
    refine w_p h_m1000 4 (pc' := 1381) (L' := [(0, .ref 0), (1, .ref 39), (2, .ref 143), (3, .int (6 : Int32))]) (st' := [.int (1 : Int32)]) rfl ?_
    refine w_ri h_m1000 (z_at.mk 1 rfl rfl) rfl rfl ?_
    exact hQ _ _ _ _ H (by decide) (by decide)
  refine w_sw (off := 187) (pc' := 188) (L' := [(0, .ref 39), (1, .int (xs 1))]) h_m140 (z_at.mk 59 rfl rfl) (z_off_out (by omega)) rfl rfl rfl ?_
  refine w_p h_m140 1 (pc' := 191) (L' := [(0, .ref 39), (1, .int (xs 1))]) (st' := [.long (-9223372036854775808 : Int64)]) rfl ?_
  refine w_rl h_m140 (z_at.mk 1 rfl rfl) rfl ?_
  show z_W 1000 1000 809 [(0, .ref 0), (1, .ref 39), (2, .ref 143), (3, .int (0 : Int32))] [.long (-9223372036854775808 : Int64)] m _
  refine w_p h_m1000 5 (pc' := 814) (L' := [(0, .ref 0), (1, .ref 39), (2, .ref 143), (3, .int (0 : Int32))]) (st' := [.int (1 : Int32), .ref 0, .ref 143, .long (-9223372036854775808 : Int64)]) rfl ?_
  refine w_ae H (j := 1) (pc' := 815) (L' := [(0, .ref 0), (1, .ref 39), (2, .ref 143), (3, .int (0 : Int32))]) h_m1000 (z_at.mk 1 rfl rfl) rfl rfl rfl (by decide) rfl (by decide) rfl rfl rfl ?_
  refine w_cv (H.t rfl) (pc' := 818) (L' := [(0, .ref 0), (1, .ref 39), (2, .ref 143), (3, .int (0 : Int32))]) (rest := [.long (-9223372036854775808 : Int64)]) (Ps := [.int (xs 1)]) (L0 := [(0, .ref 143), (1, .int (xs 1))]) h_m1000 (z_at.mk 3 rfl rfl) (Or.inl ⟨rfl, rfl⟩) rfl rfl (by decide) (by decide) rfl rfl rfl rfl rfl rfl (by decide) rfl rfl rfl ?_
  refine w_p h_m251 1 (pc' := 1) (L' := [(0, .ref 143), (1, .int (xs 1))]) (st' := [.int (xs 1)]) rfl ?_
  refine w_t1 (pc' := 14) (L' := [(0, .ref 143), (1, .int (xs 1))]) h_m251 (z_at.mk 3 rfl rfl) rfl (zc (a := (xs 1).toInt) (b := 0) rfl rfl (decide_eq_true (by omega))) rfl rfl ?_
  refine w_p h_m251 2 (pc' := 16) (L' := [(0, .ref 143), (1, .int (xs 1))]) (st' := [.int (1 : Int32), .int (xs 1)]) rfl ?_
  refine w_t2 (pc' := 27) (L' := [(0, .ref 143), (1, .int (xs 1))]) h_m251 (z_at.mk 3 rfl rfl) rfl (zc (a := (xs 1).toInt) (b := 1) rfl rfl (decide_eq_true (by omega))) rfl rfl ?_
  refine w_p h_m251 3 (pc' := 31) (L' := [(0, .ref 143), (1, .int (xs 1))]) (st' := [.int (7 : Int32), .int (2 : Int32), .int (xs 1)]) rfl ?_
  refine w_cs (As := [.int (xs 1), .int (2 : Int32), .int (7 : Int32)]) (rest := []) (j := 159) (L0 := [(0, .int (xs 1)), (1, .int (2 : Int32)), (2, .int (7 : Int32))]) (pc' := 34) (L' := [(0, .ref 143), (1, .int (xs 1))]) h_m251 (z_at.mk 3 rfl rfl) (Or.inl ⟨rfl, rfl⟩) rfl rfl rfl rfl rfl ?_
  refine w_p h_m159 2 (pc' := 2) (L' := [(0, .int (xs 1)), (1, .int (2 : Int32)), (2, .int (7 : Int32))]) (st' := [.int (2 : Int32), .int (xs 1)]) rfl ?_
  by_cases c_12 : (xs 1).toInt < 2
  · refine w_t2 (pc' := 14) (L' := []) h_m159 (z_at.mk 3 rfl rfl) rfl (zc (a := (xs 1).toInt) (b := 2) rfl rfl (decide_eq_true (by omega))) rfl rfl ?_
    refine w_p h_m159 1 (pc' := 15) (L' := []) (st' := [.int (0 : Int32)]) rfl ?_
    refine w_ri h_m159 (z_at.mk 1 rfl rfl) rfl rfl ?_
    show z_W 999 251 34 [(0, .ref 143), (1, .int (xs 1))] [.int (0 : Int32)] m _
    refine w_p h_m251 3 (pc' := 54) (L' := [(0, .ref 143), (1, .int (xs 1))]) (st' := [.int (8 : Int32), .int (xs 1)]) rfl ?_
    refine w_t2 (pc' := 66) (L' := [(0, .ref 143), (1, .int (xs 1))]) h_m251 (z_at.mk 3 rfl rfl) rfl (zc (a := (xs 1).toInt) (b := 8) rfl rfl (decide_eq_true (by omega))) rfl rfl ?_
    refine w_p h_m251 2 (pc' := 69) (L' := [(0, .ref 143), (1, .int (xs 1))]) (st' := [.int (9 : Int32), .int (xs 1)]) rfl ?_
    refine w_t2 (pc' := 80) (L' := [(0, .ref 143), (1, .int (xs 1))]) h_m251 (z_at.mk 3 rfl rfl) rfl (zc (a := (xs 1).toInt) (b := 9) rfl rfl (decide_eq_true (by omega))) rfl rfl ?_
    refine w_p h_m251 2 (pc' := 83) (L' := [(0, .ref 143), (1, .int (xs 1))]) (st' := [.int (10 : Int32), .int (xs 1)]) rfl ?_
    refine w_t2 (pc' := 94) (L' := [(0, .ref 143), (1, .int (xs 1))]) h_m251 (z_at.mk 3 rfl rfl) rfl (zc (a := (xs 1).toInt) (b := 10) rfl rfl (decide_eq_true (by omega))) rfl rfl ?_
    refine w_p h_m251 1 (pc' := 97) (L' := []) (st' := [.long (-9223372036854775808 : Int64)]) rfl ?_
    refine w_rl h_m251 (z_at.mk 1 rfl rfl) rfl ?_
    show z_W 1000 1000 818 [(0, .ref 0), (1, .ref 39), (2, .ref 143), (3, .int (0 : Int32))] [.long (-9223372036854775808 : Int64), .long (-9223372036854775808 : Int64)] m _
    refine w_p h_m1000 6 (pc' := 20) (L' := [(0, .ref 0), (1, .ref 39), (2, .ref 143), (3, .int (6 : Int32))]) (st' := [.ref 0, .int (6 : Int32)]) rfl ?_
    refine w_lene H (x := (6 : Int32)) (pc' := 21) (L' := [(0, .ref 0), (1, .ref 39), (2, .ref 143), (3, .int (6 : Int32))]) h_m1000 (z_at.mk 1 rfl rfl) (by decide) rfl (by decide) rfl rfl rfl ?_
    refine w_p h_m1000 4 (pc' := 1381) (L' := [(0, .ref 0), (1, .ref 39), (2, .ref 143), (3, .int (6 : Int32))]) (st' := [.int (1 : Int32)]) rfl ?_
    refine w_ri h_m1000 (z_at.mk 1 rfl rfl) rfl rfl ?_
    exact hQ _ _ _ _ H (by decide) (by decide)
  · refine w_f2 (pc' := 5) (L' := [(0, .int (xs 1)), (1, .int (2 : Int32)), (2, .int (7 : Int32))]) h_m159 (z_at.mk 3 rfl rfl) rfl (zc (a := (xs 1).toInt) (b := 2) rfl rfl (decide_eq_false (by omega))) rfl rfl ?_
    refine w_p h_m159 2 (pc' := 7) (L' := [(0, .int (xs 1)), (1, .int (2 : Int32)), (2, .int (7 : Int32))]) (st' := [.int (7 : Int32), .int (xs 1)]) rfl ?_
    refine w_t2 (pc' := 14) (L' := []) h_m159 (z_at.mk 3 rfl rfl) rfl (zc (a := (xs 1).toInt) (b := 7) rfl rfl (decide_eq_true (by omega))) rfl rfl ?_
    refine w_p h_m159 1 (pc' := 15) (L' := []) (st' := [.int (0 : Int32)]) rfl ?_
    refine w_ri h_m159 (z_at.mk 1 rfl rfl) rfl rfl ?_
    show z_W 999 251 34 [(0, .ref 143), (1, .int (xs 1))] [.int (0 : Int32)] m _
    refine w_p h_m251 3 (pc' := 54) (L' := [(0, .ref 143), (1, .int (xs 1))]) (st' := [.int (8 : Int32), .int (xs 1)]) rfl ?_
    refine w_t2 (pc' := 66) (L' := [(0, .ref 143), (1, .int (xs 1))]) h_m251 (z_at.mk 3 rfl rfl) rfl (zc (a := (xs 1).toInt) (b := 8) rfl rfl (decide_eq_true (by omega))) rfl rfl ?_
    refine w_p h_m251 2 (pc' := 69) (L' := [(0, .ref 143), (1, .int (xs 1))]) (st' := [.int (9 : Int32), .int (xs 1)]) rfl ?_
    refine w_t2 (pc' := 80) (L' := [(0, .ref 143), (1, .int (xs 1))]) h_m251 (z_at.mk 3 rfl rfl) rfl (zc (a := (xs 1).toInt) (b := 9) rfl rfl (decide_eq_true (by omega))) rfl rfl ?_
    refine w_p h_m251 2 (pc' := 83) (L' := [(0, .ref 143), (1, .int (xs 1))]) (st' := [.int (10 : Int32), .int (xs 1)]) rfl ?_
    refine w_t2 (pc' := 94) (L' := [(0, .ref 143), (1, .int (xs 1))]) h_m251 (z_at.mk 3 rfl rfl) rfl (zc (a := (xs 1).toInt) (b := 10) rfl rfl (decide_eq_true (by omega))) rfl rfl ?_
    refine w_p h_m251 1 (pc' := 97) (L' := []) (st' := [.long (-9223372036854775808 : Int64)]) rfl ?_
    refine w_rl h_m251 (z_at.mk 1 rfl rfl) rfl ?_
    show z_W 1000 1000 818 [(0, .ref 0), (1, .ref 39), (2, .ref 143), (3, .int (0 : Int32))] [.long (-9223372036854775808 : Int64), .long (-9223372036854775808 : Int64)] m _
    refine w_p h_m1000 6 (pc' := 20) (L' := [(0, .ref 0), (1, .ref 39), (2, .ref 143), (3, .int (6 : Int32))]) (st' := [.ref 0, .int (6 : Int32)]) rfl ?_
    refine w_lene H (x := (6 : Int32)) (pc' := 21) (L' := [(0, .ref 0), (1, .ref 39), (2, .ref 143), (3, .int (6 : Int32))]) h_m1000 (z_at.mk 1 rfl rfl) (by decide) rfl (by decide) rfl rfl rfl ?_
    refine w_p h_m1000 4 (pc' := 1381) (L' := [(0, .ref 0), (1, .ref 39), (2, .ref 143), (3, .int (6 : Int32))]) (st' := [.int (1 : Int32)]) rfl ?_
    refine w_ri h_m1000 (z_at.mk 1 rfl rfl) rfl rfl ?_
    exact hQ _ _ _ _ H (by decide) (by decide)
set_option maxHeartbeats 400000000 in
set_option maxRecDepth 20000 in
theorem w_c7 {xs : Nat → Int32} {m : zM} {Q : Option Value → zM → Prop} (H : w_ok 6 xs 168 63950 w_T0 m) (hQ : ∀ N S T m, w_ok 6 xs N S T m → N ≤ 600039 → S ≤ 7302250 → Q (some (.int 1)) m) : z_W 1000 1000 408 [(0, .ref 0), (1, .ref 39), (2, .ref 143), (3, .int (0 : Int32))] [] m Q := by
  have b1 := zi_bd (xs 1)
  have b2 := zi_bd (xs 2)
  have b3 := zi_bd (xs 3)
  have b4 := zi_bd (xs 4)
  have b5 := zi_bd (xs 5)
  refine w_p h_m1000 5 (pc' := 413) (L' := [(0, .ref 0), (1, .ref 39), (2, .ref 143), (3, .int (0 : Int32))]) (st' := [.int (1 : Int32), .ref 0, .ref 39]) rfl ?_
  refine w_ae H (j := 1) (pc' := 414) (L' := [(0, .ref 0), (1, .ref 39), (2, .ref 143), (3, .int (0 : Int32))]) h_m1000 (z_at.mk 1 rfl rfl) rfl rfl rfl (by decide) rfl (by decide) rfl rfl rfl ?_
  refine w_cv (H.t rfl) (pc' := 417) (L' := [(0, .ref 0), (1, .ref 39), (2, .ref 143), (3, .int (0 : Int32))]) (rest := []) (Ps := [.int (xs 1)]) (L0 := [(0, .ref 39), (1, .int (xs 1))]) h_m1000 (z_at.mk 3 rfl rfl) (Or.inl ⟨rfl, rfl⟩) rfl rfl (by decide) (by decide) rfl rfl rfl rfl rfl rfl (by decide) rfl rfl rfl ?_
  refine w_p h_m123 1 (pc' := 1) (L' := [(0, .ref 39), (1, .int (xs 1))]) (st' := [.ref 39]) rfl ?_
  refine w_gf H (pc' := 4) (L' := [(0, .ref 39), (1, .int (xs 1))]) h_m123 (z_at.mk 3 rfl rfl) rfl (u := .ref 40) rfl rfl rfl ?_
  refine w_gf H (pc' := 7) (L' := [(0, .ref 39), (1, .int (xs 1))]) h_m123 (z_at.mk 3 rfl rfl) rfl (u := .ref 48) rfl rfl rfl ?_
  refine w_gf H (pc' := 10) (L' := [(0, .ref 39), (1, .int (xs 1))]) h_m123 (z_at.mk 3 rfl rfl) rfl (u := .ref 49) rfl rfl rfl ?_
  refine w_p h_m123 1 (pc' := 11) (L' := [(0, .ref 39), (1, .int (xs 1))]) (st' := [.int (xs 1), .ref 49]) rfl ?_
  refine w_cv (H.t rfl) (pc' := 14) (L' := [(0, .ref 39), (1, .int (xs 1))]) (rest := []) (Ps := [.int (xs 1)]) (L0 := [(0, .ref 49), (1, .int (xs 1))]) h_m123 (z_at.mk 3 rfl rfl) (Or.inl ⟨rfl, rfl⟩) rfl rfl (by decide) (by decide) rfl rfl rfl rfl rfl rfl (by decide) rfl rfl rfl ?_
  refine w_p h_m72 1 (pc' := 1) (L' := [(0, .ref 49), (1, .int (xs 1))]) (st' := [.int (xs 1)]) rfl ?_
  by_cases c_1 : (xs 1).toInt < 0
  · refine w_t1 (pc' := 19) (L' := []) h_m72 (z_at.mk 3 rfl rfl) rfl (zc (a := (xs 1).toInt) (b := 0) rfl rfl (decide_eq_true (by omega))) rfl rfl ?_
    refine w_p h_m72 1 (pc' := 20) (L' := []) (st' := [.int (-1 : Int32)]) rfl ?_
    refine w_ri h_m72 (z_at.mk 1 rfl rfl) rfl rfl ?_
    show z_W 999 123 14 [(0, .ref 39), (1, .int (xs 1))] [.int (-1 : Int32)] m _
    refine w_ri h_m123 (z_at.mk 1 rfl rfl) rfl rfl ?_
    show z_W 1000 1000 417 [(0, .ref 0), (1, .ref 39), (2, .ref 143), (3, .int (0 : Int32))] [.int (-1 : Int32)] m _
    refine w_p h_m1000 5 (pc' := 422) (L' := [(0, .ref 0), (1, .ref 39), (2, .ref 143), (3, .int (0 : Int32))]) (st' := [.int (1 : Int32), .ref 0, .ref 143, .int (-1 : Int32)]) rfl ?_
    refine w_ae H (j := 1) (pc' := 423) (L' := [(0, .ref 0), (1, .ref 39), (2, .ref 143), (3, .int (0 : Int32))]) h_m1000 (z_at.mk 1 rfl rfl) rfl rfl rfl (by decide) rfl (by decide) rfl rfl rfl ?_
    refine w_cv (H.t rfl) (pc' := 426) (L' := [(0, .ref 0), (1, .ref 39), (2, .ref 143), (3, .int (0 : Int32))]) (rest := [.int (-1 : Int32)]) (Ps := [.int (xs 1)]) (L0 := [(0, .ref 143), (1, .int (xs 1))]) h_m1000 (z_at.mk 3 rfl rfl) (Or.inl ⟨rfl, rfl⟩) rfl rfl (by decide) (by decide) rfl rfl rfl rfl rfl rfl (by decide) rfl rfl rfl ?_
    refine w_p h_m221 3 (pc' := 4) (L' := [(0, .ref 143), (1, .int (xs 1))]) (st' := [.int (6 : Int32), .int (0 : Int32), .int (xs 1)]) rfl ?_
    refine w_cs (As := [.int (xs 1), .int (0 : Int32), .int (6 : Int32)]) (rest := []) (j := 159) (L0 := [(0, .int (xs 1)), (1, .int (0 : Int32)), (2, .int (6 : Int32))]) (pc' := 7) (L' := [(0, .ref 143), (1, .int (xs 1))]) h_m221 (z_at.mk 3 rfl rfl) (Or.inl ⟨rfl, rfl⟩) rfl rfl rfl rfl rfl ?_
    refine w_p h_m159 2 (pc' := 2) (L' := [(0, .int (xs 1)), (1, .int (0 : Int32)), (2, .int (6 : Int32))]) (st' := [.int (0 : Int32), .int (xs 1)]) rfl ?_
    refine w_t2 (pc' := 14) (L' := []) h_m159 (z_at.mk 3 rfl rfl) rfl (zc (a := (xs 1).toInt) (b := 0) rfl rfl (decide_eq_true (by omega))) rfl rfl ?_
    refine w_p h_m159 1 (pc' := 15) (L' := []) (st' := [.int (0 : Int32)]) rfl ?_
    refine w_ri h_m159 (z_at.mk 1 rfl rfl) rfl rfl ?_
    show z_W 999 221 7 [(0, .ref 143), (1, .int (xs 1))] [.int (0 : Int32)] m _
    refine w_p h_m221 2 (pc' := 23) (L' := []) (st' := [.int (-1 : Int32)]) rfl ?_
    refine w_ri h_m221 (z_at.mk 1 rfl rfl) rfl rfl ?_
    show z_W 1000 1000 426 [(0, .ref 0), (1, .ref 39), (2, .ref 143), (3, .int (0 : Int32))] [.int (-1 : Int32), .int (-1 : Int32)] m _
    refine w_p h_m1000 5 (pc' := 20) (L' := [(0, .ref 0), (1, .ref 39), (2, .ref 143), (3, .int (6 : Int32))]) (st' := [.ref 0, .int (6 : Int32)]) rfl ?_
    refine w_lene H (x := (6 : Int32)) (pc' := 21) (L' := [(0, .ref 0), (1, .ref 39), (2, .ref 143), (3, .int (6 : Int32))]) h_m1000 (z_at.mk 1 rfl rfl) (by decide) rfl (by decide) rfl rfl rfl ?_
    refine w_p h_m1000 4 (pc' := 1381) (L' := [(0, .ref 0), (1, .ref 39), (2, .ref 143), (3, .int (6 : Int32))]) (st' := [.int (1 : Int32)]) rfl ?_
    refine w_ri h_m1000 (z_at.mk 1 rfl rfl) rfl rfl ?_
    exact hQ _ _ _ _ H (by decide) (by decide)
  · refine w_f1 (pc' := 4) (L' := [(0, .ref 49), (1, .int (xs 1))]) h_m72 (z_at.mk 3 rfl rfl) rfl (zc (a := (xs 1).toInt) (b := 0) rfl rfl (decide_eq_false (by omega))) rfl rfl ?_
    refine w_p h_m72 2 (pc' := 7) (L' := [(0, .ref 49), (1, .int (xs 1))]) (st' := [.int (7 : Int32), .int (xs 1)]) rfl ?_
    by_cases c_2 : (xs 1).toInt < 7
    · refine w_f2 (pc' := 10) (L' := [(0, .ref 49), (1, .int (xs 1))]) h_m72 (z_at.mk 3 rfl rfl) rfl (zc (a := (xs 1).toInt) (b := 7) rfl rfl (decide_eq_false (by omega))) rfl rfl ?_
      refine w_p h_m72 1 (pc' := 11) (L' := [(0, .ref 49), (1, .int (xs 1))]) (st' := [.ref 49]) rfl ?_
      refine w_gf H (pc' := 14) (L' := [(0, .ref 49), (1, .int (xs 1))]) h_m72 (z_at.mk 3 rfl rfl) rfl (u := .ref 50) rfl rfl rfl ?_
      refine w_p h_m72 1 (pc' := 15) (L' := [(0, .ref 49), (1, .int (xs 1))]) (st' := [.int (xs 1), .ref 50]) rfl ?_
      by_cases c_3 : (xs 1).toInt = 6
      · refine w_top (v' := .int (6 : Int32)) (congrArg Value.int (zi_lit (c := (xs 1).toInt) rfl c_3)) ?_
        refine w_al H (t := 0) (j := 6) (pc' := 16) (L' := [(0, .ref 49), (1, .int (xs 1))]) h_m72 (z_at.mk 1 rfl rfl) rfl rfl rfl (u := .int (1024 : Int32)) rfl rfl rfl ?_
        refine w_p h_m72 1 (pc' := 20) (L' := []) (st' := [.int (1024 : Int32)]) rfl ?_
        refine w_ri h_m72 (z_at.mk 1 rfl rfl) rfl rfl ?_
        show z_W 999 123 14 [(0, .ref 39), (1, .int (xs 1))] [.int (1024 : Int32)] m _
        refine w_ri h_m123 (z_at.mk 1 rfl rfl) rfl rfl ?_
        show z_W 1000 1000 417 [(0, .ref 0), (1, .ref 39), (2, .ref 143), (3, .int (0 : Int32))] [.int (1024 : Int32)] m _
        refine w_p h_m1000 5 (pc' := 422) (L' := [(0, .ref 0), (1, .ref 39), (2, .ref 143), (3, .int (0 : Int32))]) (st' := [.int (1 : Int32), .ref 0, .ref 143, .int (1024 : Int32)]) rfl ?_
        refine w_ae H (j := 1) (pc' := 423) (L' := [(0, .ref 0), (1, .ref 39), (2, .ref 143), (3, .int (0 : Int32))]) h_m1000 (z_at.mk 1 rfl rfl) rfl rfl rfl (by decide) rfl (by decide) rfl rfl rfl ?_
        refine w_cv (H.t rfl) (pc' := 426) (L' := [(0, .ref 0), (1, .ref 39), (2, .ref 143), (3, .int (0 : Int32))]) (rest := [.int (1024 : Int32)]) (Ps := [.int (xs 1)]) (L0 := [(0, .ref 143), (1, .int (xs 1))]) h_m1000 (z_at.mk 3 rfl rfl) (Or.inl ⟨rfl, rfl⟩) rfl rfl (by decide) (by decide) rfl rfl rfl rfl rfl rfl (by decide) rfl rfl rfl ?_
        refine w_p h_m221 3 (pc' := 4) (L' := [(0, .ref 143), (1, .int (xs 1))]) (st' := [.int (6 : Int32), .int (0 : Int32), .int (xs 1)]) rfl ?_
        refine w_cs (As := [.int (xs 1), .int (0 : Int32), .int (6 : Int32)]) (rest := []) (j := 159) (L0 := [(0, .int (xs 1)), (1, .int (0 : Int32)), (2, .int (6 : Int32))]) (pc' := 7) (L' := [(0, .ref 143), (1, .int (xs 1))]) h_m221 (z_at.mk 3 rfl rfl) (Or.inl ⟨rfl, rfl⟩) rfl rfl rfl rfl rfl ?_
        refine w_p h_m159 2 (pc' := 2) (L' := [(0, .int (xs 1)), (1, .int (0 : Int32)), (2, .int (6 : Int32))]) (st' := [.int (0 : Int32), .int (xs 1)]) rfl ?_
        refine w_f2 (pc' := 5) (L' := [(0, .int (xs 1)), (1, .int (0 : Int32)), (2, .int (6 : Int32))]) h_m159 (z_at.mk 3 rfl rfl) rfl (zc (a := (xs 1).toInt) (b := 0) rfl rfl (decide_eq_false (by omega))) rfl rfl ?_
        refine w_p h_m159 2 (pc' := 7) (L' := [(0, .int (xs 1)), (1, .int (0 : Int32)), (2, .int (6 : Int32))]) (st' := [.int (6 : Int32), .int (xs 1)]) rfl ?_
        refine w_f2 (pc' := 10) (L' := [(0, .int (xs 1)), (1, .int (0 : Int32)), (2, .int (6 : Int32))]) h_m159 (z_at.mk 3 rfl rfl) rfl (zc (a := (xs 1).toInt) (b := 6) rfl rfl (decide_eq_false (by omega))) rfl rfl ?_
        refine w_p h_m159 2 (pc' := 15) (L' := []) (st' := [.int (1 : Int32)]) rfl ?_
        refine w_ri h_m159 (z_at.mk 1 rfl rfl) rfl rfl ?_
        show z_W 999 221 7 [(0, .ref 143), (1, .int (xs 1))] [.int (1 : Int32)] m _
        refine w_p h_m221 2 (pc' := 11) (L' := [(0, .ref 143), (1, .int (xs 1))]) (st' := [.ref 143]) rfl ?_
        refine w_gf H (pc' := 14) (L' := [(0, .ref 143), (1, .int (xs 1))]) h_m221 (z_at.mk 3 rfl rfl) rfl (u := .ref 144) rfl rfl rfl ?_
        refine w_p h_m221 3 (pc' := 18) (L' := [(0, .ref 143), (1, .int (xs 1))]) (st' := [.int ((11 : Int32) + (xs 1)), .ref 144]) rfl ?_
        have c_4 : (xs 1).toInt + 11 = 17 := by omega
        refine w_top (v' := .int (17 : Int32)) (congrArg Value.int (zi_lit (c := (xs 1).toInt + 11) (zi_add (a := 11) (b := (xs 1).toInt) (c := (xs 1).toInt + 11) rfl rfl (by omega) (by omega) (by omega)) c_4)) ?_
        refine w_al H (t := 0) (j := 17) (pc' := 19) (L' := [(0, .ref 143), (1, .int (xs 1))]) h_m221 (z_at.mk 1 rfl rfl) rfl rfl rfl (u := .int (1024 : Int32)) rfl rfl rfl ?_
        refine w_p h_m221 1 (pc' := 23) (L' := []) (st' := [.int (1024 : Int32)]) rfl ?_
        refine w_ri h_m221 (z_at.mk 1 rfl rfl) rfl rfl ?_
        show z_W 1000 1000 426 [(0, .ref 0), (1, .ref 39), (2, .ref 143), (3, .int (0 : Int32))] [.int (1024 : Int32), .int (1024 : Int32)] m _
        refine w_p h_m1000 5 (pc' := 20) (L' := [(0, .ref 0), (1, .ref 39), (2, .ref 143), (3, .int (6 : Int32))]) (st' := [.ref 0, .int (6 : Int32)]) rfl ?_
        refine w_lene H (x := (6 : Int32)) (pc' := 21) (L' := [(0, .ref 0), (1, .ref 39), (2, .ref 143), (3, .int (6 : Int32))]) h_m1000 (z_at.mk 1 rfl rfl) (by decide) rfl (by decide) rfl rfl rfl ?_
        refine w_p h_m1000 4 (pc' := 1381) (L' := [(0, .ref 0), (1, .ref 39), (2, .ref 143), (3, .int (6 : Int32))]) (st' := [.int (1 : Int32)]) rfl ?_
        refine w_ri h_m1000 (z_at.mk 1 rfl rfl) rfl rfl ?_
        exact hQ _ _ _ _ H (by decide) (by decide)
      by_cases c_4 : (xs 1).toInt = 5
      · refine w_top (v' := .int (5 : Int32)) (congrArg Value.int (zi_lit (c := (xs 1).toInt) rfl c_4)) ?_
        refine w_al H (t := 0) (j := 5) (pc' := 16) (L' := [(0, .ref 49), (1, .int (xs 1))]) h_m72 (z_at.mk 1 rfl rfl) rfl rfl rfl (u := .int (1 : Int32)) rfl rfl rfl ?_
        refine w_p h_m72 1 (pc' := 20) (L' := []) (st' := [.int (1 : Int32)]) rfl ?_
        refine w_ri h_m72 (z_at.mk 1 rfl rfl) rfl rfl ?_
        show z_W 999 123 14 [(0, .ref 39), (1, .int (xs 1))] [.int (1 : Int32)] m _
        refine w_ri h_m123 (z_at.mk 1 rfl rfl) rfl rfl ?_
        show z_W 1000 1000 417 [(0, .ref 0), (1, .ref 39), (2, .ref 143), (3, .int (0 : Int32))] [.int (1 : Int32)] m _
        refine w_p h_m1000 5 (pc' := 422) (L' := [(0, .ref 0), (1, .ref 39), (2, .ref 143), (3, .int (0 : Int32))]) (st' := [.int (1 : Int32), .ref 0, .ref 143, .int (1 : Int32)]) rfl ?_
        refine w_ae H (j := 1) (pc' := 423) (L' := [(0, .ref 0), (1, .ref 39), (2, .ref 143), (3, .int (0 : Int32))]) h_m1000 (z_at.mk 1 rfl rfl) rfl rfl rfl (by decide) rfl (by decide) rfl rfl rfl ?_
        refine w_cv (H.t rfl) (pc' := 426) (L' := [(0, .ref 0), (1, .ref 39), (2, .ref 143), (3, .int (0 : Int32))]) (rest := [.int (1 : Int32)]) (Ps := [.int (xs 1)]) (L0 := [(0, .ref 143), (1, .int (xs 1))]) h_m1000 (z_at.mk 3 rfl rfl) (Or.inl ⟨rfl, rfl⟩) rfl rfl (by decide) (by decide) rfl rfl rfl rfl rfl rfl (by decide) rfl rfl rfl ?_
        refine w_p h_m221 3 (pc' := 4) (L' := [(0, .ref 143), (1, .int (xs 1))]) (st' := [.int (6 : Int32), .int (0 : Int32), .int (xs 1)]) rfl ?_
        refine w_cs (As := [.int (xs 1), .int (0 : Int32), .int (6 : Int32)]) (rest := []) (j := 159) (L0 := [(0, .int (xs 1)), (1, .int (0 : Int32)), (2, .int (6 : Int32))]) (pc' := 7) (L' := [(0, .ref 143), (1, .int (xs 1))]) h_m221 (z_at.mk 3 rfl rfl) (Or.inl ⟨rfl, rfl⟩) rfl rfl rfl rfl rfl ?_
        refine w_p h_m159 2 (pc' := 2) (L' := [(0, .int (xs 1)), (1, .int (0 : Int32)), (2, .int (6 : Int32))]) (st' := [.int (0 : Int32), .int (xs 1)]) rfl ?_
        refine w_f2 (pc' := 5) (L' := [(0, .int (xs 1)), (1, .int (0 : Int32)), (2, .int (6 : Int32))]) h_m159 (z_at.mk 3 rfl rfl) rfl (zc (a := (xs 1).toInt) (b := 0) rfl rfl (decide_eq_false (by omega))) rfl rfl ?_
        refine w_p h_m159 2 (pc' := 7) (L' := [(0, .int (xs 1)), (1, .int (0 : Int32)), (2, .int (6 : Int32))]) (st' := [.int (6 : Int32), .int (xs 1)]) rfl ?_
        refine w_f2 (pc' := 10) (L' := [(0, .int (xs 1)), (1, .int (0 : Int32)), (2, .int (6 : Int32))]) h_m159 (z_at.mk 3 rfl rfl) rfl (zc (a := (xs 1).toInt) (b := 6) rfl rfl (decide_eq_false (by omega))) rfl rfl ?_
        refine w_p h_m159 2 (pc' := 15) (L' := []) (st' := [.int (1 : Int32)]) rfl ?_
        refine w_ri h_m159 (z_at.mk 1 rfl rfl) rfl rfl ?_
        show z_W 999 221 7 [(0, .ref 143), (1, .int (xs 1))] [.int (1 : Int32)] m _
        refine w_p h_m221 2 (pc' := 11) (L' := [(0, .ref 143), (1, .int (xs 1))]) (st' := [.ref 143]) rfl ?_
        refine w_gf H (pc' := 14) (L' := [(0, .ref 143), (1, .int (xs 1))]) h_m221 (z_at.mk 3 rfl rfl) rfl (u := .ref 144) rfl rfl rfl ?_
        refine w_p h_m221 3 (pc' := 18) (L' := [(0, .ref 143), (1, .int (xs 1))]) (st' := [.int ((11 : Int32) + (xs 1)), .ref 144]) rfl ?_
        have c_5 : (xs 1).toInt + 11 = 16 := by omega
        refine w_top (v' := .int (16 : Int32)) (congrArg Value.int (zi_lit (c := (xs 1).toInt + 11) (zi_add (a := 11) (b := (xs 1).toInt) (c := (xs 1).toInt + 11) rfl rfl (by omega) (by omega) (by omega)) c_5)) ?_
        refine w_al H (t := 0) (j := 16) (pc' := 19) (L' := [(0, .ref 143), (1, .int (xs 1))]) h_m221 (z_at.mk 1 rfl rfl) rfl rfl rfl (u := .int (1 : Int32)) rfl rfl rfl ?_
        refine w_p h_m221 1 (pc' := 23) (L' := []) (st' := [.int (1 : Int32)]) rfl ?_
        refine w_ri h_m221 (z_at.mk 1 rfl rfl) rfl rfl ?_
        show z_W 1000 1000 426 [(0, .ref 0), (1, .ref 39), (2, .ref 143), (3, .int (0 : Int32))] [.int (1 : Int32), .int (1 : Int32)] m _
        refine w_p h_m1000 5 (pc' := 20) (L' := [(0, .ref 0), (1, .ref 39), (2, .ref 143), (3, .int (6 : Int32))]) (st' := [.ref 0, .int (6 : Int32)]) rfl ?_
        refine w_lene H (x := (6 : Int32)) (pc' := 21) (L' := [(0, .ref 0), (1, .ref 39), (2, .ref 143), (3, .int (6 : Int32))]) h_m1000 (z_at.mk 1 rfl rfl) (by decide) rfl (by decide) rfl rfl rfl ?_
        refine w_p h_m1000 4 (pc' := 1381) (L' := [(0, .ref 0), (1, .ref 39), (2, .ref 143), (3, .int (6 : Int32))]) (st' := [.int (1 : Int32)]) rfl ?_
        refine w_ri h_m1000 (z_at.mk 1 rfl rfl) rfl rfl ?_
        exact hQ _ _ _ _ H (by decide) (by decide)
      by_cases c_5 : (xs 1).toInt = 4
      · refine w_top (v' := .int (4 : Int32)) (congrArg Value.int (zi_lit (c := (xs 1).toInt) rfl c_5)) ?_
        refine w_al H (t := 0) (j := 4) (pc' := 16) (L' := [(0, .ref 49), (1, .int (xs 1))]) h_m72 (z_at.mk 1 rfl rfl) rfl rfl rfl (u := .int (1 : Int32)) rfl rfl rfl ?_
        refine w_p h_m72 1 (pc' := 20) (L' := []) (st' := [.int (1 : Int32)]) rfl ?_
        refine w_ri h_m72 (z_at.mk 1 rfl rfl) rfl rfl ?_
        show z_W 999 123 14 [(0, .ref 39), (1, .int (xs 1))] [.int (1 : Int32)] m _
        refine w_ri h_m123 (z_at.mk 1 rfl rfl) rfl rfl ?_
        show z_W 1000 1000 417 [(0, .ref 0), (1, .ref 39), (2, .ref 143), (3, .int (0 : Int32))] [.int (1 : Int32)] m _
        refine w_p h_m1000 5 (pc' := 422) (L' := [(0, .ref 0), (1, .ref 39), (2, .ref 143), (3, .int (0 : Int32))]) (st' := [.int (1 : Int32), .ref 0, .ref 143, .int (1 : Int32)]) rfl ?_
        refine w_ae H (j := 1) (pc' := 423) (L' := [(0, .ref 0), (1, .ref 39), (2, .ref 143), (3, .int (0 : Int32))]) h_m1000 (z_at.mk 1 rfl rfl) rfl rfl rfl (by decide) rfl (by decide) rfl rfl rfl ?_
        refine w_cv (H.t rfl) (pc' := 426) (L' := [(0, .ref 0), (1, .ref 39), (2, .ref 143), (3, .int (0 : Int32))]) (rest := [.int (1 : Int32)]) (Ps := [.int (xs 1)]) (L0 := [(0, .ref 143), (1, .int (xs 1))]) h_m1000 (z_at.mk 3 rfl rfl) (Or.inl ⟨rfl, rfl⟩) rfl rfl (by decide) (by decide) rfl rfl rfl rfl rfl rfl (by decide) rfl rfl rfl ?_
        refine w_p h_m221 3 (pc' := 4) (L' := [(0, .ref 143), (1, .int (xs 1))]) (st' := [.int (6 : Int32), .int (0 : Int32), .int (xs 1)]) rfl ?_
        refine w_cs (As := [.int (xs 1), .int (0 : Int32), .int (6 : Int32)]) (rest := []) (j := 159) (L0 := [(0, .int (xs 1)), (1, .int (0 : Int32)), (2, .int (6 : Int32))]) (pc' := 7) (L' := [(0, .ref 143), (1, .int (xs 1))]) h_m221 (z_at.mk 3 rfl rfl) (Or.inl ⟨rfl, rfl⟩) rfl rfl rfl rfl rfl ?_
        refine w_p h_m159 2 (pc' := 2) (L' := [(0, .int (xs 1)), (1, .int (0 : Int32)), (2, .int (6 : Int32))]) (st' := [.int (0 : Int32), .int (xs 1)]) rfl ?_
        refine w_f2 (pc' := 5) (L' := [(0, .int (xs 1)), (1, .int (0 : Int32)), (2, .int (6 : Int32))]) h_m159 (z_at.mk 3 rfl rfl) rfl (zc (a := (xs 1).toInt) (b := 0) rfl rfl (decide_eq_false (by omega))) rfl rfl ?_
        refine w_p h_m159 2 (pc' := 7) (L' := [(0, .int (xs 1)), (1, .int (0 : Int32)), (2, .int (6 : Int32))]) (st' := [.int (6 : Int32), .int (xs 1)]) rfl ?_
        refine w_f2 (pc' := 10) (L' := [(0, .int (xs 1)), (1, .int (0 : Int32)), (2, .int (6 : Int32))]) h_m159 (z_at.mk 3 rfl rfl) rfl (zc (a := (xs 1).toInt) (b := 6) rfl rfl (decide_eq_false (by omega))) rfl rfl ?_
        refine w_p h_m159 2 (pc' := 15) (L' := []) (st' := [.int (1 : Int32)]) rfl ?_
        refine w_ri h_m159 (z_at.mk 1 rfl rfl) rfl rfl ?_
        show z_W 999 221 7 [(0, .ref 143), (1, .int (xs 1))] [.int (1 : Int32)] m _
        refine w_p h_m221 2 (pc' := 11) (L' := [(0, .ref 143), (1, .int (xs 1))]) (st' := [.ref 143]) rfl ?_
        refine w_gf H (pc' := 14) (L' := [(0, .ref 143), (1, .int (xs 1))]) h_m221 (z_at.mk 3 rfl rfl) rfl (u := .ref 144) rfl rfl rfl ?_
        refine w_p h_m221 3 (pc' := 18) (L' := [(0, .ref 143), (1, .int (xs 1))]) (st' := [.int ((11 : Int32) + (xs 1)), .ref 144]) rfl ?_
        have c_6 : (xs 1).toInt + 11 = 15 := by omega
        refine w_top (v' := .int (15 : Int32)) (congrArg Value.int (zi_lit (c := (xs 1).toInt + 11) (zi_add (a := 11) (b := (xs 1).toInt) (c := (xs 1).toInt + 11) rfl rfl (by omega) (by omega) (by omega)) c_6)) ?_
        refine w_al H (t := 0) (j := 15) (pc' := 19) (L' := [(0, .ref 143), (1, .int (xs 1))]) h_m221 (z_at.mk 1 rfl rfl) rfl rfl rfl (u := .int (1 : Int32)) rfl rfl rfl ?_
        refine w_p h_m221 1 (pc' := 23) (L' := []) (st' := [.int (1 : Int32)]) rfl ?_
        refine w_ri h_m221 (z_at.mk 1 rfl rfl) rfl rfl ?_
        show z_W 1000 1000 426 [(0, .ref 0), (1, .ref 39), (2, .ref 143), (3, .int (0 : Int32))] [.int (1 : Int32), .int (1 : Int32)] m _
        refine w_p h_m1000 5 (pc' := 20) (L' := [(0, .ref 0), (1, .ref 39), (2, .ref 143), (3, .int (6 : Int32))]) (st' := [.ref 0, .int (6 : Int32)]) rfl ?_
        refine w_lene H (x := (6 : Int32)) (pc' := 21) (L' := [(0, .ref 0), (1, .ref 39), (2, .ref 143), (3, .int (6 : Int32))]) h_m1000 (z_at.mk 1 rfl rfl) (by decide) rfl (by decide) rfl rfl rfl ?_
        refine w_p h_m1000 4 (pc' := 1381) (L' := [(0, .ref 0), (1, .ref 39), (2, .ref 143), (3, .int (6 : Int32))]) (st' := [.int (1 : Int32)]) rfl ?_
        refine w_ri h_m1000 (z_at.mk 1 rfl rfl) rfl rfl ?_
        exact hQ _ _ _ _ H (by decide) (by decide)
      by_cases c_6 : (xs 1).toInt = 3
      · refine w_top (v' := .int (3 : Int32)) (congrArg Value.int (zi_lit (c := (xs 1).toInt) rfl c_6)) ?_
        refine w_al H (t := 0) (j := 3) (pc' := 16) (L' := [(0, .ref 49), (1, .int (xs 1))]) h_m72 (z_at.mk 1 rfl rfl) rfl rfl rfl (u := .int (0 : Int32)) rfl rfl rfl ?_
        refine w_p h_m72 1 (pc' := 20) (L' := []) (st' := [.int (0 : Int32)]) rfl ?_
        refine w_ri h_m72 (z_at.mk 1 rfl rfl) rfl rfl ?_
        show z_W 999 123 14 [(0, .ref 39), (1, .int (xs 1))] [.int (0 : Int32)] m _
        refine w_ri h_m123 (z_at.mk 1 rfl rfl) rfl rfl ?_
        show z_W 1000 1000 417 [(0, .ref 0), (1, .ref 39), (2, .ref 143), (3, .int (0 : Int32))] [.int (0 : Int32)] m _
        refine w_p h_m1000 5 (pc' := 422) (L' := [(0, .ref 0), (1, .ref 39), (2, .ref 143), (3, .int (0 : Int32))]) (st' := [.int (1 : Int32), .ref 0, .ref 143, .int (0 : Int32)]) rfl ?_
        refine w_ae H (j := 1) (pc' := 423) (L' := [(0, .ref 0), (1, .ref 39), (2, .ref 143), (3, .int (0 : Int32))]) h_m1000 (z_at.mk 1 rfl rfl) rfl rfl rfl (by decide) rfl (by decide) rfl rfl rfl ?_
        refine w_cv (H.t rfl) (pc' := 426) (L' := [(0, .ref 0), (1, .ref 39), (2, .ref 143), (3, .int (0 : Int32))]) (rest := [.int (0 : Int32)]) (Ps := [.int (xs 1)]) (L0 := [(0, .ref 143), (1, .int (xs 1))]) h_m1000 (z_at.mk 3 rfl rfl) (Or.inl ⟨rfl, rfl⟩) rfl rfl (by decide) (by decide) rfl rfl rfl rfl rfl rfl (by decide) rfl rfl rfl ?_
        refine w_p h_m221 3 (pc' := 4) (L' := [(0, .ref 143), (1, .int (xs 1))]) (st' := [.int (6 : Int32), .int (0 : Int32), .int (xs 1)]) rfl ?_
        refine w_cs (As := [.int (xs 1), .int (0 : Int32), .int (6 : Int32)]) (rest := []) (j := 159) (L0 := [(0, .int (xs 1)), (1, .int (0 : Int32)), (2, .int (6 : Int32))]) (pc' := 7) (L' := [(0, .ref 143), (1, .int (xs 1))]) h_m221 (z_at.mk 3 rfl rfl) (Or.inl ⟨rfl, rfl⟩) rfl rfl rfl rfl rfl ?_
        refine w_p h_m159 2 (pc' := 2) (L' := [(0, .int (xs 1)), (1, .int (0 : Int32)), (2, .int (6 : Int32))]) (st' := [.int (0 : Int32), .int (xs 1)]) rfl ?_
        refine w_f2 (pc' := 5) (L' := [(0, .int (xs 1)), (1, .int (0 : Int32)), (2, .int (6 : Int32))]) h_m159 (z_at.mk 3 rfl rfl) rfl (zc (a := (xs 1).toInt) (b := 0) rfl rfl (decide_eq_false (by omega))) rfl rfl ?_
        refine w_p h_m159 2 (pc' := 7) (L' := [(0, .int (xs 1)), (1, .int (0 : Int32)), (2, .int (6 : Int32))]) (st' := [.int (6 : Int32), .int (xs 1)]) rfl ?_
        refine w_f2 (pc' := 10) (L' := [(0, .int (xs 1)), (1, .int (0 : Int32)), (2, .int (6 : Int32))]) h_m159 (z_at.mk 3 rfl rfl) rfl (zc (a := (xs 1).toInt) (b := 6) rfl rfl (decide_eq_false (by omega))) rfl rfl ?_
        refine w_p h_m159 2 (pc' := 15) (L' := []) (st' := [.int (1 : Int32)]) rfl ?_
        refine w_ri h_m159 (z_at.mk 1 rfl rfl) rfl rfl ?_
        show z_W 999 221 7 [(0, .ref 143), (1, .int (xs 1))] [.int (1 : Int32)] m _
        refine w_p h_m221 2 (pc' := 11) (L' := [(0, .ref 143), (1, .int (xs 1))]) (st' := [.ref 143]) rfl ?_
        refine w_gf H (pc' := 14) (L' := [(0, .ref 143), (1, .int (xs 1))]) h_m221 (z_at.mk 3 rfl rfl) rfl (u := .ref 144) rfl rfl rfl ?_
        refine w_p h_m221 3 (pc' := 18) (L' := [(0, .ref 143), (1, .int (xs 1))]) (st' := [.int ((11 : Int32) + (xs 1)), .ref 144]) rfl ?_
        refine w_alx H (t := 0) (n := 2740) (ov := [(17, .int (1024 : Int32)), (16, .int (1 : Int32)), (15, .int (1 : Int32)), (13, .int (12 : Int32)), (12, .int (40 : Int32)), (11, .int (10 : Int32))]) (c := (xs 1).toInt + 11) (u := .int (0 : Int32)) (pc' := 19) (L' := [(0, .ref 143), (1, .int (xs 1))]) h_m221 (z_at.mk 1 rfl rfl) rfl rfl (zi_add (a := 11) (b := (xs 1).toInt) (c := (xs 1).toInt + 11) rfl rfl (by omega) (by omega) (by omega)) (by omega) (by omega) rfl (w_av_c (by omega) (w_av_c (by omega) (w_av_c (by omega) (w_av_c (by omega) (w_av_c (by omega) (w_av_c (by omega) (w_av_n))))))) rfl rfl ?_
        refine w_p h_m221 1 (pc' := 23) (L' := []) (st' := [.int (0 : Int32)]) rfl ?_
        refine w_ri h_m221 (z_at.mk 1 rfl rfl) rfl rfl ?_
        show z_W 1000 1000 426 [(0, .ref 0), (1, .ref 39), (2, .ref 143), (3, .int (0 : Int32))] [.int (0 : Int32), .int (0 : Int32)] m _
        refine w_p h_m1000 5 (pc' := 20) (L' := [(0, .ref 0), (1, .ref 39), (2, .ref 143), (3, .int (6 : Int32))]) (st' := [.ref 0, .int (6 : Int32)]) rfl ?_
        refine w_lene H (x := (6 : Int32)) (pc' := 21) (L' := [(0, .ref 0), (1, .ref 39), (2, .ref 143), (3, .int (6 : Int32))]) h_m1000 (z_at.mk 1 rfl rfl) (by decide) rfl (by decide) rfl rfl rfl ?_
        refine w_p h_m1000 4 (pc' := 1381) (L' := [(0, .ref 0), (1, .ref 39), (2, .ref 143), (3, .int (6 : Int32))]) (st' := [.int (1 : Int32)]) rfl ?_
        refine w_ri h_m1000 (z_at.mk 1 rfl rfl) rfl rfl ?_
        exact hQ _ _ _ _ H (by decide) (by decide)
      by_cases c_7 : (xs 1).toInt = 2
      · refine w_top (v' := .int (2 : Int32)) (congrArg Value.int (zi_lit (c := (xs 1).toInt) rfl c_7)) ?_
        refine w_al H (t := 0) (j := 2) (pc' := 16) (L' := [(0, .ref 49), (1, .int (xs 1))]) h_m72 (z_at.mk 1 rfl rfl) rfl rfl rfl (u := .int (12 : Int32)) rfl rfl rfl ?_
        refine w_p h_m72 1 (pc' := 20) (L' := []) (st' := [.int (12 : Int32)]) rfl ?_
        refine w_ri h_m72 (z_at.mk 1 rfl rfl) rfl rfl ?_
        show z_W 999 123 14 [(0, .ref 39), (1, .int (xs 1))] [.int (12 : Int32)] m _
        refine w_ri h_m123 (z_at.mk 1 rfl rfl) rfl rfl ?_
        show z_W 1000 1000 417 [(0, .ref 0), (1, .ref 39), (2, .ref 143), (3, .int (0 : Int32))] [.int (12 : Int32)] m _
        refine w_p h_m1000 5 (pc' := 422) (L' := [(0, .ref 0), (1, .ref 39), (2, .ref 143), (3, .int (0 : Int32))]) (st' := [.int (1 : Int32), .ref 0, .ref 143, .int (12 : Int32)]) rfl ?_
        refine w_ae H (j := 1) (pc' := 423) (L' := [(0, .ref 0), (1, .ref 39), (2, .ref 143), (3, .int (0 : Int32))]) h_m1000 (z_at.mk 1 rfl rfl) rfl rfl rfl (by decide) rfl (by decide) rfl rfl rfl ?_
        refine w_cv (H.t rfl) (pc' := 426) (L' := [(0, .ref 0), (1, .ref 39), (2, .ref 143), (3, .int (0 : Int32))]) (rest := [.int (12 : Int32)]) (Ps := [.int (xs 1)]) (L0 := [(0, .ref 143), (1, .int (xs 1))]) h_m1000 (z_at.mk 3 rfl rfl) (Or.inl ⟨rfl, rfl⟩) rfl rfl (by decide) (by decide) rfl rfl rfl rfl rfl rfl (by decide) rfl rfl rfl ?_
        refine w_p h_m221 3 (pc' := 4) (L' := [(0, .ref 143), (1, .int (xs 1))]) (st' := [.int (6 : Int32), .int (0 : Int32), .int (xs 1)]) rfl ?_
        refine w_cs (As := [.int (xs 1), .int (0 : Int32), .int (6 : Int32)]) (rest := []) (j := 159) (L0 := [(0, .int (xs 1)), (1, .int (0 : Int32)), (2, .int (6 : Int32))]) (pc' := 7) (L' := [(0, .ref 143), (1, .int (xs 1))]) h_m221 (z_at.mk 3 rfl rfl) (Or.inl ⟨rfl, rfl⟩) rfl rfl rfl rfl rfl ?_
        refine w_p h_m159 2 (pc' := 2) (L' := [(0, .int (xs 1)), (1, .int (0 : Int32)), (2, .int (6 : Int32))]) (st' := [.int (0 : Int32), .int (xs 1)]) rfl ?_
        refine w_f2 (pc' := 5) (L' := [(0, .int (xs 1)), (1, .int (0 : Int32)), (2, .int (6 : Int32))]) h_m159 (z_at.mk 3 rfl rfl) rfl (zc (a := (xs 1).toInt) (b := 0) rfl rfl (decide_eq_false (by omega))) rfl rfl ?_
        refine w_p h_m159 2 (pc' := 7) (L' := [(0, .int (xs 1)), (1, .int (0 : Int32)), (2, .int (6 : Int32))]) (st' := [.int (6 : Int32), .int (xs 1)]) rfl ?_
        refine w_f2 (pc' := 10) (L' := [(0, .int (xs 1)), (1, .int (0 : Int32)), (2, .int (6 : Int32))]) h_m159 (z_at.mk 3 rfl rfl) rfl (zc (a := (xs 1).toInt) (b := 6) rfl rfl (decide_eq_false (by omega))) rfl rfl ?_
        refine w_p h_m159 2 (pc' := 15) (L' := []) (st' := [.int (1 : Int32)]) rfl ?_
        refine w_ri h_m159 (z_at.mk 1 rfl rfl) rfl rfl ?_
        show z_W 999 221 7 [(0, .ref 143), (1, .int (xs 1))] [.int (1 : Int32)] m _
        refine w_p h_m221 2 (pc' := 11) (L' := [(0, .ref 143), (1, .int (xs 1))]) (st' := [.ref 143]) rfl ?_
        refine w_gf H (pc' := 14) (L' := [(0, .ref 143), (1, .int (xs 1))]) h_m221 (z_at.mk 3 rfl rfl) rfl (u := .ref 144) rfl rfl rfl ?_
        refine w_p h_m221 3 (pc' := 18) (L' := [(0, .ref 143), (1, .int (xs 1))]) (st' := [.int ((11 : Int32) + (xs 1)), .ref 144]) rfl ?_
        have c_8 : (xs 1).toInt + 11 = 13 := by omega
        refine w_top (v' := .int (13 : Int32)) (congrArg Value.int (zi_lit (c := (xs 1).toInt + 11) (zi_add (a := 11) (b := (xs 1).toInt) (c := (xs 1).toInt + 11) rfl rfl (by omega) (by omega) (by omega)) c_8)) ?_
        refine w_al H (t := 0) (j := 13) (pc' := 19) (L' := [(0, .ref 143), (1, .int (xs 1))]) h_m221 (z_at.mk 1 rfl rfl) rfl rfl rfl (u := .int (12 : Int32)) rfl rfl rfl ?_
        refine w_p h_m221 1 (pc' := 23) (L' := []) (st' := [.int (12 : Int32)]) rfl ?_
        refine w_ri h_m221 (z_at.mk 1 rfl rfl) rfl rfl ?_
        show z_W 1000 1000 426 [(0, .ref 0), (1, .ref 39), (2, .ref 143), (3, .int (0 : Int32))] [.int (12 : Int32), .int (12 : Int32)] m _
        refine w_p h_m1000 5 (pc' := 20) (L' := [(0, .ref 0), (1, .ref 39), (2, .ref 143), (3, .int (6 : Int32))]) (st' := [.ref 0, .int (6 : Int32)]) rfl ?_
        refine w_lene H (x := (6 : Int32)) (pc' := 21) (L' := [(0, .ref 0), (1, .ref 39), (2, .ref 143), (3, .int (6 : Int32))]) h_m1000 (z_at.mk 1 rfl rfl) (by decide) rfl (by decide) rfl rfl rfl ?_
        refine w_p h_m1000 4 (pc' := 1381) (L' := [(0, .ref 0), (1, .ref 39), (2, .ref 143), (3, .int (6 : Int32))]) (st' := [.int (1 : Int32)]) rfl ?_
        refine w_ri h_m1000 (z_at.mk 1 rfl rfl) rfl rfl ?_
        exact hQ _ _ _ _ H (by decide) (by decide)
      by_cases c_8 : (xs 1).toInt = 1
      · refine w_top (v' := .int (1 : Int32)) (congrArg Value.int (zi_lit (c := (xs 1).toInt) rfl c_8)) ?_
        refine w_al H (t := 0) (j := 1) (pc' := 16) (L' := [(0, .ref 49), (1, .int (xs 1))]) h_m72 (z_at.mk 1 rfl rfl) rfl rfl rfl (u := .int (40 : Int32)) rfl rfl rfl ?_
        refine w_p h_m72 1 (pc' := 20) (L' := []) (st' := [.int (40 : Int32)]) rfl ?_
        refine w_ri h_m72 (z_at.mk 1 rfl rfl) rfl rfl ?_
        show z_W 999 123 14 [(0, .ref 39), (1, .int (xs 1))] [.int (40 : Int32)] m _
        refine w_ri h_m123 (z_at.mk 1 rfl rfl) rfl rfl ?_
        show z_W 1000 1000 417 [(0, .ref 0), (1, .ref 39), (2, .ref 143), (3, .int (0 : Int32))] [.int (40 : Int32)] m _
        refine w_p h_m1000 5 (pc' := 422) (L' := [(0, .ref 0), (1, .ref 39), (2, .ref 143), (3, .int (0 : Int32))]) (st' := [.int (1 : Int32), .ref 0, .ref 143, .int (40 : Int32)]) rfl ?_
        refine w_ae H (j := 1) (pc' := 423) (L' := [(0, .ref 0), (1, .ref 39), (2, .ref 143), (3, .int (0 : Int32))]) h_m1000 (z_at.mk 1 rfl rfl) rfl rfl rfl (by decide) rfl (by decide) rfl rfl rfl ?_
        refine w_cv (H.t rfl) (pc' := 426) (L' := [(0, .ref 0), (1, .ref 39), (2, .ref 143), (3, .int (0 : Int32))]) (rest := [.int (40 : Int32)]) (Ps := [.int (xs 1)]) (L0 := [(0, .ref 143), (1, .int (xs 1))]) h_m1000 (z_at.mk 3 rfl rfl) (Or.inl ⟨rfl, rfl⟩) rfl rfl (by decide) (by decide) rfl rfl rfl rfl rfl rfl (by decide) rfl rfl rfl ?_
        refine w_p h_m221 3 (pc' := 4) (L' := [(0, .ref 143), (1, .int (xs 1))]) (st' := [.int (6 : Int32), .int (0 : Int32), .int (xs 1)]) rfl ?_
        refine w_cs (As := [.int (xs 1), .int (0 : Int32), .int (6 : Int32)]) (rest := []) (j := 159) (L0 := [(0, .int (xs 1)), (1, .int (0 : Int32)), (2, .int (6 : Int32))]) (pc' := 7) (L' := [(0, .ref 143), (1, .int (xs 1))]) h_m221 (z_at.mk 3 rfl rfl) (Or.inl ⟨rfl, rfl⟩) rfl rfl rfl rfl rfl ?_
        refine w_p h_m159 2 (pc' := 2) (L' := [(0, .int (xs 1)), (1, .int (0 : Int32)), (2, .int (6 : Int32))]) (st' := [.int (0 : Int32), .int (xs 1)]) rfl ?_
        refine w_f2 (pc' := 5) (L' := [(0, .int (xs 1)), (1, .int (0 : Int32)), (2, .int (6 : Int32))]) h_m159 (z_at.mk 3 rfl rfl) rfl (zc (a := (xs 1).toInt) (b := 0) rfl rfl (decide_eq_false (by omega))) rfl rfl ?_
        refine w_p h_m159 2 (pc' := 7) (L' := [(0, .int (xs 1)), (1, .int (0 : Int32)), (2, .int (6 : Int32))]) (st' := [.int (6 : Int32), .int (xs 1)]) rfl ?_
        refine w_f2 (pc' := 10) (L' := [(0, .int (xs 1)), (1, .int (0 : Int32)), (2, .int (6 : Int32))]) h_m159 (z_at.mk 3 rfl rfl) rfl (zc (a := (xs 1).toInt) (b := 6) rfl rfl (decide_eq_false (by omega))) rfl rfl ?_
        refine w_p h_m159 2 (pc' := 15) (L' := []) (st' := [.int (1 : Int32)]) rfl ?_
        refine w_ri h_m159 (z_at.mk 1 rfl rfl) rfl rfl ?_
        show z_W 999 221 7 [(0, .ref 143), (1, .int (xs 1))] [.int (1 : Int32)] m _
        refine w_p h_m221 2 (pc' := 11) (L' := [(0, .ref 143), (1, .int (xs 1))]) (st' := [.ref 143]) rfl ?_
        refine w_gf H (pc' := 14) (L' := [(0, .ref 143), (1, .int (xs 1))]) h_m221 (z_at.mk 3 rfl rfl) rfl (u := .ref 144) rfl rfl rfl ?_
        refine w_p h_m221 3 (pc' := 18) (L' := [(0, .ref 143), (1, .int (xs 1))]) (st' := [.int ((11 : Int32) + (xs 1)), .ref 144]) rfl ?_
        have c_9 : (xs 1).toInt + 11 = 12 := by omega
        refine w_top (v' := .int (12 : Int32)) (congrArg Value.int (zi_lit (c := (xs 1).toInt + 11) (zi_add (a := 11) (b := (xs 1).toInt) (c := (xs 1).toInt + 11) rfl rfl (by omega) (by omega) (by omega)) c_9)) ?_
        refine w_al H (t := 0) (j := 12) (pc' := 19) (L' := [(0, .ref 143), (1, .int (xs 1))]) h_m221 (z_at.mk 1 rfl rfl) rfl rfl rfl (u := .int (40 : Int32)) rfl rfl rfl ?_
        refine w_p h_m221 1 (pc' := 23) (L' := []) (st' := [.int (40 : Int32)]) rfl ?_
        refine w_ri h_m221 (z_at.mk 1 rfl rfl) rfl rfl ?_
        show z_W 1000 1000 426 [(0, .ref 0), (1, .ref 39), (2, .ref 143), (3, .int (0 : Int32))] [.int (40 : Int32), .int (40 : Int32)] m _
        refine w_p h_m1000 5 (pc' := 20) (L' := [(0, .ref 0), (1, .ref 39), (2, .ref 143), (3, .int (6 : Int32))]) (st' := [.ref 0, .int (6 : Int32)]) rfl ?_
        refine w_lene H (x := (6 : Int32)) (pc' := 21) (L' := [(0, .ref 0), (1, .ref 39), (2, .ref 143), (3, .int (6 : Int32))]) h_m1000 (z_at.mk 1 rfl rfl) (by decide) rfl (by decide) rfl rfl rfl ?_
        refine w_p h_m1000 4 (pc' := 1381) (L' := [(0, .ref 0), (1, .ref 39), (2, .ref 143), (3, .int (6 : Int32))]) (st' := [.int (1 : Int32)]) rfl ?_
        refine w_ri h_m1000 (z_at.mk 1 rfl rfl) rfl rfl ?_
        exact hQ _ _ _ _ H (by decide) (by decide)
      have c_9 : (xs 1).toInt = 0 := by omega
      refine w_top (v' := .int (0 : Int32)) (congrArg Value.int (zi_lit (c := (xs 1).toInt) rfl c_9)) ?_
      refine w_al H (t := 0) (j := 0) (pc' := 16) (L' := [(0, .ref 49), (1, .int (xs 1))]) h_m72 (z_at.mk 1 rfl rfl) rfl rfl rfl (u := .int (10 : Int32)) rfl rfl rfl ?_
      refine w_p h_m72 1 (pc' := 20) (L' := []) (st' := [.int (10 : Int32)]) rfl ?_
      refine w_ri h_m72 (z_at.mk 1 rfl rfl) rfl rfl ?_
      show z_W 999 123 14 [(0, .ref 39), (1, .int (xs 1))] [.int (10 : Int32)] m _
      refine w_ri h_m123 (z_at.mk 1 rfl rfl) rfl rfl ?_
      show z_W 1000 1000 417 [(0, .ref 0), (1, .ref 39), (2, .ref 143), (3, .int (0 : Int32))] [.int (10 : Int32)] m _
      refine w_p h_m1000 5 (pc' := 422) (L' := [(0, .ref 0), (1, .ref 39), (2, .ref 143), (3, .int (0 : Int32))]) (st' := [.int (1 : Int32), .ref 0, .ref 143, .int (10 : Int32)]) rfl ?_
      refine w_ae H (j := 1) (pc' := 423) (L' := [(0, .ref 0), (1, .ref 39), (2, .ref 143), (3, .int (0 : Int32))]) h_m1000 (z_at.mk 1 rfl rfl) rfl rfl rfl (by decide) rfl (by decide) rfl rfl rfl ?_
      refine w_cv (H.t rfl) (pc' := 426) (L' := [(0, .ref 0), (1, .ref 39), (2, .ref 143), (3, .int (0 : Int32))]) (rest := [.int (10 : Int32)]) (Ps := [.int (xs 1)]) (L0 := [(0, .ref 143), (1, .int (xs 1))]) h_m1000 (z_at.mk 3 rfl rfl) (Or.inl ⟨rfl, rfl⟩) rfl rfl (by decide) (by decide) rfl rfl rfl rfl rfl rfl (by decide) rfl rfl rfl ?_
      refine w_p h_m221 3 (pc' := 4) (L' := [(0, .ref 143), (1, .int (xs 1))]) (st' := [.int (6 : Int32), .int (0 : Int32), .int (xs 1)]) rfl ?_
      refine w_cs (As := [.int (xs 1), .int (0 : Int32), .int (6 : Int32)]) (rest := []) (j := 159) (L0 := [(0, .int (xs 1)), (1, .int (0 : Int32)), (2, .int (6 : Int32))]) (pc' := 7) (L' := [(0, .ref 143), (1, .int (xs 1))]) h_m221 (z_at.mk 3 rfl rfl) (Or.inl ⟨rfl, rfl⟩) rfl rfl rfl rfl rfl ?_
      refine w_p h_m159 2 (pc' := 2) (L' := [(0, .int (xs 1)), (1, .int (0 : Int32)), (2, .int (6 : Int32))]) (st' := [.int (0 : Int32), .int (xs 1)]) rfl ?_
      refine w_f2 (pc' := 5) (L' := [(0, .int (xs 1)), (1, .int (0 : Int32)), (2, .int (6 : Int32))]) h_m159 (z_at.mk 3 rfl rfl) rfl (zc (a := (xs 1).toInt) (b := 0) rfl rfl (decide_eq_false (by omega))) rfl rfl ?_
      refine w_p h_m159 2 (pc' := 7) (L' := [(0, .int (xs 1)), (1, .int (0 : Int32)), (2, .int (6 : Int32))]) (st' := [.int (6 : Int32), .int (xs 1)]) rfl ?_
      refine w_f2 (pc' := 10) (L' := [(0, .int (xs 1)), (1, .int (0 : Int32)), (2, .int (6 : Int32))]) h_m159 (z_at.mk 3 rfl rfl) rfl (zc (a := (xs 1).toInt) (b := 6) rfl rfl (decide_eq_false (by omega))) rfl rfl ?_
      refine w_p h_m159 2 (pc' := 15) (L' := []) (st' := [.int (1 : Int32)]) rfl ?_
      refine w_ri h_m159 (z_at.mk 1 rfl rfl) rfl rfl ?_
      show z_W 999 221 7 [(0, .ref 143), (1, .int (xs 1))] [.int (1 : Int32)] m _
      refine w_p h_m221 2 (pc' := 11) (L' := [(0, .ref 143), (1, .int (xs 1))]) (st' := [.ref 143]) rfl ?_
      refine w_gf H (pc' := 14) (L' := [(0, .ref 143), (1, .int (xs 1))]) h_m221 (z_at.mk 3 rfl rfl) rfl (u := .ref 144) rfl rfl rfl ?_
      refine w_p h_m221 3 (pc' := 18) (L' := [(0, .ref 143), (1, .int (xs 1))]) (st' := [.int ((11 : Int32) + (xs 1)), .ref 144]) rfl ?_
      have c_10 : (xs 1).toInt + 11 = 11 := by omega
      refine w_top (v' := .int (11 : Int32)) (congrArg Value.int (zi_lit (c := (xs 1).toInt + 11) (zi_add (a := 11) (b := (xs 1).toInt) (c := (xs 1).toInt + 11) rfl rfl (by omega) (by omega) (by omega)) c_10)) ?_
      refine w_al H (t := 0) (j := 11) (pc' := 19) (L' := [(0, .ref 143), (1, .int (xs 1))]) h_m221 (z_at.mk 1 rfl rfl) rfl rfl rfl (u := .int (10 : Int32)) rfl rfl rfl ?_
      refine w_p h_m221 1 (pc' := 23) (L' := []) (st' := [.int (10 : Int32)]) rfl ?_
      refine w_ri h_m221 (z_at.mk 1 rfl rfl) rfl rfl ?_
      show z_W 1000 1000 426 [(0, .ref 0), (1, .ref 39), (2, .ref 143), (3, .int (0 : Int32))] [.int (10 : Int32), .int (10 : Int32)] m _
      refine w_p h_m1000 5 (pc' := 20) (L' := [(0, .ref 0), (1, .ref 39), (2, .ref 143), (3, .int (6 : Int32))]) (st' := [.ref 0, .int (6 : Int32)]) rfl ?_
      refine w_lene H (x := (6 : Int32)) (pc' := 21) (L' := [(0, .ref 0), (1, .ref 39), (2, .ref 143), (3, .int (6 : Int32))]) h_m1000 (z_at.mk 1 rfl rfl) (by decide) rfl (by decide) rfl rfl rfl ?_
      refine w_p h_m1000 4 (pc' := 1381) (L' := [(0, .ref 0), (1, .ref 39), (2, .ref 143), (3, .int (6 : Int32))]) (st' := [.int (1 : Int32)]) rfl ?_
      refine w_ri h_m1000 (z_at.mk 1 rfl rfl) rfl rfl ?_
      exact hQ _ _ _ _ H (by decide) (by decide)
    · refine w_t2 (pc' := 19) (L' := []) h_m72 (z_at.mk 3 rfl rfl) rfl (zc (a := (xs 1).toInt) (b := 7) rfl rfl (decide_eq_true (by omega))) rfl rfl ?_
      refine w_p h_m72 1 (pc' := 20) (L' := []) (st' := [.int (-1 : Int32)]) rfl ?_
      refine w_ri h_m72 (z_at.mk 1 rfl rfl) rfl rfl ?_
      show z_W 999 123 14 [(0, .ref 39), (1, .int (xs 1))] [.int (-1 : Int32)] m _
      refine w_ri h_m123 (z_at.mk 1 rfl rfl) rfl rfl ?_
      show z_W 1000 1000 417 [(0, .ref 0), (1, .ref 39), (2, .ref 143), (3, .int (0 : Int32))] [.int (-1 : Int32)] m _
      refine w_p h_m1000 5 (pc' := 422) (L' := [(0, .ref 0), (1, .ref 39), (2, .ref 143), (3, .int (0 : Int32))]) (st' := [.int (1 : Int32), .ref 0, .ref 143, .int (-1 : Int32)]) rfl ?_
      refine w_ae H (j := 1) (pc' := 423) (L' := [(0, .ref 0), (1, .ref 39), (2, .ref 143), (3, .int (0 : Int32))]) h_m1000 (z_at.mk 1 rfl rfl) rfl rfl rfl (by decide) rfl (by decide) rfl rfl rfl ?_
      refine w_cv (H.t rfl) (pc' := 426) (L' := [(0, .ref 0), (1, .ref 39), (2, .ref 143), (3, .int (0 : Int32))]) (rest := [.int (-1 : Int32)]) (Ps := [.int (xs 1)]) (L0 := [(0, .ref 143), (1, .int (xs 1))]) h_m1000 (z_at.mk 3 rfl rfl) (Or.inl ⟨rfl, rfl⟩) rfl rfl (by decide) (by decide) rfl rfl rfl rfl rfl rfl (by decide) rfl rfl rfl ?_
      refine w_p h_m221 3 (pc' := 4) (L' := [(0, .ref 143), (1, .int (xs 1))]) (st' := [.int (6 : Int32), .int (0 : Int32), .int (xs 1)]) rfl ?_
      refine w_cs (As := [.int (xs 1), .int (0 : Int32), .int (6 : Int32)]) (rest := []) (j := 159) (L0 := [(0, .int (xs 1)), (1, .int (0 : Int32)), (2, .int (6 : Int32))]) (pc' := 7) (L' := [(0, .ref 143), (1, .int (xs 1))]) h_m221 (z_at.mk 3 rfl rfl) (Or.inl ⟨rfl, rfl⟩) rfl rfl rfl rfl rfl ?_
      refine w_p h_m159 2 (pc' := 2) (L' := [(0, .int (xs 1)), (1, .int (0 : Int32)), (2, .int (6 : Int32))]) (st' := [.int (0 : Int32), .int (xs 1)]) rfl ?_
      refine w_f2 (pc' := 5) (L' := [(0, .int (xs 1)), (1, .int (0 : Int32)), (2, .int (6 : Int32))]) h_m159 (z_at.mk 3 rfl rfl) rfl (zc (a := (xs 1).toInt) (b := 0) rfl rfl (decide_eq_false (by omega))) rfl rfl ?_
      refine w_p h_m159 2 (pc' := 7) (L' := [(0, .int (xs 1)), (1, .int (0 : Int32)), (2, .int (6 : Int32))]) (st' := [.int (6 : Int32), .int (xs 1)]) rfl ?_
      refine w_t2 (pc' := 14) (L' := []) h_m159 (z_at.mk 3 rfl rfl) rfl (zc (a := (xs 1).toInt) (b := 6) rfl rfl (decide_eq_true (by omega))) rfl rfl ?_
      refine w_p h_m159 1 (pc' := 15) (L' := []) (st' := [.int (0 : Int32)]) rfl ?_
      refine w_ri h_m159 (z_at.mk 1 rfl rfl) rfl rfl ?_
      show z_W 999 221 7 [(0, .ref 143), (1, .int (xs 1))] [.int (0 : Int32)] m _
      refine w_p h_m221 2 (pc' := 23) (L' := []) (st' := [.int (-1 : Int32)]) rfl ?_
      refine w_ri h_m221 (z_at.mk 1 rfl rfl) rfl rfl ?_
      show z_W 1000 1000 426 [(0, .ref 0), (1, .ref 39), (2, .ref 143), (3, .int (0 : Int32))] [.int (-1 : Int32), .int (-1 : Int32)] m _
      refine w_p h_m1000 5 (pc' := 20) (L' := [(0, .ref 0), (1, .ref 39), (2, .ref 143), (3, .int (6 : Int32))]) (st' := [.ref 0, .int (6 : Int32)]) rfl ?_
      refine w_lene H (x := (6 : Int32)) (pc' := 21) (L' := [(0, .ref 0), (1, .ref 39), (2, .ref 143), (3, .int (6 : Int32))]) h_m1000 (z_at.mk 1 rfl rfl) (by decide) rfl (by decide) rfl rfl rfl ?_
      refine w_p h_m1000 4 (pc' := 1381) (L' := [(0, .ref 0), (1, .ref 39), (2, .ref 143), (3, .int (6 : Int32))]) (st' := [.int (1 : Int32)]) rfl ?_
      refine w_ri h_m1000 (z_at.mk 1 rfl rfl) rfl rfl ?_
      exact hQ _ _ _ _ H (by decide) (by decide)
set_option maxHeartbeats 400000000 in
set_option maxRecDepth 20000 in
theorem w_c30 {xs : Nat → Int32} {m : zM} {Q : Option Value → zM → Prop} (H : w_ok 6 xs 168 63950 w_T0 m) (hQ : ∀ N S T m, w_ok 6 xs N S T m → N ≤ 600039 → S ≤ 7302250 → Q (some (.int 1)) m) : z_W 1000 1000 1112 [(0, .ref 0), (1, .ref 39), (2, .ref 143), (3, .int (0 : Int32))] [] m Q := by
  have b1 := zi_bd (xs 1)
  have b2 := zi_bd (xs 2)
  have b3 := zi_bd (xs 3)
  have b4 := zi_bd (xs 4)
  have b5 := zi_bd (xs 5)
  refine w_p h_m1000 5 (pc' := 1117) (L' := [(0, .ref 0), (1, .ref 39), (2, .ref 143), (3, .int (0 : Int32))]) (st' := [.int (1 : Int32), .ref 0, .ref 39]) rfl ?_
  refine w_ae H (j := 1) (pc' := 1118) (L' := [(0, .ref 0), (1, .ref 39), (2, .ref 143), (3, .int (0 : Int32))]) h_m1000 (z_at.mk 1 rfl rfl) rfl rfl rfl (by decide) rfl (by decide) rfl rfl rfl ?_
  refine w_p h_m1000 4 (pc' := 1122) (L' := [(0, .ref 0), (1, .ref 39), (2, .ref 143), (3, .int (0 : Int32))]) (st' := [.int (2 : Int32), .ref 0, .int (xs 1), .ref 39]) rfl ?_
  refine w_ae H (j := 2) (pc' := 1123) (L' := [(0, .ref 0), (1, .ref 39), (2, .ref 143), (3, .int (0 : Int32))]) h_m1000 (z_at.mk 1 rfl rfl) rfl rfl rfl (by decide) rfl (by decide) rfl rfl rfl ?_
  refine w_p h_m1000 4 (pc' := 1127) (L' := [(0, .ref 0), (1, .ref 39), (2, .ref 143), (3, .int (0 : Int32))]) (st' := [.int (3 : Int32), .ref 0, .int (xs 2), .int (xs 1), .ref 39]) rfl ?_
  refine w_ae H (j := 3) (pc' := 1128) (L' := [(0, .ref 0), (1, .ref 39), (2, .ref 143), (3, .int (0 : Int32))]) h_m1000 (z_at.mk 1 rfl rfl) rfl rfl rfl (by decide) rfl (by decide) rfl rfl rfl ?_
  refine w_p h_m1000 7 (pc' := 1136) (L' := [(0, .ref 0), (1, .ref 39), (2, .ref 143), (3, .int (0 : Int32))]) (st' := [.int (4 : Int32), .ref 0, .long (((xs 3).toInt64) <<< ((32 : Int32).toInt64 &&& 63)), .int (xs 2), .int (xs 1), .ref 39]) rfl ?_
  refine w_ae H (j := 4) (pc' := 1137) (L' := [(0, .ref 0), (1, .ref 39), (2, .ref 143), (3, .int (0 : Int32))]) h_m1000 (z_at.mk 1 rfl rfl) rfl rfl rfl (by decide) rfl (by decide) rfl rfl rfl ?_
  refine w_p h_m1000 4 (pc' := 1143) (L' := [(0, .ref 0), (1, .ref 39), (2, .ref 143), (3, .int (0 : Int32))]) (st' := [.long ((((xs 3).toInt64) <<< ((32 : Int32).toInt64 &&& 63)) ||| (((xs 4).toInt64) &&& (4294967295 : Int64))), .int (xs 2), .int (xs 1), .ref 39]) rfl ?_
  refine w_cv (H.t rfl) (pc' := 1146) (L' := [(0, .ref 0), (1, .ref 39), (2, .ref 143), (3, .int (0 : Int32))]) (rest := []) (Ps := [.int (xs 1), .int (xs 2), .long ((((xs 3).toInt64) <<< ((32 : Int32).toInt64 &&& 63)) ||| (((xs 4).toInt64) &&& (4294967295 : Int64)))]) (L0 := [(0, .ref 39), (1, .int (xs 1)), (2, .int (xs 2)), (3, .long ((((xs 3).toInt64) <<< ((32 : Int32).toInt64 &&& 63)) ||| (((xs 4).toInt64) &&& (4294967295 : Int64))))]) h_m1000 (z_at.mk 3 rfl rfl) (Or.inl ⟨rfl, rfl⟩) rfl rfl (by decide) (by decide) rfl rfl rfl rfl rfl rfl (by decide) rfl rfl rfl ?_
  refine w_p h_m151 1 (pc' := 1) (L' := [(0, .ref 39), (1, .int (xs 1)), (2, .int (xs 2)), (3, .long ((((xs 3).toInt64) <<< ((32 : Int32).toInt64 &&& 63)) ||| (((xs 4).toInt64) &&& (4294967295 : Int64))))]) (st' := [.ref 39]) rfl ?_
  refine w_gf H (pc' := 4) (L' := [(0, .ref 39), (1, .int (xs 1)), (2, .int (xs 2)), (3, .long ((((xs 3).toInt64) <<< ((32 : Int32).toInt64 &&& 63)) ||| (((xs 4).toInt64) &&& (4294967295 : Int64))))]) h_m151 (z_at.mk 3 rfl rfl) rfl (u := .ref 134) rfl rfl rfl ?_
  refine w_p h_m151 1 (pc' := 5) (L' := [(0, .ref 39), (1, .int (xs 1)), (2, .int (xs 2)), (3, .long ((((xs 3).toInt64) <<< ((32 : Int32).toInt64 &&& 63)) ||| (((xs 4).toInt64) &&& (4294967295 : Int64))))]) (st' := [.int (xs 1), .ref 134]) rfl ?_
  refine w_cv (H.t rfl) (pc' := 8) (L' := [(0, .ref 39), (1, .int (xs 1)), (2, .int (xs 2)), (3, .long ((((xs 3).toInt64) <<< ((32 : Int32).toInt64 &&& 63)) ||| (((xs 4).toInt64) &&& (4294967295 : Int64))))]) (rest := []) (Ps := [.int (xs 1)]) (L0 := [(0, .ref 134), (1, .int (xs 1))]) h_m151 (z_at.mk 3 rfl rfl) (Or.inl ⟨rfl, rfl⟩) rfl rfl (by decide) (by decide) rfl rfl rfl rfl rfl rfl (by decide) rfl rfl rfl ?_
  refine w_p h_m59 1 (pc' := 1) (L' := [(0, .ref 134), (1, .int (xs 1))]) (st' := [.int (xs 1)]) rfl ?_
  refine w_cs (As := [.int (xs 1)]) (rest := []) (j := 58) (L0 := [(0, .int (xs 1))]) (pc' := 4) (L' := [(0, .ref 134), (1, .int (xs 1))]) h_m59 (z_at.mk 3 rfl rfl) (Or.inl ⟨rfl, rfl⟩) rfl rfl rfl rfl rfl ?_
  refine w_p h_m58 1 (pc' := 1) (L' := [(0, .int (xs 1))]) (st' := [.int (xs 1)]) rfl ?_
  by_cases c_1 : (xs 1).toInt < 0
  · refine w_t1 (pc' := 14) (L' := []) h_m58 (z_at.mk 3 rfl rfl) rfl (zc (a := (xs 1).toInt) (b := 0) rfl rfl (decide_eq_true (by omega))) rfl rfl ?_
    refine w_p h_m58 1 (pc' := 15) (L' := []) (st' := [.int (0 : Int32)]) rfl ?_
    refine w_ri h_m58 (z_at.mk 1 rfl rfl) rfl rfl ?_
    show z_W 998 59 4 [(0, .ref 134), (1, .int (xs 1))] [.int (0 : Int32)] m _
    refine w_p h_m59 2 (pc' := 8) (L' := [(0, .ref 134), (1, .int (xs 1))]) (st' := [.int (-1 : Int32)]) rfl ?_
    refine w_ri h_m59 (z_at.mk 1 rfl rfl) rfl rfl ?_
    show z_W 999 151 8 [(0, .ref 39), (1, .int (xs 1)), (2, .int (xs 2)), (3, .long ((((xs 3).toInt64) <<< ((32 : Int32).toInt64 &&& 63)) ||| (((xs 4).toInt64) &&& (4294967295 : Int64))))] [.int (-1 : Int32)] m _
    refine w_p h_m151 4 (pc' := 17) (L' := [(5, .int (-1 : Int32)), (0, .ref 39), (1, .int (xs 1)), (2, .int (xs 2)), (3, .long ((((xs 3).toInt64) <<< ((32 : Int32).toInt64 &&& 63)) ||| (((xs 4).toInt64) &&& (4294967295 : Int64))))]) (st' := [.int (-1 : Int32)]) rfl ?_
    refine w_ri h_m151 (z_at.mk 1 rfl rfl) rfl rfl ?_
    show z_W 1000 1000 1146 [(0, .ref 0), (1, .ref 39), (2, .ref 143), (3, .int (0 : Int32))] [.int (-1 : Int32)] m _
    refine w_p h_m1000 5 (pc' := 1151) (L' := [(0, .ref 0), (1, .ref 39), (2, .ref 143), (3, .int (0 : Int32))]) (st' := [.int (1 : Int32), .ref 0, .ref 143, .int (-1 : Int32)]) rfl ?_
    refine w_ae H (j := 1) (pc' := 1152) (L' := [(0, .ref 0), (1, .ref 39), (2, .ref 143), (3, .int (0 : Int32))]) h_m1000 (z_at.mk 1 rfl rfl) rfl rfl rfl (by decide) rfl (by decide) rfl rfl rfl ?_
    refine w_p h_m1000 4 (pc' := 1156) (L' := [(0, .ref 0), (1, .ref 39), (2, .ref 143), (3, .int (0 : Int32))]) (st' := [.int (2 : Int32), .ref 0, .int (xs 1), .ref 143, .int (-1 : Int32)]) rfl ?_
    refine w_ae H (j := 2) (pc' := 1157) (L' := [(0, .ref 0), (1, .ref 39), (2, .ref 143), (3, .int (0 : Int32))]) h_m1000 (z_at.mk 1 rfl rfl) rfl rfl rfl (by decide) rfl (by decide) rfl rfl rfl ?_
    refine w_p h_m1000 4 (pc' := 1161) (L' := [(0, .ref 0), (1, .ref 39), (2, .ref 143), (3, .int (0 : Int32))]) (st' := [.int (3 : Int32), .ref 0, .int (xs 2), .int (xs 1), .ref 143, .int (-1 : Int32)]) rfl ?_
    refine w_ae H (j := 3) (pc' := 1162) (L' := [(0, .ref 0), (1, .ref 39), (2, .ref 143), (3, .int (0 : Int32))]) h_m1000 (z_at.mk 1 rfl rfl) rfl rfl rfl (by decide) rfl (by decide) rfl rfl rfl ?_
    refine w_p h_m1000 7 (pc' := 1170) (L' := [(0, .ref 0), (1, .ref 39), (2, .ref 143), (3, .int (0 : Int32))]) (st' := [.int (4 : Int32), .ref 0, .long (((xs 3).toInt64) <<< ((32 : Int32).toInt64 &&& 63)), .int (xs 2), .int (xs 1), .ref 143, .int (-1 : Int32)]) rfl ?_
    refine w_ae H (j := 4) (pc' := 1171) (L' := [(0, .ref 0), (1, .ref 39), (2, .ref 143), (3, .int (0 : Int32))]) h_m1000 (z_at.mk 1 rfl rfl) rfl rfl rfl (by decide) rfl (by decide) rfl rfl rfl ?_
    refine w_p h_m1000 4 (pc' := 1177) (L' := [(0, .ref 0), (1, .ref 39), (2, .ref 143), (3, .int (0 : Int32))]) (st' := [.long ((((xs 3).toInt64) <<< ((32 : Int32).toInt64 &&& 63)) ||| (((xs 4).toInt64) &&& (4294967295 : Int64))), .int (xs 2), .int (xs 1), .ref 143, .int (-1 : Int32)]) rfl ?_
    refine w_cv (H.t rfl) (pc' := 1180) (L' := [(0, .ref 0), (1, .ref 39), (2, .ref 143), (3, .int (0 : Int32))]) (rest := [.int (-1 : Int32)]) (Ps := [.int (xs 1), .int (xs 2), .long ((((xs 3).toInt64) <<< ((32 : Int32).toInt64 &&& 63)) ||| (((xs 4).toInt64) &&& (4294967295 : Int64)))]) (L0 := [(0, .ref 143), (1, .int (xs 1)), (2, .int (xs 2)), (3, .long ((((xs 3).toInt64) <<< ((32 : Int32).toInt64 &&& 63)) ||| (((xs 4).toInt64) &&& (4294967295 : Int64))))]) h_m1000 (z_at.mk 3 rfl rfl) (Or.inl ⟨rfl, rfl⟩) rfl rfl (by decide) (by decide) rfl rfl rfl rfl rfl rfl (by decide) rfl rfl rfl ?_
    refine w_p h_m265 2 (pc' := 2) (L' := [(0, .ref 143), (1, .int (xs 1)), (2, .int (xs 2)), (3, .long ((((xs 3).toInt64) <<< ((32 : Int32).toInt64 &&& 63)) ||| (((xs 4).toInt64) &&& (4294967295 : Int64))))]) (st' := [.int (xs 1), .ref 143]) rfl ?_
    refine w_cv (H.t rfl) (pc' := 5) (L' := [(0, .ref 143), (1, .int (xs 1)), (2, .int (xs 2)), (3, .long ((((xs 3).toInt64) <<< ((32 : Int32).toInt64 &&& 63)) ||| (((xs 4).toInt64) &&& (4294967295 : Int64))))]) (rest := []) (Ps := [.int (xs 1)]) (L0 := [(0, .ref 143), (1, .int (xs 1))]) h_m265 (z_at.mk 3 rfl rfl) (Or.inl ⟨rfl, rfl⟩) rfl rfl (by decide) (by decide) rfl rfl rfl rfl rfl rfl (by decide) rfl rfl rfl ?_
    refine w_p h_m263 1 (pc' := 1) (L' := [(0, .ref 143), (1, .int (xs 1))]) (st' := [.int (xs 1)]) rfl ?_
    refine w_cs (As := [.int (xs 1)]) (rest := []) (j := 262) (L0 := [(0, .int (xs 1))]) (pc' := 4) (L' := [(0, .ref 143), (1, .int (xs 1))]) h_m263 (z_at.mk 3 rfl rfl) (Or.inl ⟨rfl, rfl⟩) rfl rfl rfl rfl rfl ?_
    refine w_p h_m262 3 (pc' := 3) (L' := [(0, .int (xs 1))]) (st' := [.int (5 : Int32), .int (0 : Int32), .int (xs 1)]) rfl ?_
    refine w_cs (As := [.int (xs 1), .int (0 : Int32), .int (5 : Int32)]) (rest := []) (j := 159) (L0 := [(0, .int (xs 1)), (1, .int (0 : Int32)), (2, .int (5 : Int32))]) (pc' := 6) (L' := [(0, .int (xs 1))]) h_m262 (z_at.mk 3 rfl rfl) (Or.inl ⟨rfl, rfl⟩) rfl rfl rfl rfl rfl ?_
    refine w_p h_m159 2 (pc' := 2) (L' := [(0, .int (xs 1)), (1, .int (0 : Int32)), (2, .int (5 : Int32))]) (st' := [.int (0 : Int32), .int (xs 1)]) rfl ?_
    refine w_t2 (pc' := 14) (L' := []) h_m159 (z_at.mk 3 rfl rfl) rfl (zc (a := (xs 1).toInt) (b := 0) rfl rfl (decide_eq_true (by omega))) rfl rfl ?_
    refine w_p h_m159 1 (pc' := 15) (L' := []) (st' := [.int (0 : Int32)]) rfl ?_
    refine w_ri h_m159 (z_at.mk 1 rfl rfl) rfl rfl ?_
    show z_W 997 262 6 [(0, .int (xs 1))] [.int (0 : Int32)] m _
    refine w_ri h_m262 (z_at.mk 1 rfl rfl) rfl rfl ?_
    show z_W 998 263 4 [(0, .ref 143), (1, .int (xs 1))] [.int (0 : Int32)] m _
    refine w_p h_m263 3 (pc' := 26) (L' := []) (st' := [.int (-1 : Int32)]) rfl ?_
    refine w_ri h_m263 (z_at.mk 1 rfl rfl) rfl rfl ?_
    show z_W 999 265 5 [(0, .ref 143), (1, .int (xs 1)), (2, .int (xs 2)), (3, .long ((((xs 3).toInt64) <<< ((32 : Int32).toInt64 &&& 63)) ||| (((xs 4).toInt64) &&& (4294967295 : Int64))))] [.int (-1 : Int32)] m _
    refine w_p h_m265 4 (pc' := 14) (L' := [(5, .int (-1 : Int32)), (0, .ref 143), (1, .int (xs 1)), (2, .int (xs 2)), (3, .long ((((xs 3).toInt64) <<< ((32 : Int32).toInt64 &&& 63)) ||| (((xs 4).toInt64) &&& (4294967295 : Int64))))]) (st' := [.int (-1 : Int32)]) rfl ?_
    refine w_ri h_m265 (z_at.mk 1 rfl rfl) rfl rfl ?_
    show z_W 1000 1000 1180 [(0, .ref 0), (1, .ref 39), (2, .ref 143), (3, .int (0 : Int32))] [.int (-1 : Int32), .int (-1 : Int32)] m _
    refine w_p h_m1000 5 (pc' := 20) (L' := [(0, .ref 0), (1, .ref 39), (2, .ref 143), (3, .int (6 : Int32))]) (st' := [.ref 0, .int (6 : Int32)]) rfl ?_
    refine w_lene H (x := (6 : Int32)) (pc' := 21) (L' := [(0, .ref 0), (1, .ref 39), (2, .ref 143), (3, .int (6 : Int32))]) h_m1000 (z_at.mk 1 rfl rfl) (by decide) rfl (by decide) rfl rfl rfl ?_
    refine w_p h_m1000 4 (pc' := 1381) (L' := [(0, .ref 0), (1, .ref 39), (2, .ref 143), (3, .int (6 : Int32))]) (st' := [.int (1 : Int32)]) rfl ?_
    refine w_ri h_m1000 (z_at.mk 1 rfl rfl) rfl rfl ?_
    exact hQ _ _ _ _ H (by decide) (by decide)
  · refine w_f1 (pc' := 4) (L' := [(0, .int (xs 1))]) h_m58 (z_at.mk 3 rfl rfl) rfl (zc (a := (xs 1).toInt) (b := 0) rfl rfl (decide_eq_false (by omega))) rfl rfl ?_
    refine w_p h_m58 2 (pc' := 7) (L' := [(0, .int (xs 1))]) (st' := [.int (6 : Int32), .int (xs 1)]) rfl ?_
    by_cases c_2 : (xs 1).toInt < 6
    · refine w_f2 (pc' := 10) (L' := [(0, .int (xs 1))]) h_m58 (z_at.mk 3 rfl rfl) rfl (zc (a := (xs 1).toInt) (b := 6) rfl rfl (decide_eq_false (by omega))) rfl rfl ?_
      refine w_p h_m58 2 (pc' := 15) (L' := []) (st' := [.int (1 : Int32)]) rfl ?_
      refine w_ri h_m58 (z_at.mk 1 rfl rfl) rfl rfl ?_
      show z_W 998 59 4 [(0, .ref 134), (1, .int (xs 1))] [.int (1 : Int32)] m _
      refine w_p h_m59 2 (pc' := 10) (L' := [(0, .ref 134), (1, .int (xs 1))]) (st' := [.ref 134]) rfl ?_
      refine w_gf H (pc' := 13) (L' := [(0, .ref 134), (1, .int (xs 1))]) h_m59 (z_at.mk 3 rfl rfl) rfl (u := .ref 142) rfl rfl rfl ?_
      refine w_p h_m59 1 (pc' := 14) (L' := [(0, .ref 134), (1, .int (xs 1))]) (st' := [.int (xs 1), .ref 142]) rfl ?_
      by_cases c_3 : (xs 1).toInt = 5
      · refine w_top (v' := .int (5 : Int32)) (congrArg Value.int (zi_lit (c := (xs 1).toInt) rfl c_3)) ?_
        refine w_al H (t := 0) (j := 5) (pc' := 15) (L' := [(0, .ref 134), (1, .int (xs 1))]) h_m59 (z_at.mk 1 rfl rfl) rfl rfl rfl (u := .int (-1 : Int32)) rfl rfl rfl ?_
        refine w_p h_m59 3 (pc' := 24) (L' := []) (st' := [.int (-11 : Int32)]) rfl ?_
        refine w_ri h_m59 (z_at.mk 1 rfl rfl) rfl rfl ?_
        show z_W 999 151 8 [(0, .ref 39), (1, .int (xs 1)), (2, .int (xs 2)), (3, .long ((((xs 3).toInt64) <<< ((32 : Int32).toInt64 &&& 63)) ||| (((xs 4).toInt64) &&& (4294967295 : Int64))))] [.int (-11 : Int32)] m _
        refine w_p h_m151 4 (pc' := 17) (L' := [(5, .int (-11 : Int32)), (0, .ref 39), (1, .int (xs 1)), (2, .int (xs 2)), (3, .long ((((xs 3).toInt64) <<< ((32 : Int32).toInt64 &&& 63)) ||| (((xs 4).toInt64) &&& (4294967295 : Int64))))]) (st' := [.int (-11 : Int32)]) rfl ?_
        refine w_ri h_m151 (z_at.mk 1 rfl rfl) rfl rfl ?_
        show z_W 1000 1000 1146 [(0, .ref 0), (1, .ref 39), (2, .ref 143), (3, .int (0 : Int32))] [.int (-11 : Int32)] m _
        refine w_p h_m1000 5 (pc' := 1151) (L' := [(0, .ref 0), (1, .ref 39), (2, .ref 143), (3, .int (0 : Int32))]) (st' := [.int (1 : Int32), .ref 0, .ref 143, .int (-11 : Int32)]) rfl ?_
        refine w_ae H (j := 1) (pc' := 1152) (L' := [(0, .ref 0), (1, .ref 39), (2, .ref 143), (3, .int (0 : Int32))]) h_m1000 (z_at.mk 1 rfl rfl) rfl rfl rfl (by decide) rfl (by decide) rfl rfl rfl ?_
        refine w_p h_m1000 4 (pc' := 1156) (L' := [(0, .ref 0), (1, .ref 39), (2, .ref 143), (3, .int (0 : Int32))]) (st' := [.int (2 : Int32), .ref 0, .int (xs 1), .ref 143, .int (-11 : Int32)]) rfl ?_
        refine w_ae H (j := 2) (pc' := 1157) (L' := [(0, .ref 0), (1, .ref 39), (2, .ref 143), (3, .int (0 : Int32))]) h_m1000 (z_at.mk 1 rfl rfl) rfl rfl rfl (by decide) rfl (by decide) rfl rfl rfl ?_
        refine w_p h_m1000 4 (pc' := 1161) (L' := [(0, .ref 0), (1, .ref 39), (2, .ref 143), (3, .int (0 : Int32))]) (st' := [.int (3 : Int32), .ref 0, .int (xs 2), .int (xs 1), .ref 143, .int (-11 : Int32)]) rfl ?_
        refine w_ae H (j := 3) (pc' := 1162) (L' := [(0, .ref 0), (1, .ref 39), (2, .ref 143), (3, .int (0 : Int32))]) h_m1000 (z_at.mk 1 rfl rfl) rfl rfl rfl (by decide) rfl (by decide) rfl rfl rfl ?_
        refine w_p h_m1000 7 (pc' := 1170) (L' := [(0, .ref 0), (1, .ref 39), (2, .ref 143), (3, .int (0 : Int32))]) (st' := [.int (4 : Int32), .ref 0, .long (((xs 3).toInt64) <<< ((32 : Int32).toInt64 &&& 63)), .int (xs 2), .int (xs 1), .ref 143, .int (-11 : Int32)]) rfl ?_
        refine w_ae H (j := 4) (pc' := 1171) (L' := [(0, .ref 0), (1, .ref 39), (2, .ref 143), (3, .int (0 : Int32))]) h_m1000 (z_at.mk 1 rfl rfl) rfl rfl rfl (by decide) rfl (by decide) rfl rfl rfl ?_
        refine w_p h_m1000 4 (pc' := 1177) (L' := [(0, .ref 0), (1, .ref 39), (2, .ref 143), (3, .int (0 : Int32))]) (st' := [.long ((((xs 3).toInt64) <<< ((32 : Int32).toInt64 &&& 63)) ||| (((xs 4).toInt64) &&& (4294967295 : Int64))), .int (xs 2), .int (xs 1), .ref 143, .int (-11 : Int32)]) rfl ?_
        refine w_cv (H.t rfl) (pc' := 1180) (L' := [(0, .ref 0), (1, .ref 39), (2, .ref 143), (3, .int (0 : Int32))]) (rest := [.int (-11 : Int32)]) (Ps := [.int (xs 1), .int (xs 2), .long ((((xs 3).toInt64) <<< ((32 : Int32).toInt64 &&& 63)) ||| (((xs 4).toInt64) &&& (4294967295 : Int64)))]) (L0 := [(0, .ref 143), (1, .int (xs 1)), (2, .int (xs 2)), (3, .long ((((xs 3).toInt64) <<< ((32 : Int32).toInt64 &&& 63)) ||| (((xs 4).toInt64) &&& (4294967295 : Int64))))]) h_m1000 (z_at.mk 3 rfl rfl) (Or.inl ⟨rfl, rfl⟩) rfl rfl (by decide) (by decide) rfl rfl rfl rfl rfl rfl (by decide) rfl rfl rfl ?_
        refine w_p h_m265 2 (pc' := 2) (L' := [(0, .ref 143), (1, .int (xs 1)), (2, .int (xs 2)), (3, .long ((((xs 3).toInt64) <<< ((32 : Int32).toInt64 &&& 63)) ||| (((xs 4).toInt64) &&& (4294967295 : Int64))))]) (st' := [.int (xs 1), .ref 143]) rfl ?_
        refine w_cv (H.t rfl) (pc' := 5) (L' := [(0, .ref 143), (1, .int (xs 1)), (2, .int (xs 2)), (3, .long ((((xs 3).toInt64) <<< ((32 : Int32).toInt64 &&& 63)) ||| (((xs 4).toInt64) &&& (4294967295 : Int64))))]) (rest := []) (Ps := [.int (xs 1)]) (L0 := [(0, .ref 143), (1, .int (xs 1))]) h_m265 (z_at.mk 3 rfl rfl) (Or.inl ⟨rfl, rfl⟩) rfl rfl (by decide) (by decide) rfl rfl rfl rfl rfl rfl (by decide) rfl rfl rfl ?_
        refine w_p h_m263 1 (pc' := 1) (L' := [(0, .ref 143), (1, .int (xs 1))]) (st' := [.int (xs 1)]) rfl ?_
        refine w_cs (As := [.int (xs 1)]) (rest := []) (j := 262) (L0 := [(0, .int (xs 1))]) (pc' := 4) (L' := [(0, .ref 143), (1, .int (xs 1))]) h_m263 (z_at.mk 3 rfl rfl) (Or.inl ⟨rfl, rfl⟩) rfl rfl rfl rfl rfl ?_
        refine w_p h_m262 3 (pc' := 3) (L' := [(0, .int (xs 1))]) (st' := [.int (5 : Int32), .int (0 : Int32), .int (xs 1)]) rfl ?_
        refine w_cs (As := [.int (xs 1), .int (0 : Int32), .int (5 : Int32)]) (rest := []) (j := 159) (L0 := [(0, .int (xs 1)), (1, .int (0 : Int32)), (2, .int (5 : Int32))]) (pc' := 6) (L' := [(0, .int (xs 1))]) h_m262 (z_at.mk 3 rfl rfl) (Or.inl ⟨rfl, rfl⟩) rfl rfl rfl rfl rfl ?_
        refine w_p h_m159 2 (pc' := 2) (L' := [(0, .int (xs 1)), (1, .int (0 : Int32)), (2, .int (5 : Int32))]) (st' := [.int (0 : Int32), .int (xs 1)]) rfl ?_
        refine w_f2 (pc' := 5) (L' := [(0, .int (xs 1)), (1, .int (0 : Int32)), (2, .int (5 : Int32))]) h_m159 (z_at.mk 3 rfl rfl) rfl (zc (a := (xs 1).toInt) (b := 0) rfl rfl (decide_eq_false (by omega))) rfl rfl ?_
        refine w_p h_m159 2 (pc' := 7) (L' := [(0, .int (xs 1)), (1, .int (0 : Int32)), (2, .int (5 : Int32))]) (st' := [.int (5 : Int32), .int (xs 1)]) rfl ?_
        refine w_f2 (pc' := 10) (L' := [(0, .int (xs 1)), (1, .int (0 : Int32)), (2, .int (5 : Int32))]) h_m159 (z_at.mk 3 rfl rfl) rfl (zc (a := (xs 1).toInt) (b := 5) rfl rfl (decide_eq_false (by omega))) rfl rfl ?_
        refine w_p h_m159 2 (pc' := 15) (L' := []) (st' := [.int (1 : Int32)]) rfl ?_
        refine w_ri h_m159 (z_at.mk 1 rfl rfl) rfl rfl ?_
        show z_W 997 262 6 [(0, .int (xs 1))] [.int (1 : Int32)] m _
        refine w_ri h_m262 (z_at.mk 1 rfl rfl) rfl rfl ?_
        show z_W 998 263 4 [(0, .ref 143), (1, .int (xs 1))] [.int (1 : Int32)] m _
        refine w_p h_m263 2 (pc' := 12) (L' := [(0, .ref 143), (1, .int (xs 1))]) (st' := [.ref 143]) rfl ?_
        refine w_gf H (pc' := 15) (L' := [(0, .ref 143), (1, .int (xs 1))]) h_m263 (z_at.mk 3 rfl rfl) rfl (u := .ref 166) rfl rfl rfl ?_
        refine w_p h_m263 1 (pc' := 16) (L' := [(0, .ref 143), (1, .int (xs 1))]) (st' := [.int (xs 1), .ref 166]) rfl ?_
        have c_4 : (xs 1).toInt = 5 := by omega
        refine w_top (v' := .int (5 : Int32)) (congrArg Value.int (zi_lit (c := (xs 1).toInt) rfl c_4)) ?_
        refine w_al H (t := 0) (j := 5) (pc' := 17) (L' := [(0, .ref 143), (1, .int (xs 1))]) h_m263 (z_at.mk 1 rfl rfl) rfl rfl rfl (u := .int (-1 : Int32)) rfl rfl rfl ?_
        refine w_p h_m263 3 (pc' := 26) (L' := []) (st' := [.int (-11 : Int32)]) rfl ?_
        refine w_ri h_m263 (z_at.mk 1 rfl rfl) rfl rfl ?_
        show z_W 999 265 5 [(0, .ref 143), (1, .int (xs 1)), (2, .int (xs 2)), (3, .long ((((xs 3).toInt64) <<< ((32 : Int32).toInt64 &&& 63)) ||| (((xs 4).toInt64) &&& (4294967295 : Int64))))] [.int (-11 : Int32)] m _
        refine w_p h_m265 4 (pc' := 14) (L' := [(5, .int (-11 : Int32)), (0, .ref 143), (1, .int (xs 1)), (2, .int (xs 2)), (3, .long ((((xs 3).toInt64) <<< ((32 : Int32).toInt64 &&& 63)) ||| (((xs 4).toInt64) &&& (4294967295 : Int64))))]) (st' := [.int (-11 : Int32)]) rfl ?_
        refine w_ri h_m265 (z_at.mk 1 rfl rfl) rfl rfl ?_
        show z_W 1000 1000 1180 [(0, .ref 0), (1, .ref 39), (2, .ref 143), (3, .int (0 : Int32))] [.int (-11 : Int32), .int (-11 : Int32)] m _
        refine w_p h_m1000 5 (pc' := 20) (L' := [(0, .ref 0), (1, .ref 39), (2, .ref 143), (3, .int (6 : Int32))]) (st' := [.ref 0, .int (6 : Int32)]) rfl ?_
        refine w_lene H (x := (6 : Int32)) (pc' := 21) (L' := [(0, .ref 0), (1, .ref 39), (2, .ref 143), (3, .int (6 : Int32))]) h_m1000 (z_at.mk 1 rfl rfl) (by decide) rfl (by decide) rfl rfl rfl ?_
        refine w_p h_m1000 4 (pc' := 1381) (L' := [(0, .ref 0), (1, .ref 39), (2, .ref 143), (3, .int (6 : Int32))]) (st' := [.int (1 : Int32)]) rfl ?_
        refine w_ri h_m1000 (z_at.mk 1 rfl rfl) rfl rfl ?_
        exact hQ _ _ _ _ H (by decide) (by decide)
      by_cases c_4 : (xs 1).toInt = 4
      · refine w_top (v' := .int (4 : Int32)) (congrArg Value.int (zi_lit (c := (xs 1).toInt) rfl c_4)) ?_
        refine w_al H (t := 0) (j := 4) (pc' := 15) (L' := [(0, .ref 134), (1, .int (xs 1))]) h_m59 (z_at.mk 1 rfl rfl) rfl rfl rfl (u := .int (-1 : Int32)) rfl rfl rfl ?_
        refine w_p h_m59 3 (pc' := 24) (L' := []) (st' := [.int (-11 : Int32)]) rfl ?_
        refine w_ri h_m59 (z_at.mk 1 rfl rfl) rfl rfl ?_
        show z_W 999 151 8 [(0, .ref 39), (1, .int (xs 1)), (2, .int (xs 2)), (3, .long ((((xs 3).toInt64) <<< ((32 : Int32).toInt64 &&& 63)) ||| (((xs 4).toInt64) &&& (4294967295 : Int64))))] [.int (-11 : Int32)] m _
        refine w_p h_m151 4 (pc' := 17) (L' := [(5, .int (-11 : Int32)), (0, .ref 39), (1, .int (xs 1)), (2, .int (xs 2)), (3, .long ((((xs 3).toInt64) <<< ((32 : Int32).toInt64 &&& 63)) ||| (((xs 4).toInt64) &&& (4294967295 : Int64))))]) (st' := [.int (-11 : Int32)]) rfl ?_
        refine w_ri h_m151 (z_at.mk 1 rfl rfl) rfl rfl ?_
        show z_W 1000 1000 1146 [(0, .ref 0), (1, .ref 39), (2, .ref 143), (3, .int (0 : Int32))] [.int (-11 : Int32)] m _
        refine w_p h_m1000 5 (pc' := 1151) (L' := [(0, .ref 0), (1, .ref 39), (2, .ref 143), (3, .int (0 : Int32))]) (st' := [.int (1 : Int32), .ref 0, .ref 143, .int (-11 : Int32)]) rfl ?_
        refine w_ae H (j := 1) (pc' := 1152) (L' := [(0, .ref 0), (1, .ref 39), (2, .ref 143), (3, .int (0 : Int32))]) h_m1000 (z_at.mk 1 rfl rfl) rfl rfl rfl (by decide) rfl (by decide) rfl rfl rfl ?_
        refine w_p h_m1000 4 (pc' := 1156) (L' := [(0, .ref 0), (1, .ref 39), (2, .ref 143), (3, .int (0 : Int32))]) (st' := [.int (2 : Int32), .ref 0, .int (xs 1), .ref 143, .int (-11 : Int32)]) rfl ?_
        refine w_ae H (j := 2) (pc' := 1157) (L' := [(0, .ref 0), (1, .ref 39), (2, .ref 143), (3, .int (0 : Int32))]) h_m1000 (z_at.mk 1 rfl rfl) rfl rfl rfl (by decide) rfl (by decide) rfl rfl rfl ?_
        refine w_p h_m1000 4 (pc' := 1161) (L' := [(0, .ref 0), (1, .ref 39), (2, .ref 143), (3, .int (0 : Int32))]) (st' := [.int (3 : Int32), .ref 0, .int (xs 2), .int (xs 1), .ref 143, .int (-11 : Int32)]) rfl ?_
        refine w_ae H (j := 3) (pc' := 1162) (L' := [(0, .ref 0), (1, .ref 39), (2, .ref 143), (3, .int (0 : Int32))]) h_m1000 (z_at.mk 1 rfl rfl) rfl rfl rfl (by decide) rfl (by decide) rfl rfl rfl ?_
        refine w_p h_m1000 7 (pc' := 1170) (L' := [(0, .ref 0), (1, .ref 39), (2, .ref 143), (3, .int (0 : Int32))]) (st' := [.int (4 : Int32), .ref 0, .long (((xs 3).toInt64) <<< ((32 : Int32).toInt64 &&& 63)), .int (xs 2), .int (xs 1), .ref 143, .int (-11 : Int32)]) rfl ?_
        refine w_ae H (j := 4) (pc' := 1171) (L' := [(0, .ref 0), (1, .ref 39), (2, .ref 143), (3, .int (0 : Int32))]) h_m1000 (z_at.mk 1 rfl rfl) rfl rfl rfl (by decide) rfl (by decide) rfl rfl rfl ?_
        refine w_p h_m1000 4 (pc' := 1177) (L' := [(0, .ref 0), (1, .ref 39), (2, .ref 143), (3, .int (0 : Int32))]) (st' := [.long ((((xs 3).toInt64) <<< ((32 : Int32).toInt64 &&& 63)) ||| (((xs 4).toInt64) &&& (4294967295 : Int64))), .int (xs 2), .int (xs 1), .ref 143, .int (-11 : Int32)]) rfl ?_
        refine w_cv (H.t rfl) (pc' := 1180) (L' := [(0, .ref 0), (1, .ref 39), (2, .ref 143), (3, .int (0 : Int32))]) (rest := [.int (-11 : Int32)]) (Ps := [.int (xs 1), .int (xs 2), .long ((((xs 3).toInt64) <<< ((32 : Int32).toInt64 &&& 63)) ||| (((xs 4).toInt64) &&& (4294967295 : Int64)))]) (L0 := [(0, .ref 143), (1, .int (xs 1)), (2, .int (xs 2)), (3, .long ((((xs 3).toInt64) <<< ((32 : Int32).toInt64 &&& 63)) ||| (((xs 4).toInt64) &&& (4294967295 : Int64))))]) h_m1000 (z_at.mk 3 rfl rfl) (Or.inl ⟨rfl, rfl⟩) rfl rfl (by decide) (by decide) rfl rfl rfl rfl rfl rfl (by decide) rfl rfl rfl ?_
        refine w_p h_m265 2 (pc' := 2) (L' := [(0, .ref 143), (1, .int (xs 1)), (2, .int (xs 2)), (3, .long ((((xs 3).toInt64) <<< ((32 : Int32).toInt64 &&& 63)) ||| (((xs 4).toInt64) &&& (4294967295 : Int64))))]) (st' := [.int (xs 1), .ref 143]) rfl ?_
        refine w_cv (H.t rfl) (pc' := 5) (L' := [(0, .ref 143), (1, .int (xs 1)), (2, .int (xs 2)), (3, .long ((((xs 3).toInt64) <<< ((32 : Int32).toInt64 &&& 63)) ||| (((xs 4).toInt64) &&& (4294967295 : Int64))))]) (rest := []) (Ps := [.int (xs 1)]) (L0 := [(0, .ref 143), (1, .int (xs 1))]) h_m265 (z_at.mk 3 rfl rfl) (Or.inl ⟨rfl, rfl⟩) rfl rfl (by decide) (by decide) rfl rfl rfl rfl rfl rfl (by decide) rfl rfl rfl ?_
        refine w_p h_m263 1 (pc' := 1) (L' := [(0, .ref 143), (1, .int (xs 1))]) (st' := [.int (xs 1)]) rfl ?_
        refine w_cs (As := [.int (xs 1)]) (rest := []) (j := 262) (L0 := [(0, .int (xs 1))]) (pc' := 4) (L' := [(0, .ref 143), (1, .int (xs 1))]) h_m263 (z_at.mk 3 rfl rfl) (Or.inl ⟨rfl, rfl⟩) rfl rfl rfl rfl rfl ?_
        refine w_p h_m262 3 (pc' := 3) (L' := [(0, .int (xs 1))]) (st' := [.int (5 : Int32), .int (0 : Int32), .int (xs 1)]) rfl ?_
        refine w_cs (As := [.int (xs 1), .int (0 : Int32), .int (5 : Int32)]) (rest := []) (j := 159) (L0 := [(0, .int (xs 1)), (1, .int (0 : Int32)), (2, .int (5 : Int32))]) (pc' := 6) (L' := [(0, .int (xs 1))]) h_m262 (z_at.mk 3 rfl rfl) (Or.inl ⟨rfl, rfl⟩) rfl rfl rfl rfl rfl ?_
        refine w_p h_m159 2 (pc' := 2) (L' := [(0, .int (xs 1)), (1, .int (0 : Int32)), (2, .int (5 : Int32))]) (st' := [.int (0 : Int32), .int (xs 1)]) rfl ?_
        refine w_f2 (pc' := 5) (L' := [(0, .int (xs 1)), (1, .int (0 : Int32)), (2, .int (5 : Int32))]) h_m159 (z_at.mk 3 rfl rfl) rfl (zc (a := (xs 1).toInt) (b := 0) rfl rfl (decide_eq_false (by omega))) rfl rfl ?_
        refine w_p h_m159 2 (pc' := 7) (L' := [(0, .int (xs 1)), (1, .int (0 : Int32)), (2, .int (5 : Int32))]) (st' := [.int (5 : Int32), .int (xs 1)]) rfl ?_
        refine w_f2 (pc' := 10) (L' := [(0, .int (xs 1)), (1, .int (0 : Int32)), (2, .int (5 : Int32))]) h_m159 (z_at.mk 3 rfl rfl) rfl (zc (a := (xs 1).toInt) (b := 5) rfl rfl (decide_eq_false (by omega))) rfl rfl ?_
        refine w_p h_m159 2 (pc' := 15) (L' := []) (st' := [.int (1 : Int32)]) rfl ?_
        refine w_ri h_m159 (z_at.mk 1 rfl rfl) rfl rfl ?_
        show z_W 997 262 6 [(0, .int (xs 1))] [.int (1 : Int32)] m _
        refine w_ri h_m262 (z_at.mk 1 rfl rfl) rfl rfl ?_
        show z_W 998 263 4 [(0, .ref 143), (1, .int (xs 1))] [.int (1 : Int32)] m _
        refine w_p h_m263 2 (pc' := 12) (L' := [(0, .ref 143), (1, .int (xs 1))]) (st' := [.ref 143]) rfl ?_
        refine w_gf H (pc' := 15) (L' := [(0, .ref 143), (1, .int (xs 1))]) h_m263 (z_at.mk 3 rfl rfl) rfl (u := .ref 166) rfl rfl rfl ?_
        refine w_p h_m263 1 (pc' := 16) (L' := [(0, .ref 143), (1, .int (xs 1))]) (st' := [.int (xs 1), .ref 166]) rfl ?_
        have c_5 : (xs 1).toInt = 4 := by omega
        refine w_top (v' := .int (4 : Int32)) (congrArg Value.int (zi_lit (c := (xs 1).toInt) rfl c_5)) ?_
        refine w_al H (t := 0) (j := 4) (pc' := 17) (L' := [(0, .ref 143), (1, .int (xs 1))]) h_m263 (z_at.mk 1 rfl rfl) rfl rfl rfl (u := .int (-1 : Int32)) rfl rfl rfl ?_
        refine w_p h_m263 3 (pc' := 26) (L' := []) (st' := [.int (-11 : Int32)]) rfl ?_
        refine w_ri h_m263 (z_at.mk 1 rfl rfl) rfl rfl ?_
        show z_W 999 265 5 [(0, .ref 143), (1, .int (xs 1)), (2, .int (xs 2)), (3, .long ((((xs 3).toInt64) <<< ((32 : Int32).toInt64 &&& 63)) ||| (((xs 4).toInt64) &&& (4294967295 : Int64))))] [.int (-11 : Int32)] m _
        refine w_p h_m265 4 (pc' := 14) (L' := [(5, .int (-11 : Int32)), (0, .ref 143), (1, .int (xs 1)), (2, .int (xs 2)), (3, .long ((((xs 3).toInt64) <<< ((32 : Int32).toInt64 &&& 63)) ||| (((xs 4).toInt64) &&& (4294967295 : Int64))))]) (st' := [.int (-11 : Int32)]) rfl ?_
        refine w_ri h_m265 (z_at.mk 1 rfl rfl) rfl rfl ?_
        show z_W 1000 1000 1180 [(0, .ref 0), (1, .ref 39), (2, .ref 143), (3, .int (0 : Int32))] [.int (-11 : Int32), .int (-11 : Int32)] m _
        refine w_p h_m1000 5 (pc' := 20) (L' := [(0, .ref 0), (1, .ref 39), (2, .ref 143), (3, .int (6 : Int32))]) (st' := [.ref 0, .int (6 : Int32)]) rfl ?_
        refine w_lene H (x := (6 : Int32)) (pc' := 21) (L' := [(0, .ref 0), (1, .ref 39), (2, .ref 143), (3, .int (6 : Int32))]) h_m1000 (z_at.mk 1 rfl rfl) (by decide) rfl (by decide) rfl rfl rfl ?_
        refine w_p h_m1000 4 (pc' := 1381) (L' := [(0, .ref 0), (1, .ref 39), (2, .ref 143), (3, .int (6 : Int32))]) (st' := [.int (1 : Int32)]) rfl ?_
        refine w_ri h_m1000 (z_at.mk 1 rfl rfl) rfl rfl ?_
        exact hQ _ _ _ _ H (by decide) (by decide)
      by_cases c_5 : (xs 1).toInt = 3
      · refine w_top (v' := .int (3 : Int32)) (congrArg Value.int (zi_lit (c := (xs 1).toInt) rfl c_5)) ?_
        refine w_al H (t := 0) (j := 3) (pc' := 15) (L' := [(0, .ref 134), (1, .int (xs 1))]) h_m59 (z_at.mk 1 rfl rfl) rfl rfl rfl (u := .int (-1 : Int32)) rfl rfl rfl ?_
        refine w_p h_m59 3 (pc' := 24) (L' := []) (st' := [.int (-11 : Int32)]) rfl ?_
        refine w_ri h_m59 (z_at.mk 1 rfl rfl) rfl rfl ?_
        show z_W 999 151 8 [(0, .ref 39), (1, .int (xs 1)), (2, .int (xs 2)), (3, .long ((((xs 3).toInt64) <<< ((32 : Int32).toInt64 &&& 63)) ||| (((xs 4).toInt64) &&& (4294967295 : Int64))))] [.int (-11 : Int32)] m _
        refine w_p h_m151 4 (pc' := 17) (L' := [(5, .int (-11 : Int32)), (0, .ref 39), (1, .int (xs 1)), (2, .int (xs 2)), (3, .long ((((xs 3).toInt64) <<< ((32 : Int32).toInt64 &&& 63)) ||| (((xs 4).toInt64) &&& (4294967295 : Int64))))]) (st' := [.int (-11 : Int32)]) rfl ?_
        refine w_ri h_m151 (z_at.mk 1 rfl rfl) rfl rfl ?_
        show z_W 1000 1000 1146 [(0, .ref 0), (1, .ref 39), (2, .ref 143), (3, .int (0 : Int32))] [.int (-11 : Int32)] m _
        refine w_p h_m1000 5 (pc' := 1151) (L' := [(0, .ref 0), (1, .ref 39), (2, .ref 143), (3, .int (0 : Int32))]) (st' := [.int (1 : Int32), .ref 0, .ref 143, .int (-11 : Int32)]) rfl ?_
        refine w_ae H (j := 1) (pc' := 1152) (L' := [(0, .ref 0), (1, .ref 39), (2, .ref 143), (3, .int (0 : Int32))]) h_m1000 (z_at.mk 1 rfl rfl) rfl rfl rfl (by decide) rfl (by decide) rfl rfl rfl ?_
        refine w_p h_m1000 4 (pc' := 1156) (L' := [(0, .ref 0), (1, .ref 39), (2, .ref 143), (3, .int (0 : Int32))]) (st' := [.int (2 : Int32), .ref 0, .int (xs 1), .ref 143, .int (-11 : Int32)]) rfl ?_
        refine w_ae H (j := 2) (pc' := 1157) (L' := [(0, .ref 0), (1, .ref 39), (2, .ref 143), (3, .int (0 : Int32))]) h_m1000 (z_at.mk 1 rfl rfl) rfl rfl rfl (by decide) rfl (by decide) rfl rfl rfl ?_
        refine w_p h_m1000 4 (pc' := 1161) (L' := [(0, .ref 0), (1, .ref 39), (2, .ref 143), (3, .int (0 : Int32))]) (st' := [.int (3 : Int32), .ref 0, .int (xs 2), .int (xs 1), .ref 143, .int (-11 : Int32)]) rfl ?_
        refine w_ae H (j := 3) (pc' := 1162) (L' := [(0, .ref 0), (1, .ref 39), (2, .ref 143), (3, .int (0 : Int32))]) h_m1000 (z_at.mk 1 rfl rfl) rfl rfl rfl (by decide) rfl (by decide) rfl rfl rfl ?_
        refine w_p h_m1000 7 (pc' := 1170) (L' := [(0, .ref 0), (1, .ref 39), (2, .ref 143), (3, .int (0 : Int32))]) (st' := [.int (4 : Int32), .ref 0, .long (((xs 3).toInt64) <<< ((32 : Int32).toInt64 &&& 63)), .int (xs 2), .int (xs 1), .ref 143, .int (-11 : Int32)]) rfl ?_
        refine w_ae H (j := 4) (pc' := 1171) (L' := [(0, .ref 0), (1, .ref 39), (2, .ref 143), (3, .int (0 : Int32))]) h_m1000 (z_at.mk 1 rfl rfl) rfl rfl rfl (by decide) rfl (by decide) rfl rfl rfl ?_
        refine w_p h_m1000 4 (pc' := 1177) (L' := [(0, .ref 0), (1, .ref 39), (2, .ref 143), (3, .int (0 : Int32))]) (st' := [.long ((((xs 3).toInt64) <<< ((32 : Int32).toInt64 &&& 63)) ||| (((xs 4).toInt64) &&& (4294967295 : Int64))), .int (xs 2), .int (xs 1), .ref 143, .int (-11 : Int32)]) rfl ?_
        refine w_cv (H.t rfl) (pc' := 1180) (L' := [(0, .ref 0), (1, .ref 39), (2, .ref 143), (3, .int (0 : Int32))]) (rest := [.int (-11 : Int32)]) (Ps := [.int (xs 1), .int (xs 2), .long ((((xs 3).toInt64) <<< ((32 : Int32).toInt64 &&& 63)) ||| (((xs 4).toInt64) &&& (4294967295 : Int64)))]) (L0 := [(0, .ref 143), (1, .int (xs 1)), (2, .int (xs 2)), (3, .long ((((xs 3).toInt64) <<< ((32 : Int32).toInt64 &&& 63)) ||| (((xs 4).toInt64) &&& (4294967295 : Int64))))]) h_m1000 (z_at.mk 3 rfl rfl) (Or.inl ⟨rfl, rfl⟩) rfl rfl (by decide) (by decide) rfl rfl rfl rfl rfl rfl (by decide) rfl rfl rfl ?_
        refine w_p h_m265 2 (pc' := 2) (L' := [(0, .ref 143), (1, .int (xs 1)), (2, .int (xs 2)), (3, .long ((((xs 3).toInt64) <<< ((32 : Int32).toInt64 &&& 63)) ||| (((xs 4).toInt64) &&& (4294967295 : Int64))))]) (st' := [.int (xs 1), .ref 143]) rfl ?_
        refine w_cv (H.t rfl) (pc' := 5) (L' := [(0, .ref 143), (1, .int (xs 1)), (2, .int (xs 2)), (3, .long ((((xs 3).toInt64) <<< ((32 : Int32).toInt64 &&& 63)) ||| (((xs 4).toInt64) &&& (4294967295 : Int64))))]) (rest := []) (Ps := [.int (xs 1)]) (L0 := [(0, .ref 143), (1, .int (xs 1))]) h_m265 (z_at.mk 3 rfl rfl) (Or.inl ⟨rfl, rfl⟩) rfl rfl (by decide) (by decide) rfl rfl rfl rfl rfl rfl (by decide) rfl rfl rfl ?_
        refine w_p h_m263 1 (pc' := 1) (L' := [(0, .ref 143), (1, .int (xs 1))]) (st' := [.int (xs 1)]) rfl ?_
        refine w_cs (As := [.int (xs 1)]) (rest := []) (j := 262) (L0 := [(0, .int (xs 1))]) (pc' := 4) (L' := [(0, .ref 143), (1, .int (xs 1))]) h_m263 (z_at.mk 3 rfl rfl) (Or.inl ⟨rfl, rfl⟩) rfl rfl rfl rfl rfl ?_
        refine w_p h_m262 3 (pc' := 3) (L' := [(0, .int (xs 1))]) (st' := [.int (5 : Int32), .int (0 : Int32), .int (xs 1)]) rfl ?_
        refine w_cs (As := [.int (xs 1), .int (0 : Int32), .int (5 : Int32)]) (rest := []) (j := 159) (L0 := [(0, .int (xs 1)), (1, .int (0 : Int32)), (2, .int (5 : Int32))]) (pc' := 6) (L' := [(0, .int (xs 1))]) h_m262 (z_at.mk 3 rfl rfl) (Or.inl ⟨rfl, rfl⟩) rfl rfl rfl rfl rfl ?_
        refine w_p h_m159 2 (pc' := 2) (L' := [(0, .int (xs 1)), (1, .int (0 : Int32)), (2, .int (5 : Int32))]) (st' := [.int (0 : Int32), .int (xs 1)]) rfl ?_
        refine w_f2 (pc' := 5) (L' := [(0, .int (xs 1)), (1, .int (0 : Int32)), (2, .int (5 : Int32))]) h_m159 (z_at.mk 3 rfl rfl) rfl (zc (a := (xs 1).toInt) (b := 0) rfl rfl (decide_eq_false (by omega))) rfl rfl ?_
        refine w_p h_m159 2 (pc' := 7) (L' := [(0, .int (xs 1)), (1, .int (0 : Int32)), (2, .int (5 : Int32))]) (st' := [.int (5 : Int32), .int (xs 1)]) rfl ?_
        refine w_f2 (pc' := 10) (L' := [(0, .int (xs 1)), (1, .int (0 : Int32)), (2, .int (5 : Int32))]) h_m159 (z_at.mk 3 rfl rfl) rfl (zc (a := (xs 1).toInt) (b := 5) rfl rfl (decide_eq_false (by omega))) rfl rfl ?_
        refine w_p h_m159 2 (pc' := 15) (L' := []) (st' := [.int (1 : Int32)]) rfl ?_
        refine w_ri h_m159 (z_at.mk 1 rfl rfl) rfl rfl ?_
        show z_W 997 262 6 [(0, .int (xs 1))] [.int (1 : Int32)] m _
        refine w_ri h_m262 (z_at.mk 1 rfl rfl) rfl rfl ?_
        show z_W 998 263 4 [(0, .ref 143), (1, .int (xs 1))] [.int (1 : Int32)] m _
        refine w_p h_m263 2 (pc' := 12) (L' := [(0, .ref 143), (1, .int (xs 1))]) (st' := [.ref 143]) rfl ?_
        refine w_gf H (pc' := 15) (L' := [(0, .ref 143), (1, .int (xs 1))]) h_m263 (z_at.mk 3 rfl rfl) rfl (u := .ref 166) rfl rfl rfl ?_
        refine w_p h_m263 1 (pc' := 16) (L' := [(0, .ref 143), (1, .int (xs 1))]) (st' := [.int (xs 1), .ref 166]) rfl ?_
        have c_6 : (xs 1).toInt = 3 := by omega
        refine w_top (v' := .int (3 : Int32)) (congrArg Value.int (zi_lit (c := (xs 1).toInt) rfl c_6)) ?_
        refine w_al H (t := 0) (j := 3) (pc' := 17) (L' := [(0, .ref 143), (1, .int (xs 1))]) h_m263 (z_at.mk 1 rfl rfl) rfl rfl rfl (u := .int (-1 : Int32)) rfl rfl rfl ?_
        refine w_p h_m263 3 (pc' := 26) (L' := []) (st' := [.int (-11 : Int32)]) rfl ?_
        refine w_ri h_m263 (z_at.mk 1 rfl rfl) rfl rfl ?_
        show z_W 999 265 5 [(0, .ref 143), (1, .int (xs 1)), (2, .int (xs 2)), (3, .long ((((xs 3).toInt64) <<< ((32 : Int32).toInt64 &&& 63)) ||| (((xs 4).toInt64) &&& (4294967295 : Int64))))] [.int (-11 : Int32)] m _
        refine w_p h_m265 4 (pc' := 14) (L' := [(5, .int (-11 : Int32)), (0, .ref 143), (1, .int (xs 1)), (2, .int (xs 2)), (3, .long ((((xs 3).toInt64) <<< ((32 : Int32).toInt64 &&& 63)) ||| (((xs 4).toInt64) &&& (4294967295 : Int64))))]) (st' := [.int (-11 : Int32)]) rfl ?_
        refine w_ri h_m265 (z_at.mk 1 rfl rfl) rfl rfl ?_
        show z_W 1000 1000 1180 [(0, .ref 0), (1, .ref 39), (2, .ref 143), (3, .int (0 : Int32))] [.int (-11 : Int32), .int (-11 : Int32)] m _
        refine w_p h_m1000 5 (pc' := 20) (L' := [(0, .ref 0), (1, .ref 39), (2, .ref 143), (3, .int (6 : Int32))]) (st' := [.ref 0, .int (6 : Int32)]) rfl ?_
        refine w_lene H (x := (6 : Int32)) (pc' := 21) (L' := [(0, .ref 0), (1, .ref 39), (2, .ref 143), (3, .int (6 : Int32))]) h_m1000 (z_at.mk 1 rfl rfl) (by decide) rfl (by decide) rfl rfl rfl ?_
        refine w_p h_m1000 4 (pc' := 1381) (L' := [(0, .ref 0), (1, .ref 39), (2, .ref 143), (3, .int (6 : Int32))]) (st' := [.int (1 : Int32)]) rfl ?_
        refine w_ri h_m1000 (z_at.mk 1 rfl rfl) rfl rfl ?_
        exact hQ _ _ _ _ H (by decide) (by decide)
      by_cases c_6 : (xs 1).toInt = 2
      · refine w_top (v' := .int (2 : Int32)) (congrArg Value.int (zi_lit (c := (xs 1).toInt) rfl c_6)) ?_
        refine w_al H (t := 0) (j := 2) (pc' := 15) (L' := [(0, .ref 134), (1, .int (xs 1))]) h_m59 (z_at.mk 1 rfl rfl) rfl rfl rfl (u := .int (-1 : Int32)) rfl rfl rfl ?_
        refine w_p h_m59 3 (pc' := 24) (L' := []) (st' := [.int (-11 : Int32)]) rfl ?_
        refine w_ri h_m59 (z_at.mk 1 rfl rfl) rfl rfl ?_
        show z_W 999 151 8 [(0, .ref 39), (1, .int (xs 1)), (2, .int (xs 2)), (3, .long ((((xs 3).toInt64) <<< ((32 : Int32).toInt64 &&& 63)) ||| (((xs 4).toInt64) &&& (4294967295 : Int64))))] [.int (-11 : Int32)] m _
        refine w_p h_m151 4 (pc' := 17) (L' := [(5, .int (-11 : Int32)), (0, .ref 39), (1, .int (xs 1)), (2, .int (xs 2)), (3, .long ((((xs 3).toInt64) <<< ((32 : Int32).toInt64 &&& 63)) ||| (((xs 4).toInt64) &&& (4294967295 : Int64))))]) (st' := [.int (-11 : Int32)]) rfl ?_
        refine w_ri h_m151 (z_at.mk 1 rfl rfl) rfl rfl ?_
        show z_W 1000 1000 1146 [(0, .ref 0), (1, .ref 39), (2, .ref 143), (3, .int (0 : Int32))] [.int (-11 : Int32)] m _
        refine w_p h_m1000 5 (pc' := 1151) (L' := [(0, .ref 0), (1, .ref 39), (2, .ref 143), (3, .int (0 : Int32))]) (st' := [.int (1 : Int32), .ref 0, .ref 143, .int (-11 : Int32)]) rfl ?_
        refine w_ae H (j := 1) (pc' := 1152) (L' := [(0, .ref 0), (1, .ref 39), (2, .ref 143), (3, .int (0 : Int32))]) h_m1000 (z_at.mk 1 rfl rfl) rfl rfl rfl (by decide) rfl (by decide) rfl rfl rfl ?_
        refine w_p h_m1000 4 (pc' := 1156) (L' := [(0, .ref 0), (1, .ref 39), (2, .ref 143), (3, .int (0 : Int32))]) (st' := [.int (2 : Int32), .ref 0, .int (xs 1), .ref 143, .int (-11 : Int32)]) rfl ?_
        refine w_ae H (j := 2) (pc' := 1157) (L' := [(0, .ref 0), (1, .ref 39), (2, .ref 143), (3, .int (0 : Int32))]) h_m1000 (z_at.mk 1 rfl rfl) rfl rfl rfl (by decide) rfl (by decide) rfl rfl rfl ?_
        refine w_p h_m1000 4 (pc' := 1161) (L' := [(0, .ref 0), (1, .ref 39), (2, .ref 143), (3, .int (0 : Int32))]) (st' := [.int (3 : Int32), .ref 0, .int (xs 2), .int (xs 1), .ref 143, .int (-11 : Int32)]) rfl ?_
        refine w_ae H (j := 3) (pc' := 1162) (L' := [(0, .ref 0), (1, .ref 39), (2, .ref 143), (3, .int (0 : Int32))]) h_m1000 (z_at.mk 1 rfl rfl) rfl rfl rfl (by decide) rfl (by decide) rfl rfl rfl ?_
        refine w_p h_m1000 7 (pc' := 1170) (L' := [(0, .ref 0), (1, .ref 39), (2, .ref 143), (3, .int (0 : Int32))]) (st' := [.int (4 : Int32), .ref 0, .long (((xs 3).toInt64) <<< ((32 : Int32).toInt64 &&& 63)), .int (xs 2), .int (xs 1), .ref 143, .int (-11 : Int32)]) rfl ?_
        refine w_ae H (j := 4) (pc' := 1171) (L' := [(0, .ref 0), (1, .ref 39), (2, .ref 143), (3, .int (0 : Int32))]) h_m1000 (z_at.mk 1 rfl rfl) rfl rfl rfl (by decide) rfl (by decide) rfl rfl rfl ?_
        refine w_p h_m1000 4 (pc' := 1177) (L' := [(0, .ref 0), (1, .ref 39), (2, .ref 143), (3, .int (0 : Int32))]) (st' := [.long ((((xs 3).toInt64) <<< ((32 : Int32).toInt64 &&& 63)) ||| (((xs 4).toInt64) &&& (4294967295 : Int64))), .int (xs 2), .int (xs 1), .ref 143, .int (-11 : Int32)]) rfl ?_
        refine w_cv (H.t rfl) (pc' := 1180) (L' := [(0, .ref 0), (1, .ref 39), (2, .ref 143), (3, .int (0 : Int32))]) (rest := [.int (-11 : Int32)]) (Ps := [.int (xs 1), .int (xs 2), .long ((((xs 3).toInt64) <<< ((32 : Int32).toInt64 &&& 63)) ||| (((xs 4).toInt64) &&& (4294967295 : Int64)))]) (L0 := [(0, .ref 143), (1, .int (xs 1)), (2, .int (xs 2)), (3, .long ((((xs 3).toInt64) <<< ((32 : Int32).toInt64 &&& 63)) ||| (((xs 4).toInt64) &&& (4294967295 : Int64))))]) h_m1000 (z_at.mk 3 rfl rfl) (Or.inl ⟨rfl, rfl⟩) rfl rfl (by decide) (by decide) rfl rfl rfl rfl rfl rfl (by decide) rfl rfl rfl ?_
        refine w_p h_m265 2 (pc' := 2) (L' := [(0, .ref 143), (1, .int (xs 1)), (2, .int (xs 2)), (3, .long ((((xs 3).toInt64) <<< ((32 : Int32).toInt64 &&& 63)) ||| (((xs 4).toInt64) &&& (4294967295 : Int64))))]) (st' := [.int (xs 1), .ref 143]) rfl ?_
        refine w_cv (H.t rfl) (pc' := 5) (L' := [(0, .ref 143), (1, .int (xs 1)), (2, .int (xs 2)), (3, .long ((((xs 3).toInt64) <<< ((32 : Int32).toInt64 &&& 63)) ||| (((xs 4).toInt64) &&& (4294967295 : Int64))))]) (rest := []) (Ps := [.int (xs 1)]) (L0 := [(0, .ref 143), (1, .int (xs 1))]) h_m265 (z_at.mk 3 rfl rfl) (Or.inl ⟨rfl, rfl⟩) rfl rfl (by decide) (by decide) rfl rfl rfl rfl rfl rfl (by decide) rfl rfl rfl ?_
        refine w_p h_m263 1 (pc' := 1) (L' := [(0, .ref 143), (1, .int (xs 1))]) (st' := [.int (xs 1)]) rfl ?_
        refine w_cs (As := [.int (xs 1)]) (rest := []) (j := 262) (L0 := [(0, .int (xs 1))]) (pc' := 4) (L' := [(0, .ref 143), (1, .int (xs 1))]) h_m263 (z_at.mk 3 rfl rfl) (Or.inl ⟨rfl, rfl⟩) rfl rfl rfl rfl rfl ?_
        refine w_p h_m262 3 (pc' := 3) (L' := [(0, .int (xs 1))]) (st' := [.int (5 : Int32), .int (0 : Int32), .int (xs 1)]) rfl ?_
        refine w_cs (As := [.int (xs 1), .int (0 : Int32), .int (5 : Int32)]) (rest := []) (j := 159) (L0 := [(0, .int (xs 1)), (1, .int (0 : Int32)), (2, .int (5 : Int32))]) (pc' := 6) (L' := [(0, .int (xs 1))]) h_m262 (z_at.mk 3 rfl rfl) (Or.inl ⟨rfl, rfl⟩) rfl rfl rfl rfl rfl ?_
        refine w_p h_m159 2 (pc' := 2) (L' := [(0, .int (xs 1)), (1, .int (0 : Int32)), (2, .int (5 : Int32))]) (st' := [.int (0 : Int32), .int (xs 1)]) rfl ?_
        refine w_f2 (pc' := 5) (L' := [(0, .int (xs 1)), (1, .int (0 : Int32)), (2, .int (5 : Int32))]) h_m159 (z_at.mk 3 rfl rfl) rfl (zc (a := (xs 1).toInt) (b := 0) rfl rfl (decide_eq_false (by omega))) rfl rfl ?_
        refine w_p h_m159 2 (pc' := 7) (L' := [(0, .int (xs 1)), (1, .int (0 : Int32)), (2, .int (5 : Int32))]) (st' := [.int (5 : Int32), .int (xs 1)]) rfl ?_
        refine w_f2 (pc' := 10) (L' := [(0, .int (xs 1)), (1, .int (0 : Int32)), (2, .int (5 : Int32))]) h_m159 (z_at.mk 3 rfl rfl) rfl (zc (a := (xs 1).toInt) (b := 5) rfl rfl (decide_eq_false (by omega))) rfl rfl ?_
        refine w_p h_m159 2 (pc' := 15) (L' := []) (st' := [.int (1 : Int32)]) rfl ?_
        refine w_ri h_m159 (z_at.mk 1 rfl rfl) rfl rfl ?_
        show z_W 997 262 6 [(0, .int (xs 1))] [.int (1 : Int32)] m _
        refine w_ri h_m262 (z_at.mk 1 rfl rfl) rfl rfl ?_
        show z_W 998 263 4 [(0, .ref 143), (1, .int (xs 1))] [.int (1 : Int32)] m _
        refine w_p h_m263 2 (pc' := 12) (L' := [(0, .ref 143), (1, .int (xs 1))]) (st' := [.ref 143]) rfl ?_
        refine w_gf H (pc' := 15) (L' := [(0, .ref 143), (1, .int (xs 1))]) h_m263 (z_at.mk 3 rfl rfl) rfl (u := .ref 166) rfl rfl rfl ?_
        refine w_p h_m263 1 (pc' := 16) (L' := [(0, .ref 143), (1, .int (xs 1))]) (st' := [.int (xs 1), .ref 166]) rfl ?_
        have c_7 : (xs 1).toInt = 2 := by omega
        refine w_top (v' := .int (2 : Int32)) (congrArg Value.int (zi_lit (c := (xs 1).toInt) rfl c_7)) ?_
        refine w_al H (t := 0) (j := 2) (pc' := 17) (L' := [(0, .ref 143), (1, .int (xs 1))]) h_m263 (z_at.mk 1 rfl rfl) rfl rfl rfl (u := .int (-1 : Int32)) rfl rfl rfl ?_
        refine w_p h_m263 3 (pc' := 26) (L' := []) (st' := [.int (-11 : Int32)]) rfl ?_
        refine w_ri h_m263 (z_at.mk 1 rfl rfl) rfl rfl ?_
        show z_W 999 265 5 [(0, .ref 143), (1, .int (xs 1)), (2, .int (xs 2)), (3, .long ((((xs 3).toInt64) <<< ((32 : Int32).toInt64 &&& 63)) ||| (((xs 4).toInt64) &&& (4294967295 : Int64))))] [.int (-11 : Int32)] m _
        refine w_p h_m265 4 (pc' := 14) (L' := [(5, .int (-11 : Int32)), (0, .ref 143), (1, .int (xs 1)), (2, .int (xs 2)), (3, .long ((((xs 3).toInt64) <<< ((32 : Int32).toInt64 &&& 63)) ||| (((xs 4).toInt64) &&& (4294967295 : Int64))))]) (st' := [.int (-11 : Int32)]) rfl ?_
        refine w_ri h_m265 (z_at.mk 1 rfl rfl) rfl rfl ?_
        show z_W 1000 1000 1180 [(0, .ref 0), (1, .ref 39), (2, .ref 143), (3, .int (0 : Int32))] [.int (-11 : Int32), .int (-11 : Int32)] m _
        refine w_p h_m1000 5 (pc' := 20) (L' := [(0, .ref 0), (1, .ref 39), (2, .ref 143), (3, .int (6 : Int32))]) (st' := [.ref 0, .int (6 : Int32)]) rfl ?_
        refine w_lene H (x := (6 : Int32)) (pc' := 21) (L' := [(0, .ref 0), (1, .ref 39), (2, .ref 143), (3, .int (6 : Int32))]) h_m1000 (z_at.mk 1 rfl rfl) (by decide) rfl (by decide) rfl rfl rfl ?_
        refine w_p h_m1000 4 (pc' := 1381) (L' := [(0, .ref 0), (1, .ref 39), (2, .ref 143), (3, .int (6 : Int32))]) (st' := [.int (1 : Int32)]) rfl ?_
        refine w_ri h_m1000 (z_at.mk 1 rfl rfl) rfl rfl ?_
        exact hQ _ _ _ _ H (by decide) (by decide)
      by_cases c_7 : (xs 1).toInt = 1
      · refine w_top (v' := .int (1 : Int32)) (congrArg Value.int (zi_lit (c := (xs 1).toInt) rfl c_7)) ?_
        refine w_al H (t := 0) (j := 1) (pc' := 15) (L' := [(0, .ref 134), (1, .int (xs 1))]) h_m59 (z_at.mk 1 rfl rfl) rfl rfl rfl (u := .int (-1 : Int32)) rfl rfl rfl ?_
        refine w_p h_m59 3 (pc' := 24) (L' := []) (st' := [.int (-11 : Int32)]) rfl ?_
        refine w_ri h_m59 (z_at.mk 1 rfl rfl) rfl rfl ?_
        show z_W 999 151 8 [(0, .ref 39), (1, .int (xs 1)), (2, .int (xs 2)), (3, .long ((((xs 3).toInt64) <<< ((32 : Int32).toInt64 &&& 63)) ||| (((xs 4).toInt64) &&& (4294967295 : Int64))))] [.int (-11 : Int32)] m _
        refine w_p h_m151 4 (pc' := 17) (L' := [(5, .int (-11 : Int32)), (0, .ref 39), (1, .int (xs 1)), (2, .int (xs 2)), (3, .long ((((xs 3).toInt64) <<< ((32 : Int32).toInt64 &&& 63)) ||| (((xs 4).toInt64) &&& (4294967295 : Int64))))]) (st' := [.int (-11 : Int32)]) rfl ?_
        refine w_ri h_m151 (z_at.mk 1 rfl rfl) rfl rfl ?_
        show z_W 1000 1000 1146 [(0, .ref 0), (1, .ref 39), (2, .ref 143), (3, .int (0 : Int32))] [.int (-11 : Int32)] m _
        refine w_p h_m1000 5 (pc' := 1151) (L' := [(0, .ref 0), (1, .ref 39), (2, .ref 143), (3, .int (0 : Int32))]) (st' := [.int (1 : Int32), .ref 0, .ref 143, .int (-11 : Int32)]) rfl ?_
        refine w_ae H (j := 1) (pc' := 1152) (L' := [(0, .ref 0), (1, .ref 39), (2, .ref 143), (3, .int (0 : Int32))]) h_m1000 (z_at.mk 1 rfl rfl) rfl rfl rfl (by decide) rfl (by decide) rfl rfl rfl ?_
        refine w_p h_m1000 4 (pc' := 1156) (L' := [(0, .ref 0), (1, .ref 39), (2, .ref 143), (3, .int (0 : Int32))]) (st' := [.int (2 : Int32), .ref 0, .int (xs 1), .ref 143, .int (-11 : Int32)]) rfl ?_
        refine w_ae H (j := 2) (pc' := 1157) (L' := [(0, .ref 0), (1, .ref 39), (2, .ref 143), (3, .int (0 : Int32))]) h_m1000 (z_at.mk 1 rfl rfl) rfl rfl rfl (by decide) rfl (by decide) rfl rfl rfl ?_
        refine w_p h_m1000 4 (pc' := 1161) (L' := [(0, .ref 0), (1, .ref 39), (2, .ref 143), (3, .int (0 : Int32))]) (st' := [.int (3 : Int32), .ref 0, .int (xs 2), .int (xs 1), .ref 143, .int (-11 : Int32)]) rfl ?_
        refine w_ae H (j := 3) (pc' := 1162) (L' := [(0, .ref 0), (1, .ref 39), (2, .ref 143), (3, .int (0 : Int32))]) h_m1000 (z_at.mk 1 rfl rfl) rfl rfl rfl (by decide) rfl (by decide) rfl rfl rfl ?_
        refine w_p h_m1000 7 (pc' := 1170) (L' := [(0, .ref 0), (1, .ref 39), (2, .ref 143), (3, .int (0 : Int32))]) (st' := [.int (4 : Int32), .ref 0, .long (((xs 3).toInt64) <<< ((32 : Int32).toInt64 &&& 63)), .int (xs 2), .int (xs 1), .ref 143, .int (-11 : Int32)]) rfl ?_
        refine w_ae H (j := 4) (pc' := 1171) (L' := [(0, .ref 0), (1, .ref 39), (2, .ref 143), (3, .int (0 : Int32))]) h_m1000 (z_at.mk 1 rfl rfl) rfl rfl rfl (by decide) rfl (by decide) rfl rfl rfl ?_
        refine w_p h_m1000 4 (pc' := 1177) (L' := [(0, .ref 0), (1, .ref 39), (2, .ref 143), (3, .int (0 : Int32))]) (st' := [.long ((((xs 3).toInt64) <<< ((32 : Int32).toInt64 &&& 63)) ||| (((xs 4).toInt64) &&& (4294967295 : Int64))), .int (xs 2), .int (xs 1), .ref 143, .int (-11 : Int32)]) rfl ?_
        refine w_cv (H.t rfl) (pc' := 1180) (L' := [(0, .ref 0), (1, .ref 39), (2, .ref 143), (3, .int (0 : Int32))]) (rest := [.int (-11 : Int32)]) (Ps := [.int (xs 1), .int (xs 2), .long ((((xs 3).toInt64) <<< ((32 : Int32).toInt64 &&& 63)) ||| (((xs 4).toInt64) &&& (4294967295 : Int64)))]) (L0 := [(0, .ref 143), (1, .int (xs 1)), (2, .int (xs 2)), (3, .long ((((xs 3).toInt64) <<< ((32 : Int32).toInt64 &&& 63)) ||| (((xs 4).toInt64) &&& (4294967295 : Int64))))]) h_m1000 (z_at.mk 3 rfl rfl) (Or.inl ⟨rfl, rfl⟩) rfl rfl (by decide) (by decide) rfl rfl rfl rfl rfl rfl (by decide) rfl rfl rfl ?_
        refine w_p h_m265 2 (pc' := 2) (L' := [(0, .ref 143), (1, .int (xs 1)), (2, .int (xs 2)), (3, .long ((((xs 3).toInt64) <<< ((32 : Int32).toInt64 &&& 63)) ||| (((xs 4).toInt64) &&& (4294967295 : Int64))))]) (st' := [.int (xs 1), .ref 143]) rfl ?_
        refine w_cv (H.t rfl) (pc' := 5) (L' := [(0, .ref 143), (1, .int (xs 1)), (2, .int (xs 2)), (3, .long ((((xs 3).toInt64) <<< ((32 : Int32).toInt64 &&& 63)) ||| (((xs 4).toInt64) &&& (4294967295 : Int64))))]) (rest := []) (Ps := [.int (xs 1)]) (L0 := [(0, .ref 143), (1, .int (xs 1))]) h_m265 (z_at.mk 3 rfl rfl) (Or.inl ⟨rfl, rfl⟩) rfl rfl (by decide) (by decide) rfl rfl rfl rfl rfl rfl (by decide) rfl rfl rfl ?_
        refine w_p h_m263 1 (pc' := 1) (L' := [(0, .ref 143), (1, .int (xs 1))]) (st' := [.int (xs 1)]) rfl ?_
        refine w_cs (As := [.int (xs 1)]) (rest := []) (j := 262) (L0 := [(0, .int (xs 1))]) (pc' := 4) (L' := [(0, .ref 143), (1, .int (xs 1))]) h_m263 (z_at.mk 3 rfl rfl) (Or.inl ⟨rfl, rfl⟩) rfl rfl rfl rfl rfl ?_
        refine w_p h_m262 3 (pc' := 3) (L' := [(0, .int (xs 1))]) (st' := [.int (5 : Int32), .int (0 : Int32), .int (xs 1)]) rfl ?_
        refine w_cs (As := [.int (xs 1), .int (0 : Int32), .int (5 : Int32)]) (rest := []) (j := 159) (L0 := [(0, .int (xs 1)), (1, .int (0 : Int32)), (2, .int (5 : Int32))]) (pc' := 6) (L' := [(0, .int (xs 1))]) h_m262 (z_at.mk 3 rfl rfl) (Or.inl ⟨rfl, rfl⟩) rfl rfl rfl rfl rfl ?_
        refine w_p h_m159 2 (pc' := 2) (L' := [(0, .int (xs 1)), (1, .int (0 : Int32)), (2, .int (5 : Int32))]) (st' := [.int (0 : Int32), .int (xs 1)]) rfl ?_
        refine w_f2 (pc' := 5) (L' := [(0, .int (xs 1)), (1, .int (0 : Int32)), (2, .int (5 : Int32))]) h_m159 (z_at.mk 3 rfl rfl) rfl (zc (a := (xs 1).toInt) (b := 0) rfl rfl (decide_eq_false (by omega))) rfl rfl ?_
        refine w_p h_m159 2 (pc' := 7) (L' := [(0, .int (xs 1)), (1, .int (0 : Int32)), (2, .int (5 : Int32))]) (st' := [.int (5 : Int32), .int (xs 1)]) rfl ?_
        refine w_f2 (pc' := 10) (L' := [(0, .int (xs 1)), (1, .int (0 : Int32)), (2, .int (5 : Int32))]) h_m159 (z_at.mk 3 rfl rfl) rfl (zc (a := (xs 1).toInt) (b := 5) rfl rfl (decide_eq_false (by omega))) rfl rfl ?_
        refine w_p h_m159 2 (pc' := 15) (L' := []) (st' := [.int (1 : Int32)]) rfl ?_
        refine w_ri h_m159 (z_at.mk 1 rfl rfl) rfl rfl ?_
        show z_W 997 262 6 [(0, .int (xs 1))] [.int (1 : Int32)] m _
        refine w_ri h_m262 (z_at.mk 1 rfl rfl) rfl rfl ?_
        show z_W 998 263 4 [(0, .ref 143), (1, .int (xs 1))] [.int (1 : Int32)] m _
        refine w_p h_m263 2 (pc' := 12) (L' := [(0, .ref 143), (1, .int (xs 1))]) (st' := [.ref 143]) rfl ?_
        refine w_gf H (pc' := 15) (L' := [(0, .ref 143), (1, .int (xs 1))]) h_m263 (z_at.mk 3 rfl rfl) rfl (u := .ref 166) rfl rfl rfl ?_
        refine w_p h_m263 1 (pc' := 16) (L' := [(0, .ref 143), (1, .int (xs 1))]) (st' := [.int (xs 1), .ref 166]) rfl ?_
        have c_8 : (xs 1).toInt = 1 := by omega
        refine w_top (v' := .int (1 : Int32)) (congrArg Value.int (zi_lit (c := (xs 1).toInt) rfl c_8)) ?_
        refine w_al H (t := 0) (j := 1) (pc' := 17) (L' := [(0, .ref 143), (1, .int (xs 1))]) h_m263 (z_at.mk 1 rfl rfl) rfl rfl rfl (u := .int (-1 : Int32)) rfl rfl rfl ?_
        refine w_p h_m263 3 (pc' := 26) (L' := []) (st' := [.int (-11 : Int32)]) rfl ?_
        refine w_ri h_m263 (z_at.mk 1 rfl rfl) rfl rfl ?_
        show z_W 999 265 5 [(0, .ref 143), (1, .int (xs 1)), (2, .int (xs 2)), (3, .long ((((xs 3).toInt64) <<< ((32 : Int32).toInt64 &&& 63)) ||| (((xs 4).toInt64) &&& (4294967295 : Int64))))] [.int (-11 : Int32)] m _
        refine w_p h_m265 4 (pc' := 14) (L' := [(5, .int (-11 : Int32)), (0, .ref 143), (1, .int (xs 1)), (2, .int (xs 2)), (3, .long ((((xs 3).toInt64) <<< ((32 : Int32).toInt64 &&& 63)) ||| (((xs 4).toInt64) &&& (4294967295 : Int64))))]) (st' := [.int (-11 : Int32)]) rfl ?_
        refine w_ri h_m265 (z_at.mk 1 rfl rfl) rfl rfl ?_
        show z_W 1000 1000 1180 [(0, .ref 0), (1, .ref 39), (2, .ref 143), (3, .int (0 : Int32))] [.int (-11 : Int32), .int (-11 : Int32)] m _
        refine w_p h_m1000 5 (pc' := 20) (L' := [(0, .ref 0), (1, .ref 39), (2, .ref 143), (3, .int (6 : Int32))]) (st' := [.ref 0, .int (6 : Int32)]) rfl ?_
        refine w_lene H (x := (6 : Int32)) (pc' := 21) (L' := [(0, .ref 0), (1, .ref 39), (2, .ref 143), (3, .int (6 : Int32))]) h_m1000 (z_at.mk 1 rfl rfl) (by decide) rfl (by decide) rfl rfl rfl ?_
        refine w_p h_m1000 4 (pc' := 1381) (L' := [(0, .ref 0), (1, .ref 39), (2, .ref 143), (3, .int (6 : Int32))]) (st' := [.int (1 : Int32)]) rfl ?_
        refine w_ri h_m1000 (z_at.mk 1 rfl rfl) rfl rfl ?_
        exact hQ _ _ _ _ H (by decide) (by decide)
      have c_8 : (xs 1).toInt = 0 := by omega
      refine w_top (v' := .int (0 : Int32)) (congrArg Value.int (zi_lit (c := (xs 1).toInt) rfl c_8)) ?_
      refine w_al H (t := 0) (j := 0) (pc' := 15) (L' := [(0, .ref 134), (1, .int (xs 1))]) h_m59 (z_at.mk 1 rfl rfl) rfl rfl rfl (u := .int (-1 : Int32)) rfl rfl rfl ?_
      refine w_p h_m59 3 (pc' := 24) (L' := []) (st' := [.int (-11 : Int32)]) rfl ?_
      refine w_ri h_m59 (z_at.mk 1 rfl rfl) rfl rfl ?_
      show z_W 999 151 8 [(0, .ref 39), (1, .int (xs 1)), (2, .int (xs 2)), (3, .long ((((xs 3).toInt64) <<< ((32 : Int32).toInt64 &&& 63)) ||| (((xs 4).toInt64) &&& (4294967295 : Int64))))] [.int (-11 : Int32)] m _
      refine w_p h_m151 4 (pc' := 17) (L' := [(5, .int (-11 : Int32)), (0, .ref 39), (1, .int (xs 1)), (2, .int (xs 2)), (3, .long ((((xs 3).toInt64) <<< ((32 : Int32).toInt64 &&& 63)) ||| (((xs 4).toInt64) &&& (4294967295 : Int64))))]) (st' := [.int (-11 : Int32)]) rfl ?_
      refine w_ri h_m151 (z_at.mk 1 rfl rfl) rfl rfl ?_
      show z_W 1000 1000 1146 [(0, .ref 0), (1, .ref 39), (2, .ref 143), (3, .int (0 : Int32))] [.int (-11 : Int32)] m _
      refine w_p h_m1000 5 (pc' := 1151) (L' := [(0, .ref 0), (1, .ref 39), (2, .ref 143), (3, .int (0 : Int32))]) (st' := [.int (1 : Int32), .ref 0, .ref 143, .int (-11 : Int32)]) rfl ?_
      refine w_ae H (j := 1) (pc' := 1152) (L' := [(0, .ref 0), (1, .ref 39), (2, .ref 143), (3, .int (0 : Int32))]) h_m1000 (z_at.mk 1 rfl rfl) rfl rfl rfl (by decide) rfl (by decide) rfl rfl rfl ?_
      refine w_p h_m1000 4 (pc' := 1156) (L' := [(0, .ref 0), (1, .ref 39), (2, .ref 143), (3, .int (0 : Int32))]) (st' := [.int (2 : Int32), .ref 0, .int (xs 1), .ref 143, .int (-11 : Int32)]) rfl ?_
      refine w_ae H (j := 2) (pc' := 1157) (L' := [(0, .ref 0), (1, .ref 39), (2, .ref 143), (3, .int (0 : Int32))]) h_m1000 (z_at.mk 1 rfl rfl) rfl rfl rfl (by decide) rfl (by decide) rfl rfl rfl ?_
      refine w_p h_m1000 4 (pc' := 1161) (L' := [(0, .ref 0), (1, .ref 39), (2, .ref 143), (3, .int (0 : Int32))]) (st' := [.int (3 : Int32), .ref 0, .int (xs 2), .int (xs 1), .ref 143, .int (-11 : Int32)]) rfl ?_
      refine w_ae H (j := 3) (pc' := 1162) (L' := [(0, .ref 0), (1, .ref 39), (2, .ref 143), (3, .int (0 : Int32))]) h_m1000 (z_at.mk 1 rfl rfl) rfl rfl rfl (by decide) rfl (by decide) rfl rfl rfl ?_
      refine w_p h_m1000 7 (pc' := 1170) (L' := [(0, .ref 0), (1, .ref 39), (2, .ref 143), (3, .int (0 : Int32))]) (st' := [.int (4 : Int32), .ref 0, .long (((xs 3).toInt64) <<< ((32 : Int32).toInt64 &&& 63)), .int (xs 2), .int (xs 1), .ref 143, .int (-11 : Int32)]) rfl ?_
      refine w_ae H (j := 4) (pc' := 1171) (L' := [(0, .ref 0), (1, .ref 39), (2, .ref 143), (3, .int (0 : Int32))]) h_m1000 (z_at.mk 1 rfl rfl) rfl rfl rfl (by decide) rfl (by decide) rfl rfl rfl ?_
      refine w_p h_m1000 4 (pc' := 1177) (L' := [(0, .ref 0), (1, .ref 39), (2, .ref 143), (3, .int (0 : Int32))]) (st' := [.long ((((xs 3).toInt64) <<< ((32 : Int32).toInt64 &&& 63)) ||| (((xs 4).toInt64) &&& (4294967295 : Int64))), .int (xs 2), .int (xs 1), .ref 143, .int (-11 : Int32)]) rfl ?_
      refine w_cv (H.t rfl) (pc' := 1180) (L' := [(0, .ref 0), (1, .ref 39), (2, .ref 143), (3, .int (0 : Int32))]) (rest := [.int (-11 : Int32)]) (Ps := [.int (xs 1), .int (xs 2), .long ((((xs 3).toInt64) <<< ((32 : Int32).toInt64 &&& 63)) ||| (((xs 4).toInt64) &&& (4294967295 : Int64)))]) (L0 := [(0, .ref 143), (1, .int (xs 1)), (2, .int (xs 2)), (3, .long ((((xs 3).toInt64) <<< ((32 : Int32).toInt64 &&& 63)) ||| (((xs 4).toInt64) &&& (4294967295 : Int64))))]) h_m1000 (z_at.mk 3 rfl rfl) (Or.inl ⟨rfl, rfl⟩) rfl rfl (by decide) (by decide) rfl rfl rfl rfl rfl rfl (by decide) rfl rfl rfl ?_
      refine w_p h_m265 2 (pc' := 2) (L' := [(0, .ref 143), (1, .int (xs 1)), (2, .int (xs 2)), (3, .long ((((xs 3).toInt64) <<< ((32 : Int32).toInt64 &&& 63)) ||| (((xs 4).toInt64) &&& (4294967295 : Int64))))]) (st' := [.int (xs 1), .ref 143]) rfl ?_
      refine w_cv (H.t rfl) (pc' := 5) (L' := [(0, .ref 143), (1, .int (xs 1)), (2, .int (xs 2)), (3, .long ((((xs 3).toInt64) <<< ((32 : Int32).toInt64 &&& 63)) ||| (((xs 4).toInt64) &&& (4294967295 : Int64))))]) (rest := []) (Ps := [.int (xs 1)]) (L0 := [(0, .ref 143), (1, .int (xs 1))]) h_m265 (z_at.mk 3 rfl rfl) (Or.inl ⟨rfl, rfl⟩) rfl rfl (by decide) (by decide) rfl rfl rfl rfl rfl rfl (by decide) rfl rfl rfl ?_
      refine w_p h_m263 1 (pc' := 1) (L' := [(0, .ref 143), (1, .int (xs 1))]) (st' := [.int (xs 1)]) rfl ?_
      refine w_cs (As := [.int (xs 1)]) (rest := []) (j := 262) (L0 := [(0, .int (xs 1))]) (pc' := 4) (L' := [(0, .ref 143), (1, .int (xs 1))]) h_m263 (z_at.mk 3 rfl rfl) (Or.inl ⟨rfl, rfl⟩) rfl rfl rfl rfl rfl ?_
      refine w_p h_m262 3 (pc' := 3) (L' := [(0, .int (xs 1))]) (st' := [.int (5 : Int32), .int (0 : Int32), .int (xs 1)]) rfl ?_
      refine w_cs (As := [.int (xs 1), .int (0 : Int32), .int (5 : Int32)]) (rest := []) (j := 159) (L0 := [(0, .int (xs 1)), (1, .int (0 : Int32)), (2, .int (5 : Int32))]) (pc' := 6) (L' := [(0, .int (xs 1))]) h_m262 (z_at.mk 3 rfl rfl) (Or.inl ⟨rfl, rfl⟩) rfl rfl rfl rfl rfl ?_
      refine w_p h_m159 2 (pc' := 2) (L' := [(0, .int (xs 1)), (1, .int (0 : Int32)), (2, .int (5 : Int32))]) (st' := [.int (0 : Int32), .int (xs 1)]) rfl ?_
      refine w_f2 (pc' := 5) (L' := [(0, .int (xs 1)), (1, .int (0 : Int32)), (2, .int (5 : Int32))]) h_m159 (z_at.mk 3 rfl rfl) rfl (zc (a := (xs 1).toInt) (b := 0) rfl rfl (decide_eq_false (by omega))) rfl rfl ?_
      refine w_p h_m159 2 (pc' := 7) (L' := [(0, .int (xs 1)), (1, .int (0 : Int32)), (2, .int (5 : Int32))]) (st' := [.int (5 : Int32), .int (xs 1)]) rfl ?_
      refine w_f2 (pc' := 10) (L' := [(0, .int (xs 1)), (1, .int (0 : Int32)), (2, .int (5 : Int32))]) h_m159 (z_at.mk 3 rfl rfl) rfl (zc (a := (xs 1).toInt) (b := 5) rfl rfl (decide_eq_false (by omega))) rfl rfl ?_
      refine w_p h_m159 2 (pc' := 15) (L' := []) (st' := [.int (1 : Int32)]) rfl ?_
      refine w_ri h_m159 (z_at.mk 1 rfl rfl) rfl rfl ?_
      show z_W 997 262 6 [(0, .int (xs 1))] [.int (1 : Int32)] m _
      refine w_ri h_m262 (z_at.mk 1 rfl rfl) rfl rfl ?_
      show z_W 998 263 4 [(0, .ref 143), (1, .int (xs 1))] [.int (1 : Int32)] m _
      refine w_p h_m263 2 (pc' := 12) (L' := [(0, .ref 143), (1, .int (xs 1))]) (st' := [.ref 143]) rfl ?_
      refine w_gf H (pc' := 15) (L' := [(0, .ref 143), (1, .int (xs 1))]) h_m263 (z_at.mk 3 rfl rfl) rfl (u := .ref 166) rfl rfl rfl ?_
      refine w_p h_m263 1 (pc' := 16) (L' := [(0, .ref 143), (1, .int (xs 1))]) (st' := [.int (xs 1), .ref 166]) rfl ?_
      have c_9 : (xs 1).toInt = 0 := by omega
      refine w_top (v' := .int (0 : Int32)) (congrArg Value.int (zi_lit (c := (xs 1).toInt) rfl c_9)) ?_
      refine w_al H (t := 0) (j := 0) (pc' := 17) (L' := [(0, .ref 143), (1, .int (xs 1))]) h_m263 (z_at.mk 1 rfl rfl) rfl rfl rfl (u := .int (-1 : Int32)) rfl rfl rfl ?_
      refine w_p h_m263 3 (pc' := 26) (L' := []) (st' := [.int (-11 : Int32)]) rfl ?_
      refine w_ri h_m263 (z_at.mk 1 rfl rfl) rfl rfl ?_
      show z_W 999 265 5 [(0, .ref 143), (1, .int (xs 1)), (2, .int (xs 2)), (3, .long ((((xs 3).toInt64) <<< ((32 : Int32).toInt64 &&& 63)) ||| (((xs 4).toInt64) &&& (4294967295 : Int64))))] [.int (-11 : Int32)] m _
      refine w_p h_m265 4 (pc' := 14) (L' := [(5, .int (-11 : Int32)), (0, .ref 143), (1, .int (xs 1)), (2, .int (xs 2)), (3, .long ((((xs 3).toInt64) <<< ((32 : Int32).toInt64 &&& 63)) ||| (((xs 4).toInt64) &&& (4294967295 : Int64))))]) (st' := [.int (-11 : Int32)]) rfl ?_
      refine w_ri h_m265 (z_at.mk 1 rfl rfl) rfl rfl ?_
      show z_W 1000 1000 1180 [(0, .ref 0), (1, .ref 39), (2, .ref 143), (3, .int (0 : Int32))] [.int (-11 : Int32), .int (-11 : Int32)] m _
      refine w_p h_m1000 5 (pc' := 20) (L' := [(0, .ref 0), (1, .ref 39), (2, .ref 143), (3, .int (6 : Int32))]) (st' := [.ref 0, .int (6 : Int32)]) rfl ?_
      refine w_lene H (x := (6 : Int32)) (pc' := 21) (L' := [(0, .ref 0), (1, .ref 39), (2, .ref 143), (3, .int (6 : Int32))]) h_m1000 (z_at.mk 1 rfl rfl) (by decide) rfl (by decide) rfl rfl rfl ?_
      refine w_p h_m1000 4 (pc' := 1381) (L' := [(0, .ref 0), (1, .ref 39), (2, .ref 143), (3, .int (6 : Int32))]) (st' := [.int (1 : Int32)]) rfl ?_
      refine w_ri h_m1000 (z_at.mk 1 rfl rfl) rfl rfl ?_
      exact hQ _ _ _ _ H (by decide) (by decide)
    · refine w_t2 (pc' := 14) (L' := []) h_m58 (z_at.mk 3 rfl rfl) rfl (zc (a := (xs 1).toInt) (b := 6) rfl rfl (decide_eq_true (by omega))) rfl rfl ?_
      refine w_p h_m58 1 (pc' := 15) (L' := []) (st' := [.int (0 : Int32)]) rfl ?_
      refine w_ri h_m58 (z_at.mk 1 rfl rfl) rfl rfl ?_
      show z_W 998 59 4 [(0, .ref 134), (1, .int (xs 1))] [.int (0 : Int32)] m _
      refine w_p h_m59 2 (pc' := 8) (L' := [(0, .ref 134), (1, .int (xs 1))]) (st' := [.int (-1 : Int32)]) rfl ?_
      refine w_ri h_m59 (z_at.mk 1 rfl rfl) rfl rfl ?_
      show z_W 999 151 8 [(0, .ref 39), (1, .int (xs 1)), (2, .int (xs 2)), (3, .long ((((xs 3).toInt64) <<< ((32 : Int32).toInt64 &&& 63)) ||| (((xs 4).toInt64) &&& (4294967295 : Int64))))] [.int (-1 : Int32)] m _
      refine w_p h_m151 4 (pc' := 17) (L' := [(5, .int (-1 : Int32)), (0, .ref 39), (1, .int (xs 1)), (2, .int (xs 2)), (3, .long ((((xs 3).toInt64) <<< ((32 : Int32).toInt64 &&& 63)) ||| (((xs 4).toInt64) &&& (4294967295 : Int64))))]) (st' := [.int (-1 : Int32)]) rfl ?_
      refine w_ri h_m151 (z_at.mk 1 rfl rfl) rfl rfl ?_
      show z_W 1000 1000 1146 [(0, .ref 0), (1, .ref 39), (2, .ref 143), (3, .int (0 : Int32))] [.int (-1 : Int32)] m _
      refine w_p h_m1000 5 (pc' := 1151) (L' := [(0, .ref 0), (1, .ref 39), (2, .ref 143), (3, .int (0 : Int32))]) (st' := [.int (1 : Int32), .ref 0, .ref 143, .int (-1 : Int32)]) rfl ?_
      refine w_ae H (j := 1) (pc' := 1152) (L' := [(0, .ref 0), (1, .ref 39), (2, .ref 143), (3, .int (0 : Int32))]) h_m1000 (z_at.mk 1 rfl rfl) rfl rfl rfl (by decide) rfl (by decide) rfl rfl rfl ?_
      refine w_p h_m1000 4 (pc' := 1156) (L' := [(0, .ref 0), (1, .ref 39), (2, .ref 143), (3, .int (0 : Int32))]) (st' := [.int (2 : Int32), .ref 0, .int (xs 1), .ref 143, .int (-1 : Int32)]) rfl ?_
      refine w_ae H (j := 2) (pc' := 1157) (L' := [(0, .ref 0), (1, .ref 39), (2, .ref 143), (3, .int (0 : Int32))]) h_m1000 (z_at.mk 1 rfl rfl) rfl rfl rfl (by decide) rfl (by decide) rfl rfl rfl ?_
      refine w_p h_m1000 4 (pc' := 1161) (L' := [(0, .ref 0), (1, .ref 39), (2, .ref 143), (3, .int (0 : Int32))]) (st' := [.int (3 : Int32), .ref 0, .int (xs 2), .int (xs 1), .ref 143, .int (-1 : Int32)]) rfl ?_
      refine w_ae H (j := 3) (pc' := 1162) (L' := [(0, .ref 0), (1, .ref 39), (2, .ref 143), (3, .int (0 : Int32))]) h_m1000 (z_at.mk 1 rfl rfl) rfl rfl rfl (by decide) rfl (by decide) rfl rfl rfl ?_
      refine w_p h_m1000 7 (pc' := 1170) (L' := [(0, .ref 0), (1, .ref 39), (2, .ref 143), (3, .int (0 : Int32))]) (st' := [.int (4 : Int32), .ref 0, .long (((xs 3).toInt64) <<< ((32 : Int32).toInt64 &&& 63)), .int (xs 2), .int (xs 1), .ref 143, .int (-1 : Int32)]) rfl ?_
      refine w_ae H (j := 4) (pc' := 1171) (L' := [(0, .ref 0), (1, .ref 39), (2, .ref 143), (3, .int (0 : Int32))]) h_m1000 (z_at.mk 1 rfl rfl) rfl rfl rfl (by decide) rfl (by decide) rfl rfl rfl ?_
      refine w_p h_m1000 4 (pc' := 1177) (L' := [(0, .ref 0), (1, .ref 39), (2, .ref 143), (3, .int (0 : Int32))]) (st' := [.long ((((xs 3).toInt64) <<< ((32 : Int32).toInt64 &&& 63)) ||| (((xs 4).toInt64) &&& (4294967295 : Int64))), .int (xs 2), .int (xs 1), .ref 143, .int (-1 : Int32)]) rfl ?_
      refine w_cv (H.t rfl) (pc' := 1180) (L' := [(0, .ref 0), (1, .ref 39), (2, .ref 143), (3, .int (0 : Int32))]) (rest := [.int (-1 : Int32)]) (Ps := [.int (xs 1), .int (xs 2), .long ((((xs 3).toInt64) <<< ((32 : Int32).toInt64 &&& 63)) ||| (((xs 4).toInt64) &&& (4294967295 : Int64)))]) (L0 := [(0, .ref 143), (1, .int (xs 1)), (2, .int (xs 2)), (3, .long ((((xs 3).toInt64) <<< ((32 : Int32).toInt64 &&& 63)) ||| (((xs 4).toInt64) &&& (4294967295 : Int64))))]) h_m1000 (z_at.mk 3 rfl rfl) (Or.inl ⟨rfl, rfl⟩) rfl rfl (by decide) (by decide) rfl rfl rfl rfl rfl rfl (by decide) rfl rfl rfl ?_
      refine w_p h_m265 2 (pc' := 2) (L' := [(0, .ref 143), (1, .int (xs 1)), (2, .int (xs 2)), (3, .long ((((xs 3).toInt64) <<< ((32 : Int32).toInt64 &&& 63)) ||| (((xs 4).toInt64) &&& (4294967295 : Int64))))]) (st' := [.int (xs 1), .ref 143]) rfl ?_
      refine w_cv (H.t rfl) (pc' := 5) (L' := [(0, .ref 143), (1, .int (xs 1)), (2, .int (xs 2)), (3, .long ((((xs 3).toInt64) <<< ((32 : Int32).toInt64 &&& 63)) ||| (((xs 4).toInt64) &&& (4294967295 : Int64))))]) (rest := []) (Ps := [.int (xs 1)]) (L0 := [(0, .ref 143), (1, .int (xs 1))]) h_m265 (z_at.mk 3 rfl rfl) (Or.inl ⟨rfl, rfl⟩) rfl rfl (by decide) (by decide) rfl rfl rfl rfl rfl rfl (by decide) rfl rfl rfl ?_
      refine w_p h_m263 1 (pc' := 1) (L' := [(0, .ref 143), (1, .int (xs 1))]) (st' := [.int (xs 1)]) rfl ?_
      refine w_cs (As := [.int (xs 1)]) (rest := []) (j := 262) (L0 := [(0, .int (xs 1))]) (pc' := 4) (L' := [(0, .ref 143), (1, .int (xs 1))]) h_m263 (z_at.mk 3 rfl rfl) (Or.inl ⟨rfl, rfl⟩) rfl rfl rfl rfl rfl ?_
      refine w_p h_m262 3 (pc' := 3) (L' := [(0, .int (xs 1))]) (st' := [.int (5 : Int32), .int (0 : Int32), .int (xs 1)]) rfl ?_
      refine w_cs (As := [.int (xs 1), .int (0 : Int32), .int (5 : Int32)]) (rest := []) (j := 159) (L0 := [(0, .int (xs 1)), (1, .int (0 : Int32)), (2, .int (5 : Int32))]) (pc' := 6) (L' := [(0, .int (xs 1))]) h_m262 (z_at.mk 3 rfl rfl) (Or.inl ⟨rfl, rfl⟩) rfl rfl rfl rfl rfl ?_
      refine w_p h_m159 2 (pc' := 2) (L' := [(0, .int (xs 1)), (1, .int (0 : Int32)), (2, .int (5 : Int32))]) (st' := [.int (0 : Int32), .int (xs 1)]) rfl ?_
      refine w_f2 (pc' := 5) (L' := [(0, .int (xs 1)), (1, .int (0 : Int32)), (2, .int (5 : Int32))]) h_m159 (z_at.mk 3 rfl rfl) rfl (zc (a := (xs 1).toInt) (b := 0) rfl rfl (decide_eq_false (by omega))) rfl rfl ?_
      refine w_p h_m159 2 (pc' := 7) (L' := [(0, .int (xs 1)), (1, .int (0 : Int32)), (2, .int (5 : Int32))]) (st' := [.int (5 : Int32), .int (xs 1)]) rfl ?_
      refine w_t2 (pc' := 14) (L' := []) h_m159 (z_at.mk 3 rfl rfl) rfl (zc (a := (xs 1).toInt) (b := 5) rfl rfl (decide_eq_true (by omega))) rfl rfl ?_
      refine w_p h_m159 1 (pc' := 15) (L' := []) (st' := [.int (0 : Int32)]) rfl ?_
      refine w_ri h_m159 (z_at.mk 1 rfl rfl) rfl rfl ?_
      show z_W 997 262 6 [(0, .int (xs 1))] [.int (0 : Int32)] m _
      refine w_ri h_m262 (z_at.mk 1 rfl rfl) rfl rfl ?_
      show z_W 998 263 4 [(0, .ref 143), (1, .int (xs 1))] [.int (0 : Int32)] m _
      refine w_p h_m263 3 (pc' := 26) (L' := []) (st' := [.int (-1 : Int32)]) rfl ?_
      refine w_ri h_m263 (z_at.mk 1 rfl rfl) rfl rfl ?_
      show z_W 999 265 5 [(0, .ref 143), (1, .int (xs 1)), (2, .int (xs 2)), (3, .long ((((xs 3).toInt64) <<< ((32 : Int32).toInt64 &&& 63)) ||| (((xs 4).toInt64) &&& (4294967295 : Int64))))] [.int (-1 : Int32)] m _
      refine w_p h_m265 4 (pc' := 14) (L' := [(5, .int (-1 : Int32)), (0, .ref 143), (1, .int (xs 1)), (2, .int (xs 2)), (3, .long ((((xs 3).toInt64) <<< ((32 : Int32).toInt64 &&& 63)) ||| (((xs 4).toInt64) &&& (4294967295 : Int64))))]) (st' := [.int (-1 : Int32)]) rfl ?_
      refine w_ri h_m265 (z_at.mk 1 rfl rfl) rfl rfl ?_
      show z_W 1000 1000 1180 [(0, .ref 0), (1, .ref 39), (2, .ref 143), (3, .int (0 : Int32))] [.int (-1 : Int32), .int (-1 : Int32)] m _
      refine w_p h_m1000 5 (pc' := 20) (L' := [(0, .ref 0), (1, .ref 39), (2, .ref 143), (3, .int (6 : Int32))]) (st' := [.ref 0, .int (6 : Int32)]) rfl ?_
      refine w_lene H (x := (6 : Int32)) (pc' := 21) (L' := [(0, .ref 0), (1, .ref 39), (2, .ref 143), (3, .int (6 : Int32))]) h_m1000 (z_at.mk 1 rfl rfl) (by decide) rfl (by decide) rfl rfl rfl ?_
      refine w_p h_m1000 4 (pc' := 1381) (L' := [(0, .ref 0), (1, .ref 39), (2, .ref 143), (3, .int (6 : Int32))]) (st' := [.int (1 : Int32)]) rfl ?_
      refine w_ri h_m1000 (z_at.mk 1 rfl rfl) rfl rfl ?_
      exact hQ _ _ _ _ H (by decide) (by decide)
set_option maxHeartbeats 400000000 in
set_option maxRecDepth 20000 in
theorem w_c31 {xs : Nat → Int32} {m : zM} {Q : Option Value → zM → Prop} (H : w_ok 6 xs 168 63950 w_T0 m) (hQ : ∀ N S T m, w_ok 6 xs N S T m → N ≤ 600039 → S ≤ 7302250 → Q (some (.int 1)) m) : z_W 1000 1000 1185 [(0, .ref 0), (1, .ref 39), (2, .ref 143), (3, .int (0 : Int32))] [] m Q := by
  have b1 := zi_bd (xs 1)
  have b2 := zi_bd (xs 2)
  have b3 := zi_bd (xs 3)
  have b4 := zi_bd (xs 4)
  have b5 := zi_bd (xs 5)
  refine w_p h_m1000 5 (pc' := 1190) (L' := [(0, .ref 0), (1, .ref 39), (2, .ref 143), (3, .int (0 : Int32))]) (st' := [.int (1 : Int32), .ref 0, .ref 39]) rfl ?_
  refine w_ae H (j := 1) (pc' := 1191) (L' := [(0, .ref 0), (1, .ref 39), (2, .ref 143), (3, .int (0 : Int32))]) h_m1000 (z_at.mk 1 rfl rfl) rfl rfl rfl (by decide) rfl (by decide) rfl rfl rfl ?_
  refine w_p h_m1000 4 (pc' := 1195) (L' := [(0, .ref 0), (1, .ref 39), (2, .ref 143), (3, .int (0 : Int32))]) (st' := [.int (2 : Int32), .ref 0, .int (xs 1), .ref 39]) rfl ?_
  refine w_ae H (j := 2) (pc' := 1196) (L' := [(0, .ref 0), (1, .ref 39), (2, .ref 143), (3, .int (0 : Int32))]) h_m1000 (z_at.mk 1 rfl rfl) rfl rfl rfl (by decide) rfl (by decide) rfl rfl rfl ?_
  refine w_cv (H.t rfl) (pc' := 1199) (L' := [(0, .ref 0), (1, .ref 39), (2, .ref 143), (3, .int (0 : Int32))]) (rest := []) (Ps := [.int (xs 1), .int (xs 2)]) (L0 := [(0, .ref 39), (1, .int (xs 1)), (2, .int (xs 2))]) h_m1000 (z_at.mk 3 rfl rfl) (Or.inl ⟨rfl, rfl⟩) rfl rfl (by decide) (by decide) rfl rfl rfl rfl rfl rfl (by decide) rfl rfl rfl ?_
  refine w_p h_m152 1 (pc' := 1) (L' := [(0, .ref 39), (1, .int (xs 1)), (2, .int (xs 2))]) (st' := [.ref 39]) rfl ?_
  refine w_gf H (pc' := 4) (L' := [(0, .ref 39), (1, .int (xs 1)), (2, .int (xs 2))]) h_m152 (z_at.mk 3 rfl rfl) rfl (u := .ref 134) rfl rfl rfl ?_
  refine w_p h_m152 2 (pc' := 6) (L' := [(0, .ref 39), (1, .int (xs 1)), (2, .int (xs 2))]) (st' := [.int (xs 2), .int (xs 1), .ref 134]) rfl ?_
  refine w_cv (H.t rfl) (pc' := 9) (L' := [(0, .ref 39), (1, .int (xs 1)), (2, .int (xs 2))]) (rest := []) (Ps := [.int (xs 1), .int (xs 2)]) (L0 := [(0, .ref 134), (1, .int (xs 1)), (2, .int (xs 2))]) h_m152 (z_at.mk 3 rfl rfl) (Or.inl ⟨rfl, rfl⟩) rfl rfl (by decide) (by decide) rfl rfl rfl rfl rfl rfl (by decide) rfl rfl rfl ?_
  refine w_p h_m61 1 (pc' := 1) (L' := [(0, .ref 134), (1, .int (xs 1)), (2, .int (xs 2))]) (st' := [.int (xs 1)]) rfl ?_
  refine w_cs (As := [.int (xs 1)]) (rest := []) (j := 58) (L0 := [(0, .int (xs 1))]) (pc' := 4) (L' := [(0, .ref 134), (1, .int (xs 1)), (2, .int (xs 2))]) h_m61 (z_at.mk 3 rfl rfl) (Or.inl ⟨rfl, rfl⟩) rfl rfl rfl rfl rfl ?_
  refine w_p h_m58 1 (pc' := 1) (L' := [(0, .int (xs 1))]) (st' := [.int (xs 1)]) rfl ?_
  by_cases c_1 : (xs 1).toInt < 0
  · refine w_t1 (pc' := 14) (L' := []) h_m58 (z_at.mk 3 rfl rfl) rfl (zc (a := (xs 1).toInt) (b := 0) rfl rfl (decide_eq_true (by omega))) rfl rfl ?_
    refine w_p h_m58 1 (pc' := 15) (L' := []) (st' := [.int (0 : Int32)]) rfl ?_
    refine w_ri h_m58 (z_at.mk 1 rfl rfl) rfl rfl ?_
    show z_W 998 61 4 [(0, .ref 134), (1, .int (xs 1)), (2, .int (xs 2))] [.int (0 : Int32)] m _
    refine w_p h_m61 2 (pc' := 32) (L' := []) (st' := [.int (0 : Int32)]) rfl ?_
    refine w_ri h_m61 (z_at.mk 1 rfl rfl) rfl rfl ?_
    show z_W 999 152 9 [(0, .ref 39), (1, .int (xs 1)), (2, .int (xs 2))] [.int (0 : Int32)] m _
    refine w_p h_m152 2 (pc' := 29) (L' := []) (st' := [.long (-9223372036854775808 : Int64)]) rfl ?_
    refine w_rl h_m152 (z_at.mk 1 rfl rfl) rfl ?_
    show z_W 1000 1000 1199 [(0, .ref 0), (1, .ref 39), (2, .ref 143), (3, .int (0 : Int32))] [.long (-9223372036854775808 : Int64)] m _
    refine w_p h_m1000 5 (pc' := 1204) (L' := [(0, .ref 0), (1, .ref 39), (2, .ref 143), (3, .int (0 : Int32))]) (st' := [.int (1 : Int32), .ref 0, .ref 143, .long (-9223372036854775808 : Int64)]) rfl ?_
    refine w_ae H (j := 1) (pc' := 1205) (L' := [(0, .ref 0), (1, .ref 39), (2, .ref 143), (3, .int (0 : Int32))]) h_m1000 (z_at.mk 1 rfl rfl) rfl rfl rfl (by decide) rfl (by decide) rfl rfl rfl ?_
    refine w_p h_m1000 4 (pc' := 1209) (L' := [(0, .ref 0), (1, .ref 39), (2, .ref 143), (3, .int (0 : Int32))]) (st' := [.int (2 : Int32), .ref 0, .int (xs 1), .ref 143, .long (-9223372036854775808 : Int64)]) rfl ?_
    refine w_ae H (j := 2) (pc' := 1210) (L' := [(0, .ref 0), (1, .ref 39), (2, .ref 143), (3, .int (0 : Int32))]) h_m1000 (z_at.mk 1 rfl rfl) rfl rfl rfl (by decide) rfl (by decide) rfl rfl rfl ?_
    refine w_cv (H.t rfl) (pc' := 1213) (L' := [(0, .ref 0), (1, .ref 39), (2, .ref 143), (3, .int (0 : Int32))]) (rest := [.long (-9223372036854775808 : Int64)]) (Ps := [.int (xs 1), .int (xs 2)]) (L0 := [(0, .ref 143), (1, .int (xs 1)), (2, .int (xs 2))]) h_m1000 (z_at.mk 3 rfl rfl) (Or.inl ⟨rfl, rfl⟩) rfl rfl (by decide) (by decide) rfl rfl rfl rfl rfl rfl (by decide) rfl rfl rfl ?_
    refine w_p h_m266 2 (pc' := 2) (L' := [(0, .ref 143), (1, .int (xs 1)), (2, .int (xs 2))]) (st' := [.int (xs 1), .ref 143]) rfl ?_
    refine w_cv (H.t rfl) (pc' := 5) (L' := [(0, .ref 143), (1, .int (xs 1)), (2, .int (xs 2))]) (rest := []) (Ps := [.int (xs 1)]) (L0 := [(0, .ref 143), (1, .int (xs 1))]) h_m266 (z_at.mk 3 rfl rfl) (Or.inl ⟨rfl, rfl⟩) rfl rfl (by decide) (by decide) rfl rfl rfl rfl rfl rfl (by decide) rfl rfl rfl ?_
    refine w_p h_m263 1 (pc' := 1) (L' := [(0, .ref 143), (1, .int (xs 1))]) (st' := [.int (xs 1)]) rfl ?_
    refine w_cs (As := [.int (xs 1)]) (rest := []) (j := 262) (L0 := [(0, .int (xs 1))]) (pc' := 4) (L' := [(0, .ref 143), (1, .int (xs 1))]) h_m263 (z_at.mk 3 rfl rfl) (Or.inl ⟨rfl, rfl⟩) rfl rfl rfl rfl rfl ?_
    refine w_p h_m262 3 (pc' := 3) (L' := [(0, .int (xs 1))]) (st' := [.int (5 : Int32), .int (0 : Int32), .int (xs 1)]) rfl ?_
    refine w_cs (As := [.int (xs 1), .int (0 : Int32), .int (5 : Int32)]) (rest := []) (j := 159) (L0 := [(0, .int (xs 1)), (1, .int (0 : Int32)), (2, .int (5 : Int32))]) (pc' := 6) (L' := [(0, .int (xs 1))]) h_m262 (z_at.mk 3 rfl rfl) (Or.inl ⟨rfl, rfl⟩) rfl rfl rfl rfl rfl ?_
    refine w_p h_m159 2 (pc' := 2) (L' := [(0, .int (xs 1)), (1, .int (0 : Int32)), (2, .int (5 : Int32))]) (st' := [.int (0 : Int32), .int (xs 1)]) rfl ?_
    refine w_t2 (pc' := 14) (L' := []) h_m159 (z_at.mk 3 rfl rfl) rfl (zc (a := (xs 1).toInt) (b := 0) rfl rfl (decide_eq_true (by omega))) rfl rfl ?_
    refine w_p h_m159 1 (pc' := 15) (L' := []) (st' := [.int (0 : Int32)]) rfl ?_
    refine w_ri h_m159 (z_at.mk 1 rfl rfl) rfl rfl ?_
    show z_W 997 262 6 [(0, .int (xs 1))] [.int (0 : Int32)] m _
    refine w_ri h_m262 (z_at.mk 1 rfl rfl) rfl rfl ?_
    show z_W 998 263 4 [(0, .ref 143), (1, .int (xs 1))] [.int (0 : Int32)] m _
    refine w_p h_m263 3 (pc' := 26) (L' := []) (st' := [.int (-1 : Int32)]) rfl ?_
    refine w_ri h_m263 (z_at.mk 1 rfl rfl) rfl rfl ?_
    show z_W 999 266 5 [(0, .ref 143), (1, .int (xs 1)), (2, .int (xs 2))] [.int (-1 : Int32)] m _
    refine w_p h_m266 3 (pc' := 41) (L' := []) (st' := [.long (-9223372036854775808 : Int64)]) rfl ?_
    refine w_rl h_m266 (z_at.mk 1 rfl rfl) rfl ?_
    show z_W 1000 1000 1213 [(0, .ref 0), (1, .ref 39), (2, .ref 143), (3, .int (0 : Int32))] [.long (-9223372036854775808 : Int64), .long (-9223372036854775808 : Int64)] m _
    refine w_p h_m1000 6 (pc' := 20) (L' := [(0, .ref 0), (1, .ref 39), (2, .ref 143), (3, .int (6 : Int32))]) (st' := [.ref 0, .int (6 : Int32)]) rfl ?_
    refine w_lene H (x := (6 : Int32)) (pc' := 21) (L' := [(0, .ref 0), (1, .ref 39), (2, .ref 143), (3, .int (6 : Int32))]) h_m1000 (z_at.mk 1 rfl rfl) (by decide) rfl (by decide) rfl rfl rfl ?_
    refine w_p h_m1000 4 (pc' := 1381) (L' := [(0, .ref 0), (1, .ref 39), (2, .ref 143), (3, .int (6 : Int32))]) (st' := [.int (1 : Int32)]) rfl ?_
    refine w_ri h_m1000 (z_at.mk 1 rfl rfl) rfl rfl ?_
    exact hQ _ _ _ _ H (by decide) (by decide)
  · refine w_f1 (pc' := 4) (L' := [(0, .int (xs 1))]) h_m58 (z_at.mk 3 rfl rfl) rfl (zc (a := (xs 1).toInt) (b := 0) rfl rfl (decide_eq_false (by omega))) rfl rfl ?_
    refine w_p h_m58 2 (pc' := 7) (L' := [(0, .int (xs 1))]) (st' := [.int (6 : Int32), .int (xs 1)]) rfl ?_
    by_cases c_2 : (xs 1).toInt < 6
    · refine w_f2 (pc' := 10) (L' := [(0, .int (xs 1))]) h_m58 (z_at.mk 3 rfl rfl) rfl (zc (a := (xs 1).toInt) (b := 6) rfl rfl (decide_eq_false (by omega))) rfl rfl ?_
      refine w_p h_m58 2 (pc' := 15) (L' := []) (st' := [.int (1 : Int32)]) rfl ?_
      refine w_ri h_m58 (z_at.mk 1 rfl rfl) rfl rfl ?_
      show z_W 998 61 4 [(0, .ref 134), (1, .int (xs 1)), (2, .int (xs 2))] [.int (1 : Int32)] m _
      refine w_p h_m61 2 (pc' := 8) (L' := [(0, .ref 134), (1, .int (xs 1)), (2, .int (xs 2))]) (st' := [.int (xs 2)]) rfl ?_
      by_cases c_3 : (xs 2).toInt < 0
      · refine w_t1 (pc' := 31) (L' := []) h_m61 (z_at.mk 3 rfl rfl) rfl (zc (a := (xs 2).toInt) (b := 0) rfl rfl (decide_eq_true (by omega))) rfl rfl ?_
        refine w_p h_m61 1 (pc' := 32) (L' := []) (st' := [.int (0 : Int32)]) rfl ?_
        refine w_ri h_m61 (z_at.mk 1 rfl rfl) rfl rfl ?_
        show z_W 999 152 9 [(0, .ref 39), (1, .int (xs 1)), (2, .int (xs 2))] [.int (0 : Int32)] m _
        refine w_p h_m152 2 (pc' := 29) (L' := []) (st' := [.long (-9223372036854775808 : Int64)]) rfl ?_
        refine w_rl h_m152 (z_at.mk 1 rfl rfl) rfl ?_
        show z_W 1000 1000 1199 [(0, .ref 0), (1, .ref 39), (2, .ref 143), (3, .int (0 : Int32))] [.long (-9223372036854775808 : Int64)] m _
        refine w_p h_m1000 5 (pc' := 1204) (L' := [(0, .ref 0), (1, .ref 39), (2, .ref 143), (3, .int (0 : Int32))]) (st' := [.int (1 : Int32), .ref 0, .ref 143, .long (-9223372036854775808 : Int64)]) rfl ?_
        refine w_ae H (j := 1) (pc' := 1205) (L' := [(0, .ref 0), (1, .ref 39), (2, .ref 143), (3, .int (0 : Int32))]) h_m1000 (z_at.mk 1 rfl rfl) rfl rfl rfl (by decide) rfl (by decide) rfl rfl rfl ?_
        refine w_p h_m1000 4 (pc' := 1209) (L' := [(0, .ref 0), (1, .ref 39), (2, .ref 143), (3, .int (0 : Int32))]) (st' := [.int (2 : Int32), .ref 0, .int (xs 1), .ref 143, .long (-9223372036854775808 : Int64)]) rfl ?_
        refine w_ae H (j := 2) (pc' := 1210) (L' := [(0, .ref 0), (1, .ref 39), (2, .ref 143), (3, .int (0 : Int32))]) h_m1000 (z_at.mk 1 rfl rfl) rfl rfl rfl (by decide) rfl (by decide) rfl rfl rfl ?_
        refine w_cv (H.t rfl) (pc' := 1213) (L' := [(0, .ref 0), (1, .ref 39), (2, .ref 143), (3, .int (0 : Int32))]) (rest := [.long (-9223372036854775808 : Int64)]) (Ps := [.int (xs 1), .int (xs 2)]) (L0 := [(0, .ref 143), (1, .int (xs 1)), (2, .int (xs 2))]) h_m1000 (z_at.mk 3 rfl rfl) (Or.inl ⟨rfl, rfl⟩) rfl rfl (by decide) (by decide) rfl rfl rfl rfl rfl rfl (by decide) rfl rfl rfl ?_
        refine w_p h_m266 2 (pc' := 2) (L' := [(0, .ref 143), (1, .int (xs 1)), (2, .int (xs 2))]) (st' := [.int (xs 1), .ref 143]) rfl ?_
        refine w_cv (H.t rfl) (pc' := 5) (L' := [(0, .ref 143), (1, .int (xs 1)), (2, .int (xs 2))]) (rest := []) (Ps := [.int (xs 1)]) (L0 := [(0, .ref 143), (1, .int (xs 1))]) h_m266 (z_at.mk 3 rfl rfl) (Or.inl ⟨rfl, rfl⟩) rfl rfl (by decide) (by decide) rfl rfl rfl rfl rfl rfl (by decide) rfl rfl rfl ?_
        refine w_p h_m263 1 (pc' := 1) (L' := [(0, .ref 143), (1, .int (xs 1))]) (st' := [.int (xs 1)]) rfl ?_
        refine w_cs (As := [.int (xs 1)]) (rest := []) (j := 262) (L0 := [(0, .int (xs 1))]) (pc' := 4) (L' := [(0, .ref 143), (1, .int (xs 1))]) h_m263 (z_at.mk 3 rfl rfl) (Or.inl ⟨rfl, rfl⟩) rfl rfl rfl rfl rfl ?_
        refine w_p h_m262 3 (pc' := 3) (L' := [(0, .int (xs 1))]) (st' := [.int (5 : Int32), .int (0 : Int32), .int (xs 1)]) rfl ?_
        refine w_cs (As := [.int (xs 1), .int (0 : Int32), .int (5 : Int32)]) (rest := []) (j := 159) (L0 := [(0, .int (xs 1)), (1, .int (0 : Int32)), (2, .int (5 : Int32))]) (pc' := 6) (L' := [(0, .int (xs 1))]) h_m262 (z_at.mk 3 rfl rfl) (Or.inl ⟨rfl, rfl⟩) rfl rfl rfl rfl rfl ?_
        refine w_p h_m159 2 (pc' := 2) (L' := [(0, .int (xs 1)), (1, .int (0 : Int32)), (2, .int (5 : Int32))]) (st' := [.int (0 : Int32), .int (xs 1)]) rfl ?_
        refine w_f2 (pc' := 5) (L' := [(0, .int (xs 1)), (1, .int (0 : Int32)), (2, .int (5 : Int32))]) h_m159 (z_at.mk 3 rfl rfl) rfl (zc (a := (xs 1).toInt) (b := 0) rfl rfl (decide_eq_false (by omega))) rfl rfl ?_
        refine w_p h_m159 2 (pc' := 7) (L' := [(0, .int (xs 1)), (1, .int (0 : Int32)), (2, .int (5 : Int32))]) (st' := [.int (5 : Int32), .int (xs 1)]) rfl ?_
        refine w_f2 (pc' := 10) (L' := [(0, .int (xs 1)), (1, .int (0 : Int32)), (2, .int (5 : Int32))]) h_m159 (z_at.mk 3 rfl rfl) rfl (zc (a := (xs 1).toInt) (b := 5) rfl rfl (decide_eq_false (by omega))) rfl rfl ?_
        refine w_p h_m159 2 (pc' := 15) (L' := []) (st' := [.int (1 : Int32)]) rfl ?_
        refine w_ri h_m159 (z_at.mk 1 rfl rfl) rfl rfl ?_
        show z_W 997 262 6 [(0, .int (xs 1))] [.int (1 : Int32)] m _
        refine w_ri h_m262 (z_at.mk 1 rfl rfl) rfl rfl ?_
        show z_W 998 263 4 [(0, .ref 143), (1, .int (xs 1))] [.int (1 : Int32)] m _
        refine w_p h_m263 2 (pc' := 12) (L' := [(0, .ref 143), (1, .int (xs 1))]) (st' := [.ref 143]) rfl ?_
        refine w_gf H (pc' := 15) (L' := [(0, .ref 143), (1, .int (xs 1))]) h_m263 (z_at.mk 3 rfl rfl) rfl (u := .ref 166) rfl rfl rfl ?_
        refine w_p h_m263 1 (pc' := 16) (L' := [(0, .ref 143), (1, .int (xs 1))]) (st' := [.int (xs 1), .ref 166]) rfl ?_
        by_cases c_4 : (xs 1).toInt = 5
        · refine w_top (v' := .int (5 : Int32)) (congrArg Value.int (zi_lit (c := (xs 1).toInt) rfl c_4)) ?_
          refine w_al H (t := 0) (j := 5) (pc' := 17) (L' := [(0, .ref 143), (1, .int (xs 1))]) h_m263 (z_at.mk 1 rfl rfl) rfl rfl rfl (u := .int (-1 : Int32)) rfl rfl rfl ?_
          refine w_p h_m263 3 (pc' := 26) (L' := []) (st' := [.int (-11 : Int32)]) rfl ?_
          refine w_ri h_m263 (z_at.mk 1 rfl rfl) rfl rfl ?_
          show z_W 999 266 5 [(0, .ref 143), (1, .int (xs 1)), (2, .int (xs 2))] [.int (-11 : Int32)] m _
          refine w_p h_m266 3 (pc' := 41) (L' := []) (st' := [.long (-9223372036854775808 : Int64)]) rfl ?_
          refine w_rl h_m266 (z_at.mk 1 rfl rfl) rfl ?_
          show z_W 1000 1000 1213 [(0, .ref 0), (1, .ref 39), (2, .ref 143), (3, .int (0 : Int32))] [.long (-9223372036854775808 : Int64), .long (-9223372036854775808 : Int64)] m _
          refine w_p h_m1000 6 (pc' := 20) (L' := [(0, .ref 0), (1, .ref 39), (2, .ref 143), (3, .int (6 : Int32))]) (st' := [.ref 0, .int (6 : Int32)]) rfl ?_
          refine w_lene H (x := (6 : Int32)) (pc' := 21) (L' := [(0, .ref 0), (1, .ref 39), (2, .ref 143), (3, .int (6 : Int32))]) h_m1000 (z_at.mk 1 rfl rfl) (by decide) rfl (by decide) rfl rfl rfl ?_
          refine w_p h_m1000 4 (pc' := 1381) (L' := [(0, .ref 0), (1, .ref 39), (2, .ref 143), (3, .int (6 : Int32))]) (st' := [.int (1 : Int32)]) rfl ?_
          refine w_ri h_m1000 (z_at.mk 1 rfl rfl) rfl rfl ?_
          exact hQ _ _ _ _ H (by decide) (by decide)
        by_cases c_5 : (xs 1).toInt = 4
        · refine w_top (v' := .int (4 : Int32)) (congrArg Value.int (zi_lit (c := (xs 1).toInt) rfl c_5)) ?_
          refine w_al H (t := 0) (j := 4) (pc' := 17) (L' := [(0, .ref 143), (1, .int (xs 1))]) h_m263 (z_at.mk 1 rfl rfl) rfl rfl rfl (u := .int (-1 : Int32)) rfl rfl rfl ?_
          refine w_p h_m263 3 (pc' := 26) (L' := []) (st' := [.int (-11 : Int32)]) rfl ?_
          refine w_ri h_m263 (z_at.mk 1 rfl rfl) rfl rfl ?_
          show z_W 999 266 5 [(0, .ref 143), (1, .int (xs 1)), (2, .int (xs 2))] [.int (-11 : Int32)] m _
          refine w_p h_m266 3 (pc' := 41) (L' := []) (st' := [.long (-9223372036854775808 : Int64)]) rfl ?_
          refine w_rl h_m266 (z_at.mk 1 rfl rfl) rfl ?_
          show z_W 1000 1000 1213 [(0, .ref 0), (1, .ref 39), (2, .ref 143), (3, .int (0 : Int32))] [.long (-9223372036854775808 : Int64), .long (-9223372036854775808 : Int64)] m _
          refine w_p h_m1000 6 (pc' := 20) (L' := [(0, .ref 0), (1, .ref 39), (2, .ref 143), (3, .int (6 : Int32))]) (st' := [.ref 0, .int (6 : Int32)]) rfl ?_
          refine w_lene H (x := (6 : Int32)) (pc' := 21) (L' := [(0, .ref 0), (1, .ref 39), (2, .ref 143), (3, .int (6 : Int32))]) h_m1000 (z_at.mk 1 rfl rfl) (by decide) rfl (by decide) rfl rfl rfl ?_
          refine w_p h_m1000 4 (pc' := 1381) (L' := [(0, .ref 0), (1, .ref 39), (2, .ref 143), (3, .int (6 : Int32))]) (st' := [.int (1 : Int32)]) rfl ?_
          refine w_ri h_m1000 (z_at.mk 1 rfl rfl) rfl rfl ?_
          exact hQ _ _ _ _ H (by decide) (by decide)
        by_cases c_6 : (xs 1).toInt = 3
        · refine w_top (v' := .int (3 : Int32)) (congrArg Value.int (zi_lit (c := (xs 1).toInt) rfl c_6)) ?_
          refine w_al H (t := 0) (j := 3) (pc' := 17) (L' := [(0, .ref 143), (1, .int (xs 1))]) h_m263 (z_at.mk 1 rfl rfl) rfl rfl rfl (u := .int (-1 : Int32)) rfl rfl rfl ?_
          refine w_p h_m263 3 (pc' := 26) (L' := []) (st' := [.int (-11 : Int32)]) rfl ?_
          refine w_ri h_m263 (z_at.mk 1 rfl rfl) rfl rfl ?_
          show z_W 999 266 5 [(0, .ref 143), (1, .int (xs 1)), (2, .int (xs 2))] [.int (-11 : Int32)] m _
          refine w_p h_m266 3 (pc' := 41) (L' := []) (st' := [.long (-9223372036854775808 : Int64)]) rfl ?_
          refine w_rl h_m266 (z_at.mk 1 rfl rfl) rfl ?_
          show z_W 1000 1000 1213 [(0, .ref 0), (1, .ref 39), (2, .ref 143), (3, .int (0 : Int32))] [.long (-9223372036854775808 : Int64), .long (-9223372036854775808 : Int64)] m _
          refine w_p h_m1000 6 (pc' := 20) (L' := [(0, .ref 0), (1, .ref 39), (2, .ref 143), (3, .int (6 : Int32))]) (st' := [.ref 0, .int (6 : Int32)]) rfl ?_
          refine w_lene H (x := (6 : Int32)) (pc' := 21) (L' := [(0, .ref 0), (1, .ref 39), (2, .ref 143), (3, .int (6 : Int32))]) h_m1000 (z_at.mk 1 rfl rfl) (by decide) rfl (by decide) rfl rfl rfl ?_
          refine w_p h_m1000 4 (pc' := 1381) (L' := [(0, .ref 0), (1, .ref 39), (2, .ref 143), (3, .int (6 : Int32))]) (st' := [.int (1 : Int32)]) rfl ?_
          refine w_ri h_m1000 (z_at.mk 1 rfl rfl) rfl rfl ?_
          exact hQ _ _ _ _ H (by decide) (by decide)
        by_cases c_7 : (xs 1).toInt = 2
        · refine w_top (v' := .int (2 : Int32)) (congrArg Value.int (zi_lit (c := (xs 1).toInt) rfl c_7)) ?_
          refine w_al H (t := 0) (j := 2) (pc' := 17) (L' := [(0, .ref 143), (1, .int (xs 1))]) h_m263 (z_at.mk 1 rfl rfl) rfl rfl rfl (u := .int (-1 : Int32)) rfl rfl rfl ?_
          refine w_p h_m263 3 (pc' := 26) (L' := []) (st' := [.int (-11 : Int32)]) rfl ?_
          refine w_ri h_m263 (z_at.mk 1 rfl rfl) rfl rfl ?_
          show z_W 999 266 5 [(0, .ref 143), (1, .int (xs 1)), (2, .int (xs 2))] [.int (-11 : Int32)] m _
          refine w_p h_m266 3 (pc' := 41) (L' := []) (st' := [.long (-9223372036854775808 : Int64)]) rfl ?_
          refine w_rl h_m266 (z_at.mk 1 rfl rfl) rfl ?_
          show z_W 1000 1000 1213 [(0, .ref 0), (1, .ref 39), (2, .ref 143), (3, .int (0 : Int32))] [.long (-9223372036854775808 : Int64), .long (-9223372036854775808 : Int64)] m _
          refine w_p h_m1000 6 (pc' := 20) (L' := [(0, .ref 0), (1, .ref 39), (2, .ref 143), (3, .int (6 : Int32))]) (st' := [.ref 0, .int (6 : Int32)]) rfl ?_
          refine w_lene H (x := (6 : Int32)) (pc' := 21) (L' := [(0, .ref 0), (1, .ref 39), (2, .ref 143), (3, .int (6 : Int32))]) h_m1000 (z_at.mk 1 rfl rfl) (by decide) rfl (by decide) rfl rfl rfl ?_
          refine w_p h_m1000 4 (pc' := 1381) (L' := [(0, .ref 0), (1, .ref 39), (2, .ref 143), (3, .int (6 : Int32))]) (st' := [.int (1 : Int32)]) rfl ?_
          refine w_ri h_m1000 (z_at.mk 1 rfl rfl) rfl rfl ?_
          exact hQ _ _ _ _ H (by decide) (by decide)
        by_cases c_8 : (xs 1).toInt = 1
        · refine w_top (v' := .int (1 : Int32)) (congrArg Value.int (zi_lit (c := (xs 1).toInt) rfl c_8)) ?_
          refine w_al H (t := 0) (j := 1) (pc' := 17) (L' := [(0, .ref 143), (1, .int (xs 1))]) h_m263 (z_at.mk 1 rfl rfl) rfl rfl rfl (u := .int (-1 : Int32)) rfl rfl rfl ?_
          refine w_p h_m263 3 (pc' := 26) (L' := []) (st' := [.int (-11 : Int32)]) rfl ?_
          refine w_ri h_m263 (z_at.mk 1 rfl rfl) rfl rfl ?_
          show z_W 999 266 5 [(0, .ref 143), (1, .int (xs 1)), (2, .int (xs 2))] [.int (-11 : Int32)] m _
          refine w_p h_m266 3 (pc' := 41) (L' := []) (st' := [.long (-9223372036854775808 : Int64)]) rfl ?_
          refine w_rl h_m266 (z_at.mk 1 rfl rfl) rfl ?_
          show z_W 1000 1000 1213 [(0, .ref 0), (1, .ref 39), (2, .ref 143), (3, .int (0 : Int32))] [.long (-9223372036854775808 : Int64), .long (-9223372036854775808 : Int64)] m _
          refine w_p h_m1000 6 (pc' := 20) (L' := [(0, .ref 0), (1, .ref 39), (2, .ref 143), (3, .int (6 : Int32))]) (st' := [.ref 0, .int (6 : Int32)]) rfl ?_
          refine w_lene H (x := (6 : Int32)) (pc' := 21) (L' := [(0, .ref 0), (1, .ref 39), (2, .ref 143), (3, .int (6 : Int32))]) h_m1000 (z_at.mk 1 rfl rfl) (by decide) rfl (by decide) rfl rfl rfl ?_
          refine w_p h_m1000 4 (pc' := 1381) (L' := [(0, .ref 0), (1, .ref 39), (2, .ref 143), (3, .int (6 : Int32))]) (st' := [.int (1 : Int32)]) rfl ?_
          refine w_ri h_m1000 (z_at.mk 1 rfl rfl) rfl rfl ?_
          exact hQ _ _ _ _ H (by decide) (by decide)
        have c_9 : (xs 1).toInt = 0 := by omega
        refine w_top (v' := .int (0 : Int32)) (congrArg Value.int (zi_lit (c := (xs 1).toInt) rfl c_9)) ?_
        refine w_al H (t := 0) (j := 0) (pc' := 17) (L' := [(0, .ref 143), (1, .int (xs 1))]) h_m263 (z_at.mk 1 rfl rfl) rfl rfl rfl (u := .int (-1 : Int32)) rfl rfl rfl ?_
        refine w_p h_m263 3 (pc' := 26) (L' := []) (st' := [.int (-11 : Int32)]) rfl ?_
        refine w_ri h_m263 (z_at.mk 1 rfl rfl) rfl rfl ?_
        show z_W 999 266 5 [(0, .ref 143), (1, .int (xs 1)), (2, .int (xs 2))] [.int (-11 : Int32)] m _
        refine w_p h_m266 3 (pc' := 41) (L' := []) (st' := [.long (-9223372036854775808 : Int64)]) rfl ?_
        refine w_rl h_m266 (z_at.mk 1 rfl rfl) rfl ?_
        show z_W 1000 1000 1213 [(0, .ref 0), (1, .ref 39), (2, .ref 143), (3, .int (0 : Int32))] [.long (-9223372036854775808 : Int64), .long (-9223372036854775808 : Int64)] m _
        refine w_p h_m1000 6 (pc' := 20) (L' := [(0, .ref 0), (1, .ref 39), (2, .ref 143), (3, .int (6 : Int32))]) (st' := [.ref 0, .int (6 : Int32)]) rfl ?_
        refine w_lene H (x := (6 : Int32)) (pc' := 21) (L' := [(0, .ref 0), (1, .ref 39), (2, .ref 143), (3, .int (6 : Int32))]) h_m1000 (z_at.mk 1 rfl rfl) (by decide) rfl (by decide) rfl rfl rfl ?_
        refine w_p h_m1000 4 (pc' := 1381) (L' := [(0, .ref 0), (1, .ref 39), (2, .ref 143), (3, .int (6 : Int32))]) (st' := [.int (1 : Int32)]) rfl ?_
        refine w_ri h_m1000 (z_at.mk 1 rfl rfl) rfl rfl ?_
        exact hQ _ _ _ _ H (by decide) (by decide)
      · refine w_f1 (pc' := 11) (L' := [(0, .ref 134), (1, .int (xs 1)), (2, .int (xs 2))]) h_m61 (z_at.mk 3 rfl rfl) rfl (zc (a := (xs 2).toInt) (b := 0) rfl rfl (decide_eq_false (by omega))) rfl rfl ?_
        refine w_p h_m61 2 (pc' := 13) (L' := [(0, .ref 134), (1, .int (xs 1)), (2, .int (xs 2))]) (st' := [.ref 134, .int (xs 2)]) rfl ?_
        refine w_gf H (pc' := 16) (L' := [(0, .ref 134), (1, .int (xs 1)), (2, .int (xs 2))]) h_m61 (z_at.mk 3 rfl rfl) rfl (u := .ref 142) rfl rfl rfl ?_
        refine w_p h_m61 1 (pc' := 17) (L' := [(0, .ref 134), (1, .int (xs 1)), (2, .int (xs 2))]) (st' := [.int (xs 1), .ref 142, .int (xs 2)]) rfl ?_
        by_cases c_4 : (xs 1).toInt = 5
        · refine w_top (v' := .int (5 : Int32)) (congrArg Value.int (zi_lit (c := (xs 1).toInt) rfl c_4)) ?_
          refine w_al H (t := 0) (j := 5) (pc' := 18) (L' := [(0, .ref 134), (1, .int (xs 1)), (2, .int (xs 2))]) h_m61 (z_at.mk 1 rfl rfl) rfl rfl rfl (u := .int (-1 : Int32)) rfl rfl rfl ?_
          refine w_t2 (pc' := 31) (L' := []) h_m61 (z_at.mk 3 rfl rfl) rfl (zc (a := (xs 2).toInt) (b := (-1)) rfl rfl (decide_eq_true (by omega))) rfl rfl ?_
          refine w_p h_m61 1 (pc' := 32) (L' := []) (st' := [.int (0 : Int32)]) rfl ?_
          refine w_ri h_m61 (z_at.mk 1 rfl rfl) rfl rfl ?_
          show z_W 999 152 9 [(0, .ref 39), (1, .int (xs 1)), (2, .int (xs 2))] [.int (0 : Int32)] m _
          refine w_p h_m152 2 (pc' := 29) (L' := []) (st' := [.long (-9223372036854775808 : Int64)]) rfl ?_
          refine w_rl h_m152 (z_at.mk 1 rfl rfl) rfl ?_
          show z_W 1000 1000 1199 [(0, .ref 0), (1, .ref 39), (2, .ref 143), (3, .int (0 : Int32))] [.long (-9223372036854775808 : Int64)] m _
          refine w_p h_m1000 5 (pc' := 1204) (L' := [(0, .ref 0), (1, .ref 39), (2, .ref 143), (3, .int (0 : Int32))]) (st' := [.int (1 : Int32), .ref 0, .ref 143, .long (-9223372036854775808 : Int64)]) rfl ?_
          refine w_ae H (j := 1) (pc' := 1205) (L' := [(0, .ref 0), (1, .ref 39), (2, .ref 143), (3, .int (0 : Int32))]) h_m1000 (z_at.mk 1 rfl rfl) rfl rfl rfl (by decide) rfl (by decide) rfl rfl rfl ?_
          refine w_p h_m1000 4 (pc' := 1209) (L' := [(0, .ref 0), (1, .ref 39), (2, .ref 143), (3, .int (0 : Int32))]) (st' := [.int (2 : Int32), .ref 0, .int (xs 1), .ref 143, .long (-9223372036854775808 : Int64)]) rfl ?_
          refine w_ae H (j := 2) (pc' := 1210) (L' := [(0, .ref 0), (1, .ref 39), (2, .ref 143), (3, .int (0 : Int32))]) h_m1000 (z_at.mk 1 rfl rfl) rfl rfl rfl (by decide) rfl (by decide) rfl rfl rfl ?_
          refine w_cv (H.t rfl) (pc' := 1213) (L' := [(0, .ref 0), (1, .ref 39), (2, .ref 143), (3, .int (0 : Int32))]) (rest := [.long (-9223372036854775808 : Int64)]) (Ps := [.int (xs 1), .int (xs 2)]) (L0 := [(0, .ref 143), (1, .int (xs 1)), (2, .int (xs 2))]) h_m1000 (z_at.mk 3 rfl rfl) (Or.inl ⟨rfl, rfl⟩) rfl rfl (by decide) (by decide) rfl rfl rfl rfl rfl rfl (by decide) rfl rfl rfl ?_
          refine w_p h_m266 2 (pc' := 2) (L' := [(0, .ref 143), (1, .int (xs 1)), (2, .int (xs 2))]) (st' := [.int (xs 1), .ref 143]) rfl ?_
          refine w_cv (H.t rfl) (pc' := 5) (L' := [(0, .ref 143), (1, .int (xs 1)), (2, .int (xs 2))]) (rest := []) (Ps := [.int (xs 1)]) (L0 := [(0, .ref 143), (1, .int (xs 1))]) h_m266 (z_at.mk 3 rfl rfl) (Or.inl ⟨rfl, rfl⟩) rfl rfl (by decide) (by decide) rfl rfl rfl rfl rfl rfl (by decide) rfl rfl rfl ?_
          refine w_p h_m263 1 (pc' := 1) (L' := [(0, .ref 143), (1, .int (xs 1))]) (st' := [.int (xs 1)]) rfl ?_
          refine w_cs (As := [.int (xs 1)]) (rest := []) (j := 262) (L0 := [(0, .int (xs 1))]) (pc' := 4) (L' := [(0, .ref 143), (1, .int (xs 1))]) h_m263 (z_at.mk 3 rfl rfl) (Or.inl ⟨rfl, rfl⟩) rfl rfl rfl rfl rfl ?_
          refine w_p h_m262 3 (pc' := 3) (L' := [(0, .int (xs 1))]) (st' := [.int (5 : Int32), .int (0 : Int32), .int (xs 1)]) rfl ?_
          refine w_cs (As := [.int (xs 1), .int (0 : Int32), .int (5 : Int32)]) (rest := []) (j := 159) (L0 := [(0, .int (xs 1)), (1, .int (0 : Int32)), (2, .int (5 : Int32))]) (pc' := 6) (L' := [(0, .int (xs 1))]) h_m262 (z_at.mk 3 rfl rfl) (Or.inl ⟨rfl, rfl⟩) rfl rfl rfl rfl rfl ?_
          refine w_p h_m159 2 (pc' := 2) (L' := [(0, .int (xs 1)), (1, .int (0 : Int32)), (2, .int (5 : Int32))]) (st' := [.int (0 : Int32), .int (xs 1)]) rfl ?_
          refine w_f2 (pc' := 5) (L' := [(0, .int (xs 1)), (1, .int (0 : Int32)), (2, .int (5 : Int32))]) h_m159 (z_at.mk 3 rfl rfl) rfl (zc (a := (xs 1).toInt) (b := 0) rfl rfl (decide_eq_false (by omega))) rfl rfl ?_
          refine w_p h_m159 2 (pc' := 7) (L' := [(0, .int (xs 1)), (1, .int (0 : Int32)), (2, .int (5 : Int32))]) (st' := [.int (5 : Int32), .int (xs 1)]) rfl ?_
          refine w_f2 (pc' := 10) (L' := [(0, .int (xs 1)), (1, .int (0 : Int32)), (2, .int (5 : Int32))]) h_m159 (z_at.mk 3 rfl rfl) rfl (zc (a := (xs 1).toInt) (b := 5) rfl rfl (decide_eq_false (by omega))) rfl rfl ?_
          refine w_p h_m159 2 (pc' := 15) (L' := []) (st' := [.int (1 : Int32)]) rfl ?_
          refine w_ri h_m159 (z_at.mk 1 rfl rfl) rfl rfl ?_
          show z_W 997 262 6 [(0, .int (xs 1))] [.int (1 : Int32)] m _
          refine w_ri h_m262 (z_at.mk 1 rfl rfl) rfl rfl ?_
          show z_W 998 263 4 [(0, .ref 143), (1, .int (xs 1))] [.int (1 : Int32)] m _
          refine w_p h_m263 2 (pc' := 12) (L' := [(0, .ref 143), (1, .int (xs 1))]) (st' := [.ref 143]) rfl ?_
          refine w_gf H (pc' := 15) (L' := [(0, .ref 143), (1, .int (xs 1))]) h_m263 (z_at.mk 3 rfl rfl) rfl (u := .ref 166) rfl rfl rfl ?_
          refine w_p h_m263 1 (pc' := 16) (L' := [(0, .ref 143), (1, .int (xs 1))]) (st' := [.int (xs 1), .ref 166]) rfl ?_
          have c_5 : (xs 1).toInt = 5 := by omega
          refine w_top (v' := .int (5 : Int32)) (congrArg Value.int (zi_lit (c := (xs 1).toInt) rfl c_5)) ?_
          refine w_al H (t := 0) (j := 5) (pc' := 17) (L' := [(0, .ref 143), (1, .int (xs 1))]) h_m263 (z_at.mk 1 rfl rfl) rfl rfl rfl (u := .int (-1 : Int32)) rfl rfl rfl ?_
          refine w_p h_m263 3 (pc' := 26) (L' := []) (st' := [.int (-11 : Int32)]) rfl ?_
          refine w_ri h_m263 (z_at.mk 1 rfl rfl) rfl rfl ?_
          show z_W 999 266 5 [(0, .ref 143), (1, .int (xs 1)), (2, .int (xs 2))] [.int (-11 : Int32)] m _
          refine w_p h_m266 3 (pc' := 41) (L' := []) (st' := [.long (-9223372036854775808 : Int64)]) rfl ?_
          refine w_rl h_m266 (z_at.mk 1 rfl rfl) rfl ?_
          show z_W 1000 1000 1213 [(0, .ref 0), (1, .ref 39), (2, .ref 143), (3, .int (0 : Int32))] [.long (-9223372036854775808 : Int64), .long (-9223372036854775808 : Int64)] m _
          refine w_p h_m1000 6 (pc' := 20) (L' := [(0, .ref 0), (1, .ref 39), (2, .ref 143), (3, .int (6 : Int32))]) (st' := [.ref 0, .int (6 : Int32)]) rfl ?_
          refine w_lene H (x := (6 : Int32)) (pc' := 21) (L' := [(0, .ref 0), (1, .ref 39), (2, .ref 143), (3, .int (6 : Int32))]) h_m1000 (z_at.mk 1 rfl rfl) (by decide) rfl (by decide) rfl rfl rfl ?_
          refine w_p h_m1000 4 (pc' := 1381) (L' := [(0, .ref 0), (1, .ref 39), (2, .ref 143), (3, .int (6 : Int32))]) (st' := [.int (1 : Int32)]) rfl ?_
          refine w_ri h_m1000 (z_at.mk 1 rfl rfl) rfl rfl ?_
          exact hQ _ _ _ _ H (by decide) (by decide)
        by_cases c_5 : (xs 1).toInt = 4
        · refine w_top (v' := .int (4 : Int32)) (congrArg Value.int (zi_lit (c := (xs 1).toInt) rfl c_5)) ?_
          refine w_al H (t := 0) (j := 4) (pc' := 18) (L' := [(0, .ref 134), (1, .int (xs 1)), (2, .int (xs 2))]) h_m61 (z_at.mk 1 rfl rfl) rfl rfl rfl (u := .int (-1 : Int32)) rfl rfl rfl ?_
          refine w_t2 (pc' := 31) (L' := []) h_m61 (z_at.mk 3 rfl rfl) rfl (zc (a := (xs 2).toInt) (b := (-1)) rfl rfl (decide_eq_true (by omega))) rfl rfl ?_
          refine w_p h_m61 1 (pc' := 32) (L' := []) (st' := [.int (0 : Int32)]) rfl ?_
          refine w_ri h_m61 (z_at.mk 1 rfl rfl) rfl rfl ?_
          show z_W 999 152 9 [(0, .ref 39), (1, .int (xs 1)), (2, .int (xs 2))] [.int (0 : Int32)] m _
          refine w_p h_m152 2 (pc' := 29) (L' := []) (st' := [.long (-9223372036854775808 : Int64)]) rfl ?_
          refine w_rl h_m152 (z_at.mk 1 rfl rfl) rfl ?_
          show z_W 1000 1000 1199 [(0, .ref 0), (1, .ref 39), (2, .ref 143), (3, .int (0 : Int32))] [.long (-9223372036854775808 : Int64)] m _
          refine w_p h_m1000 5 (pc' := 1204) (L' := [(0, .ref 0), (1, .ref 39), (2, .ref 143), (3, .int (0 : Int32))]) (st' := [.int (1 : Int32), .ref 0, .ref 143, .long (-9223372036854775808 : Int64)]) rfl ?_
          refine w_ae H (j := 1) (pc' := 1205) (L' := [(0, .ref 0), (1, .ref 39), (2, .ref 143), (3, .int (0 : Int32))]) h_m1000 (z_at.mk 1 rfl rfl) rfl rfl rfl (by decide) rfl (by decide) rfl rfl rfl ?_
          refine w_p h_m1000 4 (pc' := 1209) (L' := [(0, .ref 0), (1, .ref 39), (2, .ref 143), (3, .int (0 : Int32))]) (st' := [.int (2 : Int32), .ref 0, .int (xs 1), .ref 143, .long (-9223372036854775808 : Int64)]) rfl ?_
          refine w_ae H (j := 2) (pc' := 1210) (L' := [(0, .ref 0), (1, .ref 39), (2, .ref 143), (3, .int (0 : Int32))]) h_m1000 (z_at.mk 1 rfl rfl) rfl rfl rfl (by decide) rfl (by decide) rfl rfl rfl ?_
          refine w_cv (H.t rfl) (pc' := 1213) (L' := [(0, .ref 0), (1, .ref 39), (2, .ref 143), (3, .int (0 : Int32))]) (rest := [.long (-9223372036854775808 : Int64)]) (Ps := [.int (xs 1), .int (xs 2)]) (L0 := [(0, .ref 143), (1, .int (xs 1)), (2, .int (xs 2))]) h_m1000 (z_at.mk 3 rfl rfl) (Or.inl ⟨rfl, rfl⟩) rfl rfl (by decide) (by decide) rfl rfl rfl rfl rfl rfl (by decide) rfl rfl rfl ?_
          refine w_p h_m266 2 (pc' := 2) (L' := [(0, .ref 143), (1, .int (xs 1)), (2, .int (xs 2))]) (st' := [.int (xs 1), .ref 143]) rfl ?_
          refine w_cv (H.t rfl) (pc' := 5) (L' := [(0, .ref 143), (1, .int (xs 1)), (2, .int (xs 2))]) (rest := []) (Ps := [.int (xs 1)]) (L0 := [(0, .ref 143), (1, .int (xs 1))]) h_m266 (z_at.mk 3 rfl rfl) (Or.inl ⟨rfl, rfl⟩) rfl rfl (by decide) (by decide) rfl rfl rfl rfl rfl rfl (by decide) rfl rfl rfl ?_
          refine w_p h_m263 1 (pc' := 1) (L' := [(0, .ref 143), (1, .int (xs 1))]) (st' := [.int (xs 1)]) rfl ?_
          refine w_cs (As := [.int (xs 1)]) (rest := []) (j := 262) (L0 := [(0, .int (xs 1))]) (pc' := 4) (L' := [(0, .ref 143), (1, .int (xs 1))]) h_m263 (z_at.mk 3 rfl rfl) (Or.inl ⟨rfl, rfl⟩) rfl rfl rfl rfl rfl ?_
          refine w_p h_m262 3 (pc' := 3) (L' := [(0, .int (xs 1))]) (st' := [.int (5 : Int32), .int (0 : Int32), .int (xs 1)]) rfl ?_
          refine w_cs (As := [.int (xs 1), .int (0 : Int32), .int (5 : Int32)]) (rest := []) (j := 159) (L0 := [(0, .int (xs 1)), (1, .int (0 : Int32)), (2, .int (5 : Int32))]) (pc' := 6) (L' := [(0, .int (xs 1))]) h_m262 (z_at.mk 3 rfl rfl) (Or.inl ⟨rfl, rfl⟩) rfl rfl rfl rfl rfl ?_
          refine w_p h_m159 2 (pc' := 2) (L' := [(0, .int (xs 1)), (1, .int (0 : Int32)), (2, .int (5 : Int32))]) (st' := [.int (0 : Int32), .int (xs 1)]) rfl ?_
          refine w_f2 (pc' := 5) (L' := [(0, .int (xs 1)), (1, .int (0 : Int32)), (2, .int (5 : Int32))]) h_m159 (z_at.mk 3 rfl rfl) rfl (zc (a := (xs 1).toInt) (b := 0) rfl rfl (decide_eq_false (by omega))) rfl rfl ?_
          refine w_p h_m159 2 (pc' := 7) (L' := [(0, .int (xs 1)), (1, .int (0 : Int32)), (2, .int (5 : Int32))]) (st' := [.int (5 : Int32), .int (xs 1)]) rfl ?_
          refine w_f2 (pc' := 10) (L' := [(0, .int (xs 1)), (1, .int (0 : Int32)), (2, .int (5 : Int32))]) h_m159 (z_at.mk 3 rfl rfl) rfl (zc (a := (xs 1).toInt) (b := 5) rfl rfl (decide_eq_false (by omega))) rfl rfl ?_
          refine w_p h_m159 2 (pc' := 15) (L' := []) (st' := [.int (1 : Int32)]) rfl ?_
          refine w_ri h_m159 (z_at.mk 1 rfl rfl) rfl rfl ?_
          show z_W 997 262 6 [(0, .int (xs 1))] [.int (1 : Int32)] m _
          refine w_ri h_m262 (z_at.mk 1 rfl rfl) rfl rfl ?_
          show z_W 998 263 4 [(0, .ref 143), (1, .int (xs 1))] [.int (1 : Int32)] m _
          refine w_p h_m263 2 (pc' := 12) (L' := [(0, .ref 143), (1, .int (xs 1))]) (st' := [.ref 143]) rfl ?_
          refine w_gf H (pc' := 15) (L' := [(0, .ref 143), (1, .int (xs 1))]) h_m263 (z_at.mk 3 rfl rfl) rfl (u := .ref 166) rfl rfl rfl ?_
          refine w_p h_m263 1 (pc' := 16) (L' := [(0, .ref 143), (1, .int (xs 1))]) (st' := [.int (xs 1), .ref 166]) rfl ?_
          have c_6 : (xs 1).toInt = 4 := by omega
          refine w_top (v' := .int (4 : Int32)) (congrArg Value.int (zi_lit (c := (xs 1).toInt) rfl c_6)) ?_
          refine w_al H (t := 0) (j := 4) (pc' := 17) (L' := [(0, .ref 143), (1, .int (xs 1))]) h_m263 (z_at.mk 1 rfl rfl) rfl rfl rfl (u := .int (-1 : Int32)) rfl rfl rfl ?_
          refine w_p h_m263 3 (pc' := 26) (L' := []) (st' := [.int (-11 : Int32)]) rfl ?_
          refine w_ri h_m263 (z_at.mk 1 rfl rfl) rfl rfl ?_
          show z_W 999 266 5 [(0, .ref 143), (1, .int (xs 1)), (2, .int (xs 2))] [.int (-11 : Int32)] m _
          refine w_p h_m266 3 (pc' := 41) (L' := []) (st' := [.long (-9223372036854775808 : Int64)]) rfl ?_
          refine w_rl h_m266 (z_at.mk 1 rfl rfl) rfl ?_
          show z_W 1000 1000 1213 [(0, .ref 0), (1, .ref 39), (2, .ref 143), (3, .int (0 : Int32))] [.long (-9223372036854775808 : Int64), .long (-9223372036854775808 : Int64)] m _
          refine w_p h_m1000 6 (pc' := 20) (L' := [(0, .ref 0), (1, .ref 39), (2, .ref 143), (3, .int (6 : Int32))]) (st' := [.ref 0, .int (6 : Int32)]) rfl ?_
          refine w_lene H (x := (6 : Int32)) (pc' := 21) (L' := [(0, .ref 0), (1, .ref 39), (2, .ref 143), (3, .int (6 : Int32))]) h_m1000 (z_at.mk 1 rfl rfl) (by decide) rfl (by decide) rfl rfl rfl ?_
          refine w_p h_m1000 4 (pc' := 1381) (L' := [(0, .ref 0), (1, .ref 39), (2, .ref 143), (3, .int (6 : Int32))]) (st' := [.int (1 : Int32)]) rfl ?_
          refine w_ri h_m1000 (z_at.mk 1 rfl rfl) rfl rfl ?_
          exact hQ _ _ _ _ H (by decide) (by decide)
        by_cases c_6 : (xs 1).toInt = 3
        · refine w_top (v' := .int (3 : Int32)) (congrArg Value.int (zi_lit (c := (xs 1).toInt) rfl c_6)) ?_
          refine w_al H (t := 0) (j := 3) (pc' := 18) (L' := [(0, .ref 134), (1, .int (xs 1)), (2, .int (xs 2))]) h_m61 (z_at.mk 1 rfl rfl) rfl rfl rfl (u := .int (-1 : Int32)) rfl rfl rfl ?_
          refine w_t2 (pc' := 31) (L' := []) h_m61 (z_at.mk 3 rfl rfl) rfl (zc (a := (xs 2).toInt) (b := (-1)) rfl rfl (decide_eq_true (by omega))) rfl rfl ?_
          refine w_p h_m61 1 (pc' := 32) (L' := []) (st' := [.int (0 : Int32)]) rfl ?_
          refine w_ri h_m61 (z_at.mk 1 rfl rfl) rfl rfl ?_
          show z_W 999 152 9 [(0, .ref 39), (1, .int (xs 1)), (2, .int (xs 2))] [.int (0 : Int32)] m _
          refine w_p h_m152 2 (pc' := 29) (L' := []) (st' := [.long (-9223372036854775808 : Int64)]) rfl ?_
          refine w_rl h_m152 (z_at.mk 1 rfl rfl) rfl ?_
          show z_W 1000 1000 1199 [(0, .ref 0), (1, .ref 39), (2, .ref 143), (3, .int (0 : Int32))] [.long (-9223372036854775808 : Int64)] m _
          refine w_p h_m1000 5 (pc' := 1204) (L' := [(0, .ref 0), (1, .ref 39), (2, .ref 143), (3, .int (0 : Int32))]) (st' := [.int (1 : Int32), .ref 0, .ref 143, .long (-9223372036854775808 : Int64)]) rfl ?_
          refine w_ae H (j := 1) (pc' := 1205) (L' := [(0, .ref 0), (1, .ref 39), (2, .ref 143), (3, .int (0 : Int32))]) h_m1000 (z_at.mk 1 rfl rfl) rfl rfl rfl (by decide) rfl (by decide) rfl rfl rfl ?_
          refine w_p h_m1000 4 (pc' := 1209) (L' := [(0, .ref 0), (1, .ref 39), (2, .ref 143), (3, .int (0 : Int32))]) (st' := [.int (2 : Int32), .ref 0, .int (xs 1), .ref 143, .long (-9223372036854775808 : Int64)]) rfl ?_
          refine w_ae H (j := 2) (pc' := 1210) (L' := [(0, .ref 0), (1, .ref 39), (2, .ref 143), (3, .int (0 : Int32))]) h_m1000 (z_at.mk 1 rfl rfl) rfl rfl rfl (by decide) rfl (by decide) rfl rfl rfl ?_
          refine w_cv (H.t rfl) (pc' := 1213) (L' := [(0, .ref 0), (1, .ref 39), (2, .ref 143), (3, .int (0 : Int32))]) (rest := [.long (-9223372036854775808 : Int64)]) (Ps := [.int (xs 1), .int (xs 2)]) (L0 := [(0, .ref 143), (1, .int (xs 1)), (2, .int (xs 2))]) h_m1000 (z_at.mk 3 rfl rfl) (Or.inl ⟨rfl, rfl⟩) rfl rfl (by decide) (by decide) rfl rfl rfl rfl rfl rfl (by decide) rfl rfl rfl ?_
          refine w_p h_m266 2 (pc' := 2) (L' := [(0, .ref 143), (1, .int (xs 1)), (2, .int (xs 2))]) (st' := [.int (xs 1), .ref 143]) rfl ?_
          refine w_cv (H.t rfl) (pc' := 5) (L' := [(0, .ref 143), (1, .int (xs 1)), (2, .int (xs 2))]) (rest := []) (Ps := [.int (xs 1)]) (L0 := [(0, .ref 143), (1, .int (xs 1))]) h_m266 (z_at.mk 3 rfl rfl) (Or.inl ⟨rfl, rfl⟩) rfl rfl (by decide) (by decide) rfl rfl rfl rfl rfl rfl (by decide) rfl rfl rfl ?_
          refine w_p h_m263 1 (pc' := 1) (L' := [(0, .ref 143), (1, .int (xs 1))]) (st' := [.int (xs 1)]) rfl ?_
          refine w_cs (As := [.int (xs 1)]) (rest := []) (j := 262) (L0 := [(0, .int (xs 1))]) (pc' := 4) (L' := [(0, .ref 143), (1, .int (xs 1))]) h_m263 (z_at.mk 3 rfl rfl) (Or.inl ⟨rfl, rfl⟩) rfl rfl rfl rfl rfl ?_
          refine w_p h_m262 3 (pc' := 3) (L' := [(0, .int (xs 1))]) (st' := [.int (5 : Int32), .int (0 : Int32), .int (xs 1)]) rfl ?_
          refine w_cs (As := [.int (xs 1), .int (0 : Int32), .int (5 : Int32)]) (rest := []) (j := 159) (L0 := [(0, .int (xs 1)), (1, .int (0 : Int32)), (2, .int (5 : Int32))]) (pc' := 6) (L' := [(0, .int (xs 1))]) h_m262 (z_at.mk 3 rfl rfl) (Or.inl ⟨rfl, rfl⟩) rfl rfl rfl rfl rfl ?_
          refine w_p h_m159 2 (pc' := 2) (L' := [(0, .int (xs 1)), (1, .int (0 : Int32)), (2, .int (5 : Int32))]) (st' := [.int (0 : Int32), .int (xs 1)]) rfl ?_
          refine w_f2 (pc' := 5) (L' := [(0, .int (xs 1)), (1, .int (0 : Int32)), (2, .int (5 : Int32))]) h_m159 (z_at.mk 3 rfl rfl) rfl (zc (a := (xs 1).toInt) (b := 0) rfl rfl (decide_eq_false (by omega))) rfl rfl ?_
          refine w_p h_m159 2 (pc' := 7) (L' := [(0, .int (xs 1)), (1, .int (0 : Int32)), (2, .int (5 : Int32))]) (st' := [.int (5 : Int32), .int (xs 1)]) rfl ?_
          refine w_f2 (pc' := 10) (L' := [(0, .int (xs 1)), (1, .int (0 : Int32)), (2, .int (5 : Int32))]) h_m159 (z_at.mk 3 rfl rfl) rfl (zc (a := (xs 1).toInt) (b := 5) rfl rfl (decide_eq_false (by omega))) rfl rfl ?_
          refine w_p h_m159 2 (pc' := 15) (L' := []) (st' := [.int (1 : Int32)]) rfl ?_
          refine w_ri h_m159 (z_at.mk 1 rfl rfl) rfl rfl ?_
          show z_W 997 262 6 [(0, .int (xs 1))] [.int (1 : Int32)] m _
          refine w_ri h_m262 (z_at.mk 1 rfl rfl) rfl rfl ?_
          show z_W 998 263 4 [(0, .ref 143), (1, .int (xs 1))] [.int (1 : Int32)] m _
          refine w_p h_m263 2 (pc' := 12) (L' := [(0, .ref 143), (1, .int (xs 1))]) (st' := [.ref 143]) rfl ?_
          refine w_gf H (pc' := 15) (L' := [(0, .ref 143), (1, .int (xs 1))]) h_m263 (z_at.mk 3 rfl rfl) rfl (u := .ref 166) rfl rfl rfl ?_
          refine w_p h_m263 1 (pc' := 16) (L' := [(0, .ref 143), (1, .int (xs 1))]) (st' := [.int (xs 1), .ref 166]) rfl ?_
          have c_7 : (xs 1).toInt = 3 := by omega
          refine w_top (v' := .int (3 : Int32)) (congrArg Value.int (zi_lit (c := (xs 1).toInt) rfl c_7)) ?_
          refine w_al H (t := 0) (j := 3) (pc' := 17) (L' := [(0, .ref 143), (1, .int (xs 1))]) h_m263 (z_at.mk 1 rfl rfl) rfl rfl rfl (u := .int (-1 : Int32)) rfl rfl rfl ?_
          refine w_p h_m263 3 (pc' := 26) (L' := []) (st' := [.int (-11 : Int32)]) rfl ?_
          refine w_ri h_m263 (z_at.mk 1 rfl rfl) rfl rfl ?_
          show z_W 999 266 5 [(0, .ref 143), (1, .int (xs 1)), (2, .int (xs 2))] [.int (-11 : Int32)] m _
          refine w_p h_m266 3 (pc' := 41) (L' := []) (st' := [.long (-9223372036854775808 : Int64)]) rfl ?_
          refine w_rl h_m266 (z_at.mk 1 rfl rfl) rfl ?_
          show z_W 1000 1000 1213 [(0, .ref 0), (1, .ref 39), (2, .ref 143), (3, .int (0 : Int32))] [.long (-9223372036854775808 : Int64), .long (-9223372036854775808 : Int64)] m _
          refine w_p h_m1000 6 (pc' := 20) (L' := [(0, .ref 0), (1, .ref 39), (2, .ref 143), (3, .int (6 : Int32))]) (st' := [.ref 0, .int (6 : Int32)]) rfl ?_
          refine w_lene H (x := (6 : Int32)) (pc' := 21) (L' := [(0, .ref 0), (1, .ref 39), (2, .ref 143), (3, .int (6 : Int32))]) h_m1000 (z_at.mk 1 rfl rfl) (by decide) rfl (by decide) rfl rfl rfl ?_
          refine w_p h_m1000 4 (pc' := 1381) (L' := [(0, .ref 0), (1, .ref 39), (2, .ref 143), (3, .int (6 : Int32))]) (st' := [.int (1 : Int32)]) rfl ?_
          refine w_ri h_m1000 (z_at.mk 1 rfl rfl) rfl rfl ?_
          exact hQ _ _ _ _ H (by decide) (by decide)
        by_cases c_7 : (xs 1).toInt = 2
        · refine w_top (v' := .int (2 : Int32)) (congrArg Value.int (zi_lit (c := (xs 1).toInt) rfl c_7)) ?_
          refine w_al H (t := 0) (j := 2) (pc' := 18) (L' := [(0, .ref 134), (1, .int (xs 1)), (2, .int (xs 2))]) h_m61 (z_at.mk 1 rfl rfl) rfl rfl rfl (u := .int (-1 : Int32)) rfl rfl rfl ?_
          refine w_t2 (pc' := 31) (L' := []) h_m61 (z_at.mk 3 rfl rfl) rfl (zc (a := (xs 2).toInt) (b := (-1)) rfl rfl (decide_eq_true (by omega))) rfl rfl ?_
          refine w_p h_m61 1 (pc' := 32) (L' := []) (st' := [.int (0 : Int32)]) rfl ?_
          refine w_ri h_m61 (z_at.mk 1 rfl rfl) rfl rfl ?_
          show z_W 999 152 9 [(0, .ref 39), (1, .int (xs 1)), (2, .int (xs 2))] [.int (0 : Int32)] m _
          refine w_p h_m152 2 (pc' := 29) (L' := []) (st' := [.long (-9223372036854775808 : Int64)]) rfl ?_
          refine w_rl h_m152 (z_at.mk 1 rfl rfl) rfl ?_
          show z_W 1000 1000 1199 [(0, .ref 0), (1, .ref 39), (2, .ref 143), (3, .int (0 : Int32))] [.long (-9223372036854775808 : Int64)] m _
          refine w_p h_m1000 5 (pc' := 1204) (L' := [(0, .ref 0), (1, .ref 39), (2, .ref 143), (3, .int (0 : Int32))]) (st' := [.int (1 : Int32), .ref 0, .ref 143, .long (-9223372036854775808 : Int64)]) rfl ?_
          refine w_ae H (j := 1) (pc' := 1205) (L' := [(0, .ref 0), (1, .ref 39), (2, .ref 143), (3, .int (0 : Int32))]) h_m1000 (z_at.mk 1 rfl rfl) rfl rfl rfl (by decide) rfl (by decide) rfl rfl rfl ?_
          refine w_p h_m1000 4 (pc' := 1209) (L' := [(0, .ref 0), (1, .ref 39), (2, .ref 143), (3, .int (0 : Int32))]) (st' := [.int (2 : Int32), .ref 0, .int (xs 1), .ref 143, .long (-9223372036854775808 : Int64)]) rfl ?_
          refine w_ae H (j := 2) (pc' := 1210) (L' := [(0, .ref 0), (1, .ref 39), (2, .ref 143), (3, .int (0 : Int32))]) h_m1000 (z_at.mk 1 rfl rfl) rfl rfl rfl (by decide) rfl (by decide) rfl rfl rfl ?_
          refine w_cv (H.t rfl) (pc' := 1213) (L' := [(0, .ref 0), (1, .ref 39), (2, .ref 143), (3, .int (0 : Int32))]) (rest := [.long (-9223372036854775808 : Int64)]) (Ps := [.int (xs 1), .int (xs 2)]) (L0 := [(0, .ref 143), (1, .int (xs 1)), (2, .int (xs 2))]) h_m1000 (z_at.mk 3 rfl rfl) (Or.inl ⟨rfl, rfl⟩) rfl rfl (by decide) (by decide) rfl rfl rfl rfl rfl rfl (by decide) rfl rfl rfl ?_
          refine w_p h_m266 2 (pc' := 2) (L' := [(0, .ref 143), (1, .int (xs 1)), (2, .int (xs 2))]) (st' := [.int (xs 1), .ref 143]) rfl ?_
          refine w_cv (H.t rfl) (pc' := 5) (L' := [(0, .ref 143), (1, .int (xs 1)), (2, .int (xs 2))]) (rest := []) (Ps := [.int (xs 1)]) (L0 := [(0, .ref 143), (1, .int (xs 1))]) h_m266 (z_at.mk 3 rfl rfl) (Or.inl ⟨rfl, rfl⟩) rfl rfl (by decide) (by decide) rfl rfl rfl rfl rfl rfl (by decide) rfl rfl rfl ?_
          refine w_p h_m263 1 (pc' := 1) (L' := [(0, .ref 143), (1, .int (xs 1))]) (st' := [.int (xs 1)]) rfl ?_
          refine w_cs (As := [.int (xs 1)]) (rest := []) (j := 262) (L0 := [(0, .int (xs 1))]) (pc' := 4) (L' := [(0, .ref 143), (1, .int (xs 1))]) h_m263 (z_at.mk 3 rfl rfl) (Or.inl ⟨rfl, rfl⟩) rfl rfl rfl rfl rfl ?_
          refine w_p h_m262 3 (pc' := 3) (L' := [(0, .int (xs 1))]) (st' := [.int (5 : Int32), .int (0 : Int32), .int (xs 1)]) rfl ?_
          refine w_cs (As := [.int (xs 1), .int (0 : Int32), .int (5 : Int32)]) (rest := []) (j := 159) (L0 := [(0, .int (xs 1)), (1, .int (0 : Int32)), (2, .int (5 : Int32))]) (pc' := 6) (L' := [(0, .int (xs 1))]) h_m262 (z_at.mk 3 rfl rfl) (Or.inl ⟨rfl, rfl⟩) rfl rfl rfl rfl rfl ?_
          refine w_p h_m159 2 (pc' := 2) (L' := [(0, .int (xs 1)), (1, .int (0 : Int32)), (2, .int (5 : Int32))]) (st' := [.int (0 : Int32), .int (xs 1)]) rfl ?_
          refine w_f2 (pc' := 5) (L' := [(0, .int (xs 1)), (1, .int (0 : Int32)), (2, .int (5 : Int32))]) h_m159 (z_at.mk 3 rfl rfl) rfl (zc (a := (xs 1).toInt) (b := 0) rfl rfl (decide_eq_false (by omega))) rfl rfl ?_
          refine w_p h_m159 2 (pc' := 7) (L' := [(0, .int (xs 1)), (1, .int (0 : Int32)), (2, .int (5 : Int32))]) (st' := [.int (5 : Int32), .int (xs 1)]) rfl ?_
          refine w_f2 (pc' := 10) (L' := [(0, .int (xs 1)), (1, .int (0 : Int32)), (2, .int (5 : Int32))]) h_m159 (z_at.mk 3 rfl rfl) rfl (zc (a := (xs 1).toInt) (b := 5) rfl rfl (decide_eq_false (by omega))) rfl rfl ?_
          refine w_p h_m159 2 (pc' := 15) (L' := []) (st' := [.int (1 : Int32)]) rfl ?_
          refine w_ri h_m159 (z_at.mk 1 rfl rfl) rfl rfl ?_
          show z_W 997 262 6 [(0, .int (xs 1))] [.int (1 : Int32)] m _
          refine w_ri h_m262 (z_at.mk 1 rfl rfl) rfl rfl ?_
          show z_W 998 263 4 [(0, .ref 143), (1, .int (xs 1))] [.int (1 : Int32)] m _
          refine w_p h_m263 2 (pc' := 12) (L' := [(0, .ref 143), (1, .int (xs 1))]) (st' := [.ref 143]) rfl ?_
          refine w_gf H (pc' := 15) (L' := [(0, .ref 143), (1, .int (xs 1))]) h_m263 (z_at.mk 3 rfl rfl) rfl (u := .ref 166) rfl rfl rfl ?_
          refine w_p h_m263 1 (pc' := 16) (L' := [(0, .ref 143), (1, .int (xs 1))]) (st' := [.int (xs 1), .ref 166]) rfl ?_
          have c_8 : (xs 1).toInt = 2 := by omega
          refine w_top (v' := .int (2 : Int32)) (congrArg Value.int (zi_lit (c := (xs 1).toInt) rfl c_8)) ?_
          refine w_al H (t := 0) (j := 2) (pc' := 17) (L' := [(0, .ref 143), (1, .int (xs 1))]) h_m263 (z_at.mk 1 rfl rfl) rfl rfl rfl (u := .int (-1 : Int32)) rfl rfl rfl ?_
          refine w_p h_m263 3 (pc' := 26) (L' := []) (st' := [.int (-11 : Int32)]) rfl ?_
          refine w_ri h_m263 (z_at.mk 1 rfl rfl) rfl rfl ?_
          show z_W 999 266 5 [(0, .ref 143), (1, .int (xs 1)), (2, .int (xs 2))] [.int (-11 : Int32)] m _
          refine w_p h_m266 3 (pc' := 41) (L' := []) (st' := [.long (-9223372036854775808 : Int64)]) rfl ?_
          refine w_rl h_m266 (z_at.mk 1 rfl rfl) rfl ?_
          show z_W 1000 1000 1213 [(0, .ref 0), (1, .ref 39), (2, .ref 143), (3, .int (0 : Int32))] [.long (-9223372036854775808 : Int64), .long (-9223372036854775808 : Int64)] m _
          refine w_p h_m1000 6 (pc' := 20) (L' := [(0, .ref 0), (1, .ref 39), (2, .ref 143), (3, .int (6 : Int32))]) (st' := [.ref 0, .int (6 : Int32)]) rfl ?_
          refine w_lene H (x := (6 : Int32)) (pc' := 21) (L' := [(0, .ref 0), (1, .ref 39), (2, .ref 143), (3, .int (6 : Int32))]) h_m1000 (z_at.mk 1 rfl rfl) (by decide) rfl (by decide) rfl rfl rfl ?_
          refine w_p h_m1000 4 (pc' := 1381) (L' := [(0, .ref 0), (1, .ref 39), (2, .ref 143), (3, .int (6 : Int32))]) (st' := [.int (1 : Int32)]) rfl ?_
          refine w_ri h_m1000 (z_at.mk 1 rfl rfl) rfl rfl ?_
          exact hQ _ _ _ _ H (by decide) (by decide)
        by_cases c_8 : (xs 1).toInt = 1
        · refine w_top (v' := .int (1 : Int32)) (congrArg Value.int (zi_lit (c := (xs 1).toInt) rfl c_8)) ?_
          refine w_al H (t := 0) (j := 1) (pc' := 18) (L' := [(0, .ref 134), (1, .int (xs 1)), (2, .int (xs 2))]) h_m61 (z_at.mk 1 rfl rfl) rfl rfl rfl (u := .int (-1 : Int32)) rfl rfl rfl ?_
          refine w_t2 (pc' := 31) (L' := []) h_m61 (z_at.mk 3 rfl rfl) rfl (zc (a := (xs 2).toInt) (b := (-1)) rfl rfl (decide_eq_true (by omega))) rfl rfl ?_
          refine w_p h_m61 1 (pc' := 32) (L' := []) (st' := [.int (0 : Int32)]) rfl ?_
          refine w_ri h_m61 (z_at.mk 1 rfl rfl) rfl rfl ?_
          show z_W 999 152 9 [(0, .ref 39), (1, .int (xs 1)), (2, .int (xs 2))] [.int (0 : Int32)] m _
          refine w_p h_m152 2 (pc' := 29) (L' := []) (st' := [.long (-9223372036854775808 : Int64)]) rfl ?_
          refine w_rl h_m152 (z_at.mk 1 rfl rfl) rfl ?_
          show z_W 1000 1000 1199 [(0, .ref 0), (1, .ref 39), (2, .ref 143), (3, .int (0 : Int32))] [.long (-9223372036854775808 : Int64)] m _
          refine w_p h_m1000 5 (pc' := 1204) (L' := [(0, .ref 0), (1, .ref 39), (2, .ref 143), (3, .int (0 : Int32))]) (st' := [.int (1 : Int32), .ref 0, .ref 143, .long (-9223372036854775808 : Int64)]) rfl ?_
          refine w_ae H (j := 1) (pc' := 1205) (L' := [(0, .ref 0), (1, .ref 39), (2, .ref 143), (3, .int (0 : Int32))]) h_m1000 (z_at.mk 1 rfl rfl) rfl rfl rfl (by decide) rfl (by decide) rfl rfl rfl ?_
          refine w_p h_m1000 4 (pc' := 1209) (L' := [(0, .ref 0), (1, .ref 39), (2, .ref 143), (3, .int (0 : Int32))]) (st' := [.int (2 : Int32), .ref 0, .int (xs 1), .ref 143, .long (-9223372036854775808 : Int64)]) rfl ?_
          refine w_ae H (j := 2) (pc' := 1210) (L' := [(0, .ref 0), (1, .ref 39), (2, .ref 143), (3, .int (0 : Int32))]) h_m1000 (z_at.mk 1 rfl rfl) rfl rfl rfl (by decide) rfl (by decide) rfl rfl rfl ?_
          refine w_cv (H.t rfl) (pc' := 1213) (L' := [(0, .ref 0), (1, .ref 39), (2, .ref 143), (3, .int (0 : Int32))]) (rest := [.long (-9223372036854775808 : Int64)]) (Ps := [.int (xs 1), .int (xs 2)]) (L0 := [(0, .ref 143), (1, .int (xs 1)), (2, .int (xs 2))]) h_m1000 (z_at.mk 3 rfl rfl) (Or.inl ⟨rfl, rfl⟩) rfl rfl (by decide) (by decide) rfl rfl rfl rfl rfl rfl (by decide) rfl rfl rfl ?_
          refine w_p h_m266 2 (pc' := 2) (L' := [(0, .ref 143), (1, .int (xs 1)), (2, .int (xs 2))]) (st' := [.int (xs 1), .ref 143]) rfl ?_
          refine w_cv (H.t rfl) (pc' := 5) (L' := [(0, .ref 143), (1, .int (xs 1)), (2, .int (xs 2))]) (rest := []) (Ps := [.int (xs 1)]) (L0 := [(0, .ref 143), (1, .int (xs 1))]) h_m266 (z_at.mk 3 rfl rfl) (Or.inl ⟨rfl, rfl⟩) rfl rfl (by decide) (by decide) rfl rfl rfl rfl rfl rfl (by decide) rfl rfl rfl ?_
          refine w_p h_m263 1 (pc' := 1) (L' := [(0, .ref 143), (1, .int (xs 1))]) (st' := [.int (xs 1)]) rfl ?_
          refine w_cs (As := [.int (xs 1)]) (rest := []) (j := 262) (L0 := [(0, .int (xs 1))]) (pc' := 4) (L' := [(0, .ref 143), (1, .int (xs 1))]) h_m263 (z_at.mk 3 rfl rfl) (Or.inl ⟨rfl, rfl⟩) rfl rfl rfl rfl rfl ?_
          refine w_p h_m262 3 (pc' := 3) (L' := [(0, .int (xs 1))]) (st' := [.int (5 : Int32), .int (0 : Int32), .int (xs 1)]) rfl ?_
          refine w_cs (As := [.int (xs 1), .int (0 : Int32), .int (5 : Int32)]) (rest := []) (j := 159) (L0 := [(0, .int (xs 1)), (1, .int (0 : Int32)), (2, .int (5 : Int32))]) (pc' := 6) (L' := [(0, .int (xs 1))]) h_m262 (z_at.mk 3 rfl rfl) (Or.inl ⟨rfl, rfl⟩) rfl rfl rfl rfl rfl ?_
          refine w_p h_m159 2 (pc' := 2) (L' := [(0, .int (xs 1)), (1, .int (0 : Int32)), (2, .int (5 : Int32))]) (st' := [.int (0 : Int32), .int (xs 1)]) rfl ?_
          refine w_f2 (pc' := 5) (L' := [(0, .int (xs 1)), (1, .int (0 : Int32)), (2, .int (5 : Int32))]) h_m159 (z_at.mk 3 rfl rfl) rfl (zc (a := (xs 1).toInt) (b := 0) rfl rfl (decide_eq_false (by omega))) rfl rfl ?_
          refine w_p h_m159 2 (pc' := 7) (L' := [(0, .int (xs 1)), (1, .int (0 : Int32)), (2, .int (5 : Int32))]) (st' := [.int (5 : Int32), .int (xs 1)]) rfl ?_
          refine w_f2 (pc' := 10) (L' := [(0, .int (xs 1)), (1, .int (0 : Int32)), (2, .int (5 : Int32))]) h_m159 (z_at.mk 3 rfl rfl) rfl (zc (a := (xs 1).toInt) (b := 5) rfl rfl (decide_eq_false (by omega))) rfl rfl ?_
          refine w_p h_m159 2 (pc' := 15) (L' := []) (st' := [.int (1 : Int32)]) rfl ?_
          refine w_ri h_m159 (z_at.mk 1 rfl rfl) rfl rfl ?_
          show z_W 997 262 6 [(0, .int (xs 1))] [.int (1 : Int32)] m _
          refine w_ri h_m262 (z_at.mk 1 rfl rfl) rfl rfl ?_
          show z_W 998 263 4 [(0, .ref 143), (1, .int (xs 1))] [.int (1 : Int32)] m _
          refine w_p h_m263 2 (pc' := 12) (L' := [(0, .ref 143), (1, .int (xs 1))]) (st' := [.ref 143]) rfl ?_
          refine w_gf H (pc' := 15) (L' := [(0, .ref 143), (1, .int (xs 1))]) h_m263 (z_at.mk 3 rfl rfl) rfl (u := .ref 166) rfl rfl rfl ?_
          refine w_p h_m263 1 (pc' := 16) (L' := [(0, .ref 143), (1, .int (xs 1))]) (st' := [.int (xs 1), .ref 166]) rfl ?_
          have c_9 : (xs 1).toInt = 1 := by omega
          refine w_top (v' := .int (1 : Int32)) (congrArg Value.int (zi_lit (c := (xs 1).toInt) rfl c_9)) ?_
          refine w_al H (t := 0) (j := 1) (pc' := 17) (L' := [(0, .ref 143), (1, .int (xs 1))]) h_m263 (z_at.mk 1 rfl rfl) rfl rfl rfl (u := .int (-1 : Int32)) rfl rfl rfl ?_
          refine w_p h_m263 3 (pc' := 26) (L' := []) (st' := [.int (-11 : Int32)]) rfl ?_
          refine w_ri h_m263 (z_at.mk 1 rfl rfl) rfl rfl ?_
          show z_W 999 266 5 [(0, .ref 143), (1, .int (xs 1)), (2, .int (xs 2))] [.int (-11 : Int32)] m _
          refine w_p h_m266 3 (pc' := 41) (L' := []) (st' := [.long (-9223372036854775808 : Int64)]) rfl ?_
          refine w_rl h_m266 (z_at.mk 1 rfl rfl) rfl ?_
          show z_W 1000 1000 1213 [(0, .ref 0), (1, .ref 39), (2, .ref 143), (3, .int (0 : Int32))] [.long (-9223372036854775808 : Int64), .long (-9223372036854775808 : Int64)] m _
          refine w_p h_m1000 6 (pc' := 20) (L' := [(0, .ref 0), (1, .ref 39), (2, .ref 143), (3, .int (6 : Int32))]) (st' := [.ref 0, .int (6 : Int32)]) rfl ?_
          refine w_lene H (x := (6 : Int32)) (pc' := 21) (L' := [(0, .ref 0), (1, .ref 39), (2, .ref 143), (3, .int (6 : Int32))]) h_m1000 (z_at.mk 1 rfl rfl) (by decide) rfl (by decide) rfl rfl rfl ?_
          refine w_p h_m1000 4 (pc' := 1381) (L' := [(0, .ref 0), (1, .ref 39), (2, .ref 143), (3, .int (6 : Int32))]) (st' := [.int (1 : Int32)]) rfl ?_
          refine w_ri h_m1000 (z_at.mk 1 rfl rfl) rfl rfl ?_
          exact hQ _ _ _ _ H (by decide) (by decide)
        have c_9 : (xs 1).toInt = 0 := by omega
        refine w_top (v' := .int (0 : Int32)) (congrArg Value.int (zi_lit (c := (xs 1).toInt) rfl c_9)) ?_
        refine w_al H (t := 0) (j := 0) (pc' := 18) (L' := [(0, .ref 134), (1, .int (xs 1)), (2, .int (xs 2))]) h_m61 (z_at.mk 1 rfl rfl) rfl rfl rfl (u := .int (-1 : Int32)) rfl rfl rfl ?_
        refine w_t2 (pc' := 31) (L' := []) h_m61 (z_at.mk 3 rfl rfl) rfl (zc (a := (xs 2).toInt) (b := (-1)) rfl rfl (decide_eq_true (by omega))) rfl rfl ?_
        refine w_p h_m61 1 (pc' := 32) (L' := []) (st' := [.int (0 : Int32)]) rfl ?_
        refine w_ri h_m61 (z_at.mk 1 rfl rfl) rfl rfl ?_
        show z_W 999 152 9 [(0, .ref 39), (1, .int (xs 1)), (2, .int (xs 2))] [.int (0 : Int32)] m _
        refine w_p h_m152 2 (pc' := 29) (L' := []) (st' := [.long (-9223372036854775808 : Int64)]) rfl ?_
        refine w_rl h_m152 (z_at.mk 1 rfl rfl) rfl ?_
        show z_W 1000 1000 1199 [(0, .ref 0), (1, .ref 39), (2, .ref 143), (3, .int (0 : Int32))] [.long (-9223372036854775808 : Int64)] m _
        refine w_p h_m1000 5 (pc' := 1204) (L' := [(0, .ref 0), (1, .ref 39), (2, .ref 143), (3, .int (0 : Int32))]) (st' := [.int (1 : Int32), .ref 0, .ref 143, .long (-9223372036854775808 : Int64)]) rfl ?_
        refine w_ae H (j := 1) (pc' := 1205) (L' := [(0, .ref 0), (1, .ref 39), (2, .ref 143), (3, .int (0 : Int32))]) h_m1000 (z_at.mk 1 rfl rfl) rfl rfl rfl (by decide) rfl (by decide) rfl rfl rfl ?_
        refine w_p h_m1000 4 (pc' := 1209) (L' := [(0, .ref 0), (1, .ref 39), (2, .ref 143), (3, .int (0 : Int32))]) (st' := [.int (2 : Int32), .ref 0, .int (xs 1), .ref 143, .long (-9223372036854775808 : Int64)]) rfl ?_
        refine w_ae H (j := 2) (pc' := 1210) (L' := [(0, .ref 0), (1, .ref 39), (2, .ref 143), (3, .int (0 : Int32))]) h_m1000 (z_at.mk 1 rfl rfl) rfl rfl rfl (by decide) rfl (by decide) rfl rfl rfl ?_
        refine w_cv (H.t rfl) (pc' := 1213) (L' := [(0, .ref 0), (1, .ref 39), (2, .ref 143), (3, .int (0 : Int32))]) (rest := [.long (-9223372036854775808 : Int64)]) (Ps := [.int (xs 1), .int (xs 2)]) (L0 := [(0, .ref 143), (1, .int (xs 1)), (2, .int (xs 2))]) h_m1000 (z_at.mk 3 rfl rfl) (Or.inl ⟨rfl, rfl⟩) rfl rfl (by decide) (by decide) rfl rfl rfl rfl rfl rfl (by decide) rfl rfl rfl ?_
        refine w_p h_m266 2 (pc' := 2) (L' := [(0, .ref 143), (1, .int (xs 1)), (2, .int (xs 2))]) (st' := [.int (xs 1), .ref 143]) rfl ?_
        refine w_cv (H.t rfl) (pc' := 5) (L' := [(0, .ref 143), (1, .int (xs 1)), (2, .int (xs 2))]) (rest := []) (Ps := [.int (xs 1)]) (L0 := [(0, .ref 143), (1, .int (xs 1))]) h_m266 (z_at.mk 3 rfl rfl) (Or.inl ⟨rfl, rfl⟩) rfl rfl (by decide) (by decide) rfl rfl rfl rfl rfl rfl (by decide) rfl rfl rfl ?_
        refine w_p h_m263 1 (pc' := 1) (L' := [(0, .ref 143), (1, .int (xs 1))]) (st' := [.int (xs 1)]) rfl ?_
        refine w_cs (As := [.int (xs 1)]) (rest := []) (j := 262) (L0 := [(0, .int (xs 1))]) (pc' := 4) (L' := [(0, .ref 143), (1, .int (xs 1))]) h_m263 (z_at.mk 3 rfl rfl) (Or.inl ⟨rfl, rfl⟩) rfl rfl rfl rfl rfl ?_
        refine w_p h_m262 3 (pc' := 3) (L' := [(0, .int (xs 1))]) (st' := [.int (5 : Int32), .int (0 : Int32), .int (xs 1)]) rfl ?_
        refine w_cs (As := [.int (xs 1), .int (0 : Int32), .int (5 : Int32)]) (rest := []) (j := 159) (L0 := [(0, .int (xs 1)), (1, .int (0 : Int32)), (2, .int (5 : Int32))]) (pc' := 6) (L' := [(0, .int (xs 1))]) h_m262 (z_at.mk 3 rfl rfl) (Or.inl ⟨rfl, rfl⟩) rfl rfl rfl rfl rfl ?_
        refine w_p h_m159 2 (pc' := 2) (L' := [(0, .int (xs 1)), (1, .int (0 : Int32)), (2, .int (5 : Int32))]) (st' := [.int (0 : Int32), .int (xs 1)]) rfl ?_
        refine w_f2 (pc' := 5) (L' := [(0, .int (xs 1)), (1, .int (0 : Int32)), (2, .int (5 : Int32))]) h_m159 (z_at.mk 3 rfl rfl) rfl (zc (a := (xs 1).toInt) (b := 0) rfl rfl (decide_eq_false (by omega))) rfl rfl ?_
        refine w_p h_m159 2 (pc' := 7) (L' := [(0, .int (xs 1)), (1, .int (0 : Int32)), (2, .int (5 : Int32))]) (st' := [.int (5 : Int32), .int (xs 1)]) rfl ?_
        refine w_f2 (pc' := 10) (L' := [(0, .int (xs 1)), (1, .int (0 : Int32)), (2, .int (5 : Int32))]) h_m159 (z_at.mk 3 rfl rfl) rfl (zc (a := (xs 1).toInt) (b := 5) rfl rfl (decide_eq_false (by omega))) rfl rfl ?_
        refine w_p h_m159 2 (pc' := 15) (L' := []) (st' := [.int (1 : Int32)]) rfl ?_
        refine w_ri h_m159 (z_at.mk 1 rfl rfl) rfl rfl ?_
        show z_W 997 262 6 [(0, .int (xs 1))] [.int (1 : Int32)] m _
        refine w_ri h_m262 (z_at.mk 1 rfl rfl) rfl rfl ?_
        show z_W 998 263 4 [(0, .ref 143), (1, .int (xs 1))] [.int (1 : Int32)] m _
        refine w_p h_m263 2 (pc' := 12) (L' := [(0, .ref 143), (1, .int (xs 1))]) (st' := [.ref 143]) rfl ?_
        refine w_gf H (pc' := 15) (L' := [(0, .ref 143), (1, .int (xs 1))]) h_m263 (z_at.mk 3 rfl rfl) rfl (u := .ref 166) rfl rfl rfl ?_
        refine w_p h_m263 1 (pc' := 16) (L' := [(0, .ref 143), (1, .int (xs 1))]) (st' := [.int (xs 1), .ref 166]) rfl ?_
        have c_10 : (xs 1).toInt = 0 := by omega
        refine w_top (v' := .int (0 : Int32)) (congrArg Value.int (zi_lit (c := (xs 1).toInt) rfl c_10)) ?_
        refine w_al H (t := 0) (j := 0) (pc' := 17) (L' := [(0, .ref 143), (1, .int (xs 1))]) h_m263 (z_at.mk 1 rfl rfl) rfl rfl rfl (u := .int (-1 : Int32)) rfl rfl rfl ?_
        refine w_p h_m263 3 (pc' := 26) (L' := []) (st' := [.int (-11 : Int32)]) rfl ?_
        refine w_ri h_m263 (z_at.mk 1 rfl rfl) rfl rfl ?_
        show z_W 999 266 5 [(0, .ref 143), (1, .int (xs 1)), (2, .int (xs 2))] [.int (-11 : Int32)] m _
        refine w_p h_m266 3 (pc' := 41) (L' := []) (st' := [.long (-9223372036854775808 : Int64)]) rfl ?_
        refine w_rl h_m266 (z_at.mk 1 rfl rfl) rfl ?_
        show z_W 1000 1000 1213 [(0, .ref 0), (1, .ref 39), (2, .ref 143), (3, .int (0 : Int32))] [.long (-9223372036854775808 : Int64), .long (-9223372036854775808 : Int64)] m _
        refine w_p h_m1000 6 (pc' := 20) (L' := [(0, .ref 0), (1, .ref 39), (2, .ref 143), (3, .int (6 : Int32))]) (st' := [.ref 0, .int (6 : Int32)]) rfl ?_
        refine w_lene H (x := (6 : Int32)) (pc' := 21) (L' := [(0, .ref 0), (1, .ref 39), (2, .ref 143), (3, .int (6 : Int32))]) h_m1000 (z_at.mk 1 rfl rfl) (by decide) rfl (by decide) rfl rfl rfl ?_
        refine w_p h_m1000 4 (pc' := 1381) (L' := [(0, .ref 0), (1, .ref 39), (2, .ref 143), (3, .int (6 : Int32))]) (st' := [.int (1 : Int32)]) rfl ?_
        refine w_ri h_m1000 (z_at.mk 1 rfl rfl) rfl rfl ?_
        exact hQ _ _ _ _ H (by decide) (by decide)
    · refine w_t2 (pc' := 14) (L' := []) h_m58 (z_at.mk 3 rfl rfl) rfl (zc (a := (xs 1).toInt) (b := 6) rfl rfl (decide_eq_true (by omega))) rfl rfl ?_
      refine w_p h_m58 1 (pc' := 15) (L' := []) (st' := [.int (0 : Int32)]) rfl ?_
      refine w_ri h_m58 (z_at.mk 1 rfl rfl) rfl rfl ?_
      show z_W 998 61 4 [(0, .ref 134), (1, .int (xs 1)), (2, .int (xs 2))] [.int (0 : Int32)] m _
      refine w_p h_m61 2 (pc' := 32) (L' := []) (st' := [.int (0 : Int32)]) rfl ?_
      refine w_ri h_m61 (z_at.mk 1 rfl rfl) rfl rfl ?_
      show z_W 999 152 9 [(0, .ref 39), (1, .int (xs 1)), (2, .int (xs 2))] [.int (0 : Int32)] m _
      refine w_p h_m152 2 (pc' := 29) (L' := []) (st' := [.long (-9223372036854775808 : Int64)]) rfl ?_
      refine w_rl h_m152 (z_at.mk 1 rfl rfl) rfl ?_
      show z_W 1000 1000 1199 [(0, .ref 0), (1, .ref 39), (2, .ref 143), (3, .int (0 : Int32))] [.long (-9223372036854775808 : Int64)] m _
      refine w_p h_m1000 5 (pc' := 1204) (L' := [(0, .ref 0), (1, .ref 39), (2, .ref 143), (3, .int (0 : Int32))]) (st' := [.int (1 : Int32), .ref 0, .ref 143, .long (-9223372036854775808 : Int64)]) rfl ?_
      refine w_ae H (j := 1) (pc' := 1205) (L' := [(0, .ref 0), (1, .ref 39), (2, .ref 143), (3, .int (0 : Int32))]) h_m1000 (z_at.mk 1 rfl rfl) rfl rfl rfl (by decide) rfl (by decide) rfl rfl rfl ?_
      refine w_p h_m1000 4 (pc' := 1209) (L' := [(0, .ref 0), (1, .ref 39), (2, .ref 143), (3, .int (0 : Int32))]) (st' := [.int (2 : Int32), .ref 0, .int (xs 1), .ref 143, .long (-9223372036854775808 : Int64)]) rfl ?_
      refine w_ae H (j := 2) (pc' := 1210) (L' := [(0, .ref 0), (1, .ref 39), (2, .ref 143), (3, .int (0 : Int32))]) h_m1000 (z_at.mk 1 rfl rfl) rfl rfl rfl (by decide) rfl (by decide) rfl rfl rfl ?_
      refine w_cv (H.t rfl) (pc' := 1213) (L' := [(0, .ref 0), (1, .ref 39), (2, .ref 143), (3, .int (0 : Int32))]) (rest := [.long (-9223372036854775808 : Int64)]) (Ps := [.int (xs 1), .int (xs 2)]) (L0 := [(0, .ref 143), (1, .int (xs 1)), (2, .int (xs 2))]) h_m1000 (z_at.mk 3 rfl rfl) (Or.inl ⟨rfl, rfl⟩) rfl rfl (by decide) (by decide) rfl rfl rfl rfl rfl rfl (by decide) rfl rfl rfl ?_
      refine w_p h_m266 2 (pc' := 2) (L' := [(0, .ref 143), (1, .int (xs 1)), (2, .int (xs 2))]) (st' := [.int (xs 1), .ref 143]) rfl ?_
      refine w_cv (H.t rfl) (pc' := 5) (L' := [(0, .ref 143), (1, .int (xs 1)), (2, .int (xs 2))]) (rest := []) (Ps := [.int (xs 1)]) (L0 := [(0, .ref 143), (1, .int (xs 1))]) h_m266 (z_at.mk 3 rfl rfl) (Or.inl ⟨rfl, rfl⟩) rfl rfl (by decide) (by decide) rfl rfl rfl rfl rfl rfl (by decide) rfl rfl rfl ?_
      refine w_p h_m263 1 (pc' := 1) (L' := [(0, .ref 143), (1, .int (xs 1))]) (st' := [.int (xs 1)]) rfl ?_
      refine w_cs (As := [.int (xs 1)]) (rest := []) (j := 262) (L0 := [(0, .int (xs 1))]) (pc' := 4) (L' := [(0, .ref 143), (1, .int (xs 1))]) h_m263 (z_at.mk 3 rfl rfl) (Or.inl ⟨rfl, rfl⟩) rfl rfl rfl rfl rfl ?_
      refine w_p h_m262 3 (pc' := 3) (L' := [(0, .int (xs 1))]) (st' := [.int (5 : Int32), .int (0 : Int32), .int (xs 1)]) rfl ?_
      refine w_cs (As := [.int (xs 1), .int (0 : Int32), .int (5 : Int32)]) (rest := []) (j := 159) (L0 := [(0, .int (xs 1)), (1, .int (0 : Int32)), (2, .int (5 : Int32))]) (pc' := 6) (L' := [(0, .int (xs 1))]) h_m262 (z_at.mk 3 rfl rfl) (Or.inl ⟨rfl, rfl⟩) rfl rfl rfl rfl rfl ?_
      refine w_p h_m159 2 (pc' := 2) (L' := [(0, .int (xs 1)), (1, .int (0 : Int32)), (2, .int (5 : Int32))]) (st' := [.int (0 : Int32), .int (xs 1)]) rfl ?_
      refine w_f2 (pc' := 5) (L' := [(0, .int (xs 1)), (1, .int (0 : Int32)), (2, .int (5 : Int32))]) h_m159 (z_at.mk 3 rfl rfl) rfl (zc (a := (xs 1).toInt) (b := 0) rfl rfl (decide_eq_false (by omega))) rfl rfl ?_
      refine w_p h_m159 2 (pc' := 7) (L' := [(0, .int (xs 1)), (1, .int (0 : Int32)), (2, .int (5 : Int32))]) (st' := [.int (5 : Int32), .int (xs 1)]) rfl ?_
      refine w_t2 (pc' := 14) (L' := []) h_m159 (z_at.mk 3 rfl rfl) rfl (zc (a := (xs 1).toInt) (b := 5) rfl rfl (decide_eq_true (by omega))) rfl rfl ?_
      refine w_p h_m159 1 (pc' := 15) (L' := []) (st' := [.int (0 : Int32)]) rfl ?_
      refine w_ri h_m159 (z_at.mk 1 rfl rfl) rfl rfl ?_
      show z_W 997 262 6 [(0, .int (xs 1))] [.int (0 : Int32)] m _
      refine w_ri h_m262 (z_at.mk 1 rfl rfl) rfl rfl ?_
      show z_W 998 263 4 [(0, .ref 143), (1, .int (xs 1))] [.int (0 : Int32)] m _
      refine w_p h_m263 3 (pc' := 26) (L' := []) (st' := [.int (-1 : Int32)]) rfl ?_
      refine w_ri h_m263 (z_at.mk 1 rfl rfl) rfl rfl ?_
      show z_W 999 266 5 [(0, .ref 143), (1, .int (xs 1)), (2, .int (xs 2))] [.int (-1 : Int32)] m _
      refine w_p h_m266 3 (pc' := 41) (L' := []) (st' := [.long (-9223372036854775808 : Int64)]) rfl ?_
      refine w_rl h_m266 (z_at.mk 1 rfl rfl) rfl ?_
      show z_W 1000 1000 1213 [(0, .ref 0), (1, .ref 39), (2, .ref 143), (3, .int (0 : Int32))] [.long (-9223372036854775808 : Int64), .long (-9223372036854775808 : Int64)] m _
      refine w_p h_m1000 6 (pc' := 20) (L' := [(0, .ref 0), (1, .ref 39), (2, .ref 143), (3, .int (6 : Int32))]) (st' := [.ref 0, .int (6 : Int32)]) rfl ?_
      refine w_lene H (x := (6 : Int32)) (pc' := 21) (L' := [(0, .ref 0), (1, .ref 39), (2, .ref 143), (3, .int (6 : Int32))]) h_m1000 (z_at.mk 1 rfl rfl) (by decide) rfl (by decide) rfl rfl rfl ?_
      refine w_p h_m1000 4 (pc' := 1381) (L' := [(0, .ref 0), (1, .ref 39), (2, .ref 143), (3, .int (6 : Int32))]) (st' := [.int (1 : Int32)]) rfl ?_
      refine w_ri h_m1000 (z_at.mk 1 rfl rfl) rfl rfl ?_
      exact hQ _ _ _ _ H (by decide) (by decide)
set_option maxHeartbeats 400000000 in
set_option maxRecDepth 20000 in
theorem w_c33 {xs : Nat → Int32} {m : zM} {Q : Option Value → zM → Prop} (H : w_ok 6 xs 168 63950 w_T0 m) (hQ : ∀ N S T m, w_ok 6 xs N S T m → N ≤ 600039 → S ≤ 7302250 → Q (some (.int 1)) m) : z_W 1000 1000 1282 [(0, .ref 0), (1, .ref 39), (2, .ref 143), (3, .int (0 : Int32))] [] m Q := by
  have b1 := zi_bd (xs 1)
  have b2 := zi_bd (xs 2)
  have b3 := zi_bd (xs 3)
  have b4 := zi_bd (xs 4)
  have b5 := zi_bd (xs 5)
  refine w_p h_m1000 5 (pc' := 1287) (L' := [(0, .ref 0), (1, .ref 39), (2, .ref 143), (3, .int (0 : Int32))]) (st' := [.int (1 : Int32), .ref 0, .ref 39]) rfl ?_
  refine w_ae H (j := 1) (pc' := 1288) (L' := [(0, .ref 0), (1, .ref 39), (2, .ref 143), (3, .int (0 : Int32))]) h_m1000 (z_at.mk 1 rfl rfl) rfl rfl rfl (by decide) rfl (by decide) rfl rfl rfl ?_
  refine w_p h_m1000 4 (pc' := 1292) (L' := [(0, .ref 0), (1, .ref 39), (2, .ref 143), (3, .int (0 : Int32))]) (st' := [.int (2 : Int32), .ref 0, .int (xs 1), .ref 39]) rfl ?_
  refine w_ae H (j := 2) (pc' := 1293) (L' := [(0, .ref 0), (1, .ref 39), (2, .ref 143), (3, .int (0 : Int32))]) h_m1000 (z_at.mk 1 rfl rfl) rfl rfl rfl (by decide) rfl (by decide) rfl rfl rfl ?_
  refine w_cv (H.t rfl) (pc' := 1296) (L' := [(0, .ref 0), (1, .ref 39), (2, .ref 143), (3, .int (0 : Int32))]) (rest := []) (Ps := [.int (xs 1), .int (xs 2)]) (L0 := [(0, .ref 39), (1, .int (xs 1)), (2, .int (xs 2))]) h_m1000 (z_at.mk 3 rfl rfl) (Or.inl ⟨rfl, rfl⟩) rfl rfl (by decide) (by decide) rfl rfl rfl rfl rfl rfl (by decide) rfl rfl rfl ?_
  refine w_p h_m154 1 (pc' := 1) (L' := [(0, .ref 39), (1, .int (xs 1)), (2, .int (xs 2))]) (st' := [.ref 39]) rfl ?_
  refine w_gf H (pc' := 4) (L' := [(0, .ref 39), (1, .int (xs 1)), (2, .int (xs 2))]) h_m154 (z_at.mk 3 rfl rfl) rfl (u := .ref 134) rfl rfl rfl ?_
  refine w_p h_m154 1 (pc' := 5) (L' := [(0, .ref 39), (1, .int (xs 1)), (2, .int (xs 2))]) (st' := [.int (xs 1), .ref 134]) rfl ?_
  refine w_cv (H.t rfl) (pc' := 8) (L' := [(0, .ref 39), (1, .int (xs 1)), (2, .int (xs 2))]) (rest := []) (Ps := [.int (xs 1)]) (L0 := [(0, .ref 134), (1, .int (xs 1))]) h_m154 (z_at.mk 3 rfl rfl) (Or.inl ⟨rfl, rfl⟩) rfl rfl (by decide) (by decide) rfl rfl rfl rfl rfl rfl (by decide) rfl rfl rfl ?_
  refine w_p h_m59 1 (pc' := 1) (L' := [(0, .ref 134), (1, .int (xs 1))]) (st' := [.int (xs 1)]) rfl ?_
  refine w_cs (As := [.int (xs 1)]) (rest := []) (j := 58) (L0 := [(0, .int (xs 1))]) (pc' := 4) (L' := [(0, .ref 134), (1, .int (xs 1))]) h_m59 (z_at.mk 3 rfl rfl) (Or.inl ⟨rfl, rfl⟩) rfl rfl rfl rfl rfl ?_
  refine w_p h_m58 1 (pc' := 1) (L' := [(0, .int (xs 1))]) (st' := [.int (xs 1)]) rfl ?_
  by_cases c_1 : (xs 1).toInt < 0
  · refine w_t1 (pc' := 14) (L' := []) h_m58 (z_at.mk 3 rfl rfl) rfl (zc (a := (xs 1).toInt) (b := 0) rfl rfl (decide_eq_true (by omega))) rfl rfl ?_
    refine w_p h_m58 1 (pc' := 15) (L' := []) (st' := [.int (0 : Int32)]) rfl ?_
    refine w_ri h_m58 (z_at.mk 1 rfl rfl) rfl rfl ?_
    show z_W 998 59 4 [(0, .ref 134), (1, .int (xs 1))] [.int (0 : Int32)] m _
    refine w_p h_m59 2 (pc' := 8) (L' := [(0, .ref 134), (1, .int (xs 1))]) (st' := [.int (-1 : Int32)]) rfl ?_
    refine w_ri h_m59 (z_at.mk 1 rfl rfl) rfl rfl ?_
    show z_W 999 154 8 [(0, .ref 39), (1, .int (xs 1)), (2, .int (xs 2))] [.int (-1 : Int32)] m _
    refine w_p h_m154 5 (pc' := 33) (L' := []) (st' := [.int (-1 : Int32)]) rfl ?_
    refine w_ri h_m154 (z_at.mk 1 rfl rfl) rfl rfl ?_
    show z_W 1000 1000 1296 [(0, .ref 0), (1, .ref 39), (2, .ref 143), (3, .int (0 : Int32))] [.int (-1 : Int32)] m _
    refine w_p h_m1000 5 (pc' := 1301) (L' := [(0, .ref 0), (1, .ref 39), (2, .ref 143), (3, .int (0 : Int32))]) (st' := [.int (1 : Int32), .ref 0, .ref 143, .int (-1 : Int32)]) rfl ?_
    refine w_ae H (j := 1) (pc' := 1302) (L' := [(0, .ref 0), (1, .ref 39), (2, .ref 143), (3, .int (0 : Int32))]) h_m1000 (z_at.mk 1 rfl rfl) rfl rfl rfl (by decide) rfl (by decide) rfl rfl rfl ?_
    refine w_p h_m1000 4 (pc' := 1306) (L' := [(0, .ref 0), (1, .ref 39), (2, .ref 143), (3, .int (0 : Int32))]) (st' := [.int (2 : Int32), .ref 0, .int (xs 1), .ref 143, .int (-1 : Int32)]) rfl ?_
    refine w_ae H (j := 2) (pc' := 1307) (L' := [(0, .ref 0), (1, .ref 39), (2, .ref 143), (3, .int (0 : Int32))]) h_m1000 (z_at.mk 1 rfl rfl) rfl rfl rfl (by decide) rfl (by decide) rfl rfl rfl ?_
    refine w_cv (H.t rfl) (pc' := 1310) (L' := [(0, .ref 0), (1, .ref 39), (2, .ref 143), (3, .int (0 : Int32))]) (rest := [.int (-1 : Int32)]) (Ps := [.int (xs 1), .int (xs 2)]) (L0 := [(0, .ref 143), (1, .int (xs 1)), (2, .int (xs 2))]) h_m1000 (z_at.mk 3 rfl rfl) (Or.inl ⟨rfl, rfl⟩) rfl rfl (by decide) (by decide) rfl rfl rfl rfl rfl rfl (by decide) rfl rfl rfl ?_
    refine w_p h_m268 2 (pc' := 2) (L' := [(0, .ref 143), (1, .int (xs 1)), (2, .int (xs 2))]) (st' := [.int (xs 1), .ref 143]) rfl ?_
    refine w_cv (H.t rfl) (pc' := 5) (L' := [(0, .ref 143), (1, .int (xs 1)), (2, .int (xs 2))]) (rest := []) (Ps := [.int (xs 1)]) (L0 := [(0, .ref 143), (1, .int (xs 1))]) h_m268 (z_at.mk 3 rfl rfl) (Or.inl ⟨rfl, rfl⟩) rfl rfl (by decide) (by decide) rfl rfl rfl rfl rfl rfl (by decide) rfl rfl rfl ?_
    refine w_p h_m263 1 (pc' := 1) (L' := [(0, .ref 143), (1, .int (xs 1))]) (st' := [.int (xs 1)]) rfl ?_
    refine w_cs (As := [.int (xs 1)]) (rest := []) (j := 262) (L0 := [(0, .int (xs 1))]) (pc' := 4) (L' := [(0, .ref 143), (1, .int (xs 1))]) h_m263 (z_at.mk 3 rfl rfl) (Or.inl ⟨rfl, rfl⟩) rfl rfl rfl rfl rfl ?_
    refine w_p h_m262 3 (pc' := 3) (L' := [(0, .int (xs 1))]) (st' := [.int (5 : Int32), .int (0 : Int32), .int (xs 1)]) rfl ?_
    refine w_cs (As := [.int (xs 1), .int (0 : Int32), .int (5 : Int32)]) (rest := []) (j := 159) (L0 := [(0, .int (xs 1)), (1, .int (0 : Int32)), (2, .int (5 : Int32))]) (pc' := 6) (L' := [(0, .int (xs 1))]) h_m262 (z_at.mk 3 rfl rfl) (Or.inl ⟨rfl, rfl⟩) rfl rfl rfl rfl rfl ?_
    refine w_p h_m159 2 (pc' := 2) (L' := [(0, .int (xs 1)), (1, .int (0 : Int32)), (2, .int (5 : Int32))]) (st' := [.int (0 : Int32), .int (xs 1)]) rfl ?_
    refine w_t2 (pc' := 14) (L' := []) h_m159 (z_at.mk 3 rfl rfl) rfl (zc (a := (xs 1).toInt) (b := 0) rfl rfl (decide_eq_true (by omega))) rfl rfl ?_
    refine w_p h_m159 1 (pc' := 15) (L' := []) (st' := [.int (0 : Int32)]) rfl ?_
    refine w_ri h_m159 (z_at.mk 1 rfl rfl) rfl rfl ?_
    show z_W 997 262 6 [(0, .int (xs 1))] [.int (0 : Int32)] m _
    refine w_ri h_m262 (z_at.mk 1 rfl rfl) rfl rfl ?_
    show z_W 998 263 4 [(0, .ref 143), (1, .int (xs 1))] [.int (0 : Int32)] m _
    refine w_p h_m263 3 (pc' := 26) (L' := []) (st' := [.int (-1 : Int32)]) rfl ?_
    refine w_ri h_m263 (z_at.mk 1 rfl rfl) rfl rfl ?_
    show z_W 999 268 5 [(0, .ref 143), (1, .int (xs 1)), (2, .int (xs 2))] [.int (-1 : Int32)] m _
    refine w_p h_m268 4 (pc' := 11) (L' := [(3, .int (-1 : Int32)), (0, .ref 143), (1, .int (xs 1)), (2, .int (xs 2))]) (st' := [.int (-1 : Int32)]) rfl ?_
    refine w_ri h_m268 (z_at.mk 1 rfl rfl) rfl rfl ?_
    show z_W 1000 1000 1310 [(0, .ref 0), (1, .ref 39), (2, .ref 143), (3, .int (0 : Int32))] [.int (-1 : Int32), .int (-1 : Int32)] m _
    refine w_p h_m1000 5 (pc' := 20) (L' := [(0, .ref 0), (1, .ref 39), (2, .ref 143), (3, .int (6 : Int32))]) (st' := [.ref 0, .int (6 : Int32)]) rfl ?_
    refine w_lene H (x := (6 : Int32)) (pc' := 21) (L' := [(0, .ref 0), (1, .ref 39), (2, .ref 143), (3, .int (6 : Int32))]) h_m1000 (z_at.mk 1 rfl rfl) (by decide) rfl (by decide) rfl rfl rfl ?_
    refine w_p h_m1000 4 (pc' := 1381) (L' := [(0, .ref 0), (1, .ref 39), (2, .ref 143), (3, .int (6 : Int32))]) (st' := [.int (1 : Int32)]) rfl ?_
    refine w_ri h_m1000 (z_at.mk 1 rfl rfl) rfl rfl ?_
    exact hQ _ _ _ _ H (by decide) (by decide)
  · refine w_f1 (pc' := 4) (L' := [(0, .int (xs 1))]) h_m58 (z_at.mk 3 rfl rfl) rfl (zc (a := (xs 1).toInt) (b := 0) rfl rfl (decide_eq_false (by omega))) rfl rfl ?_
    refine w_p h_m58 2 (pc' := 7) (L' := [(0, .int (xs 1))]) (st' := [.int (6 : Int32), .int (xs 1)]) rfl ?_
    by_cases c_2 : (xs 1).toInt < 6
    · refine w_f2 (pc' := 10) (L' := [(0, .int (xs 1))]) h_m58 (z_at.mk 3 rfl rfl) rfl (zc (a := (xs 1).toInt) (b := 6) rfl rfl (decide_eq_false (by omega))) rfl rfl ?_
      refine w_p h_m58 2 (pc' := 15) (L' := []) (st' := [.int (1 : Int32)]) rfl ?_
      refine w_ri h_m58 (z_at.mk 1 rfl rfl) rfl rfl ?_
      show z_W 998 59 4 [(0, .ref 134), (1, .int (xs 1))] [.int (1 : Int32)] m _
      refine w_p h_m59 2 (pc' := 10) (L' := [(0, .ref 134), (1, .int (xs 1))]) (st' := [.ref 134]) rfl ?_
      refine w_gf H (pc' := 13) (L' := [(0, .ref 134), (1, .int (xs 1))]) h_m59 (z_at.mk 3 rfl rfl) rfl (u := .ref 142) rfl rfl rfl ?_
      refine w_p h_m59 1 (pc' := 14) (L' := [(0, .ref 134), (1, .int (xs 1))]) (st' := [.int (xs 1), .ref 142]) rfl ?_
      by_cases c_3 : (xs 1).toInt = 5
      · refine w_top (v' := .int (5 : Int32)) (congrArg Value.int (zi_lit (c := (xs 1).toInt) rfl c_3)) ?_
        refine w_al H (t := 0) (j := 5) (pc' := 15) (L' := [(0, .ref 134), (1, .int (xs 1))]) h_m59 (z_at.mk 1 rfl rfl) rfl rfl rfl (u := .int (-1 : Int32)) rfl rfl rfl ?_
        refine w_p h_m59 3 (pc' := 24) (L' := []) (st' := [.int (-11 : Int32)]) rfl ?_
        refine w_ri h_m59 (z_at.mk 1 rfl rfl) rfl rfl ?_
        show z_W 999 154 8 [(0, .ref 39), (1, .int (xs 1)), (2, .int (xs 2))] [.int (-11 : Int32)] m _
        refine w_p h_m154 5 (pc' := 33) (L' := []) (st' := [.int (-11 : Int32)]) rfl ?_
        refine w_ri h_m154 (z_at.mk 1 rfl rfl) rfl rfl ?_
        show z_W 1000 1000 1296 [(0, .ref 0), (1, .ref 39), (2, .ref 143), (3, .int (0 : Int32))] [.int (-11 : Int32)] m _
        refine w_p h_m1000 5 (pc' := 1301) (L' := [(0, .ref 0), (1, .ref 39), (2, .ref 143), (3, .int (0 : Int32))]) (st' := [.int (1 : Int32), .ref 0, .ref 143, .int (-11 : Int32)]) rfl ?_
        refine w_ae H (j := 1) (pc' := 1302) (L' := [(0, .ref 0), (1, .ref 39), (2, .ref 143), (3, .int (0 : Int32))]) h_m1000 (z_at.mk 1 rfl rfl) rfl rfl rfl (by decide) rfl (by decide) rfl rfl rfl ?_
        refine w_p h_m1000 4 (pc' := 1306) (L' := [(0, .ref 0), (1, .ref 39), (2, .ref 143), (3, .int (0 : Int32))]) (st' := [.int (2 : Int32), .ref 0, .int (xs 1), .ref 143, .int (-11 : Int32)]) rfl ?_
        refine w_ae H (j := 2) (pc' := 1307) (L' := [(0, .ref 0), (1, .ref 39), (2, .ref 143), (3, .int (0 : Int32))]) h_m1000 (z_at.mk 1 rfl rfl) rfl rfl rfl (by decide) rfl (by decide) rfl rfl rfl ?_
        refine w_cv (H.t rfl) (pc' := 1310) (L' := [(0, .ref 0), (1, .ref 39), (2, .ref 143), (3, .int (0 : Int32))]) (rest := [.int (-11 : Int32)]) (Ps := [.int (xs 1), .int (xs 2)]) (L0 := [(0, .ref 143), (1, .int (xs 1)), (2, .int (xs 2))]) h_m1000 (z_at.mk 3 rfl rfl) (Or.inl ⟨rfl, rfl⟩) rfl rfl (by decide) (by decide) rfl rfl rfl rfl rfl rfl (by decide) rfl rfl rfl ?_
        refine w_p h_m268 2 (pc' := 2) (L' := [(0, .ref 143), (1, .int (xs 1)), (2, .int (xs 2))]) (st' := [.int (xs 1), .ref 143]) rfl ?_
        refine w_cv (H.t rfl) (pc' := 5) (L' := [(0, .ref 143), (1, .int (xs 1)), (2, .int (xs 2))]) (rest := []) (Ps := [.int (xs 1)]) (L0 := [(0, .ref 143), (1, .int (xs 1))]) h_m268 (z_at.mk 3 rfl rfl) (Or.inl ⟨rfl, rfl⟩) rfl rfl (by decide) (by decide) rfl rfl rfl rfl rfl rfl (by decide) rfl rfl rfl ?_
        refine w_p h_m263 1 (pc' := 1) (L' := [(0, .ref 143), (1, .int (xs 1))]) (st' := [.int (xs 1)]) rfl ?_
        refine w_cs (As := [.int (xs 1)]) (rest := []) (j := 262) (L0 := [(0, .int (xs 1))]) (pc' := 4) (L' := [(0, .ref 143), (1, .int (xs 1))]) h_m263 (z_at.mk 3 rfl rfl) (Or.inl ⟨rfl, rfl⟩) rfl rfl rfl rfl rfl ?_
        refine w_p h_m262 3 (pc' := 3) (L' := [(0, .int (xs 1))]) (st' := [.int (5 : Int32), .int (0 : Int32), .int (xs 1)]) rfl ?_
        refine w_cs (As := [.int (xs 1), .int (0 : Int32), .int (5 : Int32)]) (rest := []) (j := 159) (L0 := [(0, .int (xs 1)), (1, .int (0 : Int32)), (2, .int (5 : Int32))]) (pc' := 6) (L' := [(0, .int (xs 1))]) h_m262 (z_at.mk 3 rfl rfl) (Or.inl ⟨rfl, rfl⟩) rfl rfl rfl rfl rfl ?_
        refine w_p h_m159 2 (pc' := 2) (L' := [(0, .int (xs 1)), (1, .int (0 : Int32)), (2, .int (5 : Int32))]) (st' := [.int (0 : Int32), .int (xs 1)]) rfl ?_
        refine w_f2 (pc' := 5) (L' := [(0, .int (xs 1)), (1, .int (0 : Int32)), (2, .int (5 : Int32))]) h_m159 (z_at.mk 3 rfl rfl) rfl (zc (a := (xs 1).toInt) (b := 0) rfl rfl (decide_eq_false (by omega))) rfl rfl ?_
        refine w_p h_m159 2 (pc' := 7) (L' := [(0, .int (xs 1)), (1, .int (0 : Int32)), (2, .int (5 : Int32))]) (st' := [.int (5 : Int32), .int (xs 1)]) rfl ?_
        refine w_f2 (pc' := 10) (L' := [(0, .int (xs 1)), (1, .int (0 : Int32)), (2, .int (5 : Int32))]) h_m159 (z_at.mk 3 rfl rfl) rfl (zc (a := (xs 1).toInt) (b := 5) rfl rfl (decide_eq_false (by omega))) rfl rfl ?_
        refine w_p h_m159 2 (pc' := 15) (L' := []) (st' := [.int (1 : Int32)]) rfl ?_
        refine w_ri h_m159 (z_at.mk 1 rfl rfl) rfl rfl ?_
        show z_W 997 262 6 [(0, .int (xs 1))] [.int (1 : Int32)] m _
        refine w_ri h_m262 (z_at.mk 1 rfl rfl) rfl rfl ?_
        show z_W 998 263 4 [(0, .ref 143), (1, .int (xs 1))] [.int (1 : Int32)] m _
        refine w_p h_m263 2 (pc' := 12) (L' := [(0, .ref 143), (1, .int (xs 1))]) (st' := [.ref 143]) rfl ?_
        refine w_gf H (pc' := 15) (L' := [(0, .ref 143), (1, .int (xs 1))]) h_m263 (z_at.mk 3 rfl rfl) rfl (u := .ref 166) rfl rfl rfl ?_
        refine w_p h_m263 1 (pc' := 16) (L' := [(0, .ref 143), (1, .int (xs 1))]) (st' := [.int (xs 1), .ref 166]) rfl ?_
        have c_4 : (xs 1).toInt = 5 := by omega
        refine w_top (v' := .int (5 : Int32)) (congrArg Value.int (zi_lit (c := (xs 1).toInt) rfl c_4)) ?_
        refine w_al H (t := 0) (j := 5) (pc' := 17) (L' := [(0, .ref 143), (1, .int (xs 1))]) h_m263 (z_at.mk 1 rfl rfl) rfl rfl rfl (u := .int (-1 : Int32)) rfl rfl rfl ?_
        refine w_p h_m263 3 (pc' := 26) (L' := []) (st' := [.int (-11 : Int32)]) rfl ?_
        refine w_ri h_m263 (z_at.mk 1 rfl rfl) rfl rfl ?_
        show z_W 999 268 5 [(0, .ref 143), (1, .int (xs 1)), (2, .int (xs 2))] [.int (-11 : Int32)] m _
        refine w_p h_m268 4 (pc' := 11) (L' := [(3, .int (-11 : Int32)), (0, .ref 143), (1, .int (xs 1)), (2, .int (xs 2))]) (st' := [.int (-11 : Int32)]) rfl ?_
        refine w_ri h_m268 (z_at.mk 1 rfl rfl) rfl rfl ?_
        show z_W 1000 1000 1310 [(0, .ref 0), (1, .ref 39), (2, .ref 143), (3, .int (0 : Int32))] [.int (-11 : Int32), .int (-11 : Int32)] m _
        refine w_p h_m1000 5 (pc' := 20) (L' := [(0, .ref 0), (1, .ref 39), (2, .ref 143), (3, .int (6 : Int32))]) (st' := [.ref 0, .int (6 : Int32)]) rfl ?_
        refine w_lene H (x := (6 : Int32)) (pc' := 21) (L' := [(0, .ref 0), (1, .ref 39), (2, .ref 143), (3, .int (6 : Int32))]) h_m1000 (z_at.mk 1 rfl rfl) (by decide) rfl (by decide) rfl rfl rfl ?_
        refine w_p h_m1000 4 (pc' := 1381) (L' := [(0, .ref 0), (1, .ref 39), (2, .ref 143), (3, .int (6 : Int32))]) (st' := [.int (1 : Int32)]) rfl ?_
        refine w_ri h_m1000 (z_at.mk 1 rfl rfl) rfl rfl ?_
        exact hQ _ _ _ _ H (by decide) (by decide)
      by_cases c_4 : (xs 1).toInt = 4
      · refine w_top (v' := .int (4 : Int32)) (congrArg Value.int (zi_lit (c := (xs 1).toInt) rfl c_4)) ?_
        refine w_al H (t := 0) (j := 4) (pc' := 15) (L' := [(0, .ref 134), (1, .int (xs 1))]) h_m59 (z_at.mk 1 rfl rfl) rfl rfl rfl (u := .int (-1 : Int32)) rfl rfl rfl ?_
        refine w_p h_m59 3 (pc' := 24) (L' := []) (st' := [.int (-11 : Int32)]) rfl ?_
        refine w_ri h_m59 (z_at.mk 1 rfl rfl) rfl rfl ?_
        show z_W 999 154 8 [(0, .ref 39), (1, .int (xs 1)), (2, .int (xs 2))] [.int (-11 : Int32)] m _
        refine w_p h_m154 5 (pc' := 33) (L' := []) (st' := [.int (-11 : Int32)]) rfl ?_
        refine w_ri h_m154 (z_at.mk 1 rfl rfl) rfl rfl ?_
        show z_W 1000 1000 1296 [(0, .ref 0), (1, .ref 39), (2, .ref 143), (3, .int (0 : Int32))] [.int (-11 : Int32)] m _
        refine w_p h_m1000 5 (pc' := 1301) (L' := [(0, .ref 0), (1, .ref 39), (2, .ref 143), (3, .int (0 : Int32))]) (st' := [.int (1 : Int32), .ref 0, .ref 143, .int (-11 : Int32)]) rfl ?_
        refine w_ae H (j := 1) (pc' := 1302) (L' := [(0, .ref 0), (1, .ref 39), (2, .ref 143), (3, .int (0 : Int32))]) h_m1000 (z_at.mk 1 rfl rfl) rfl rfl rfl (by decide) rfl (by decide) rfl rfl rfl ?_
        refine w_p h_m1000 4 (pc' := 1306) (L' := [(0, .ref 0), (1, .ref 39), (2, .ref 143), (3, .int (0 : Int32))]) (st' := [.int (2 : Int32), .ref 0, .int (xs 1), .ref 143, .int (-11 : Int32)]) rfl ?_
        refine w_ae H (j := 2) (pc' := 1307) (L' := [(0, .ref 0), (1, .ref 39), (2, .ref 143), (3, .int (0 : Int32))]) h_m1000 (z_at.mk 1 rfl rfl) rfl rfl rfl (by decide) rfl (by decide) rfl rfl rfl ?_
        refine w_cv (H.t rfl) (pc' := 1310) (L' := [(0, .ref 0), (1, .ref 39), (2, .ref 143), (3, .int (0 : Int32))]) (rest := [.int (-11 : Int32)]) (Ps := [.int (xs 1), .int (xs 2)]) (L0 := [(0, .ref 143), (1, .int (xs 1)), (2, .int (xs 2))]) h_m1000 (z_at.mk 3 rfl rfl) (Or.inl ⟨rfl, rfl⟩) rfl rfl (by decide) (by decide) rfl rfl rfl rfl rfl rfl (by decide) rfl rfl rfl ?_
        refine w_p h_m268 2 (pc' := 2) (L' := [(0, .ref 143), (1, .int (xs 1)), (2, .int (xs 2))]) (st' := [.int (xs 1), .ref 143]) rfl ?_
        refine w_cv (H.t rfl) (pc' := 5) (L' := [(0, .ref 143), (1, .int (xs 1)), (2, .int (xs 2))]) (rest := []) (Ps := [.int (xs 1)]) (L0 := [(0, .ref 143), (1, .int (xs 1))]) h_m268 (z_at.mk 3 rfl rfl) (Or.inl ⟨rfl, rfl⟩) rfl rfl (by decide) (by decide) rfl rfl rfl rfl rfl rfl (by decide) rfl rfl rfl ?_
        refine w_p h_m263 1 (pc' := 1) (L' := [(0, .ref 143), (1, .int (xs 1))]) (st' := [.int (xs 1)]) rfl ?_
        refine w_cs (As := [.int (xs 1)]) (rest := []) (j := 262) (L0 := [(0, .int (xs 1))]) (pc' := 4) (L' := [(0, .ref 143), (1, .int (xs 1))]) h_m263 (z_at.mk 3 rfl rfl) (Or.inl ⟨rfl, rfl⟩) rfl rfl rfl rfl rfl ?_
        refine w_p h_m262 3 (pc' := 3) (L' := [(0, .int (xs 1))]) (st' := [.int (5 : Int32), .int (0 : Int32), .int (xs 1)]) rfl ?_
        refine w_cs (As := [.int (xs 1), .int (0 : Int32), .int (5 : Int32)]) (rest := []) (j := 159) (L0 := [(0, .int (xs 1)), (1, .int (0 : Int32)), (2, .int (5 : Int32))]) (pc' := 6) (L' := [(0, .int (xs 1))]) h_m262 (z_at.mk 3 rfl rfl) (Or.inl ⟨rfl, rfl⟩) rfl rfl rfl rfl rfl ?_
        refine w_p h_m159 2 (pc' := 2) (L' := [(0, .int (xs 1)), (1, .int (0 : Int32)), (2, .int (5 : Int32))]) (st' := [.int (0 : Int32), .int (xs 1)]) rfl ?_
        refine w_f2 (pc' := 5) (L' := [(0, .int (xs 1)), (1, .int (0 : Int32)), (2, .int (5 : Int32))]) h_m159 (z_at.mk 3 rfl rfl) rfl (zc (a := (xs 1).toInt) (b := 0) rfl rfl (decide_eq_false (by omega))) rfl rfl ?_
        refine w_p h_m159 2 (pc' := 7) (L' := [(0, .int (xs 1)), (1, .int (0 : Int32)), (2, .int (5 : Int32))]) (st' := [.int (5 : Int32), .int (xs 1)]) rfl ?_
        refine w_f2 (pc' := 10) (L' := [(0, .int (xs 1)), (1, .int (0 : Int32)), (2, .int (5 : Int32))]) h_m159 (z_at.mk 3 rfl rfl) rfl (zc (a := (xs 1).toInt) (b := 5) rfl rfl (decide_eq_false (by omega))) rfl rfl ?_
        refine w_p h_m159 2 (pc' := 15) (L' := []) (st' := [.int (1 : Int32)]) rfl ?_
        refine w_ri h_m159 (z_at.mk 1 rfl rfl) rfl rfl ?_
        show z_W 997 262 6 [(0, .int (xs 1))] [.int (1 : Int32)] m _
        refine w_ri h_m262 (z_at.mk 1 rfl rfl) rfl rfl ?_
        show z_W 998 263 4 [(0, .ref 143), (1, .int (xs 1))] [.int (1 : Int32)] m _
        refine w_p h_m263 2 (pc' := 12) (L' := [(0, .ref 143), (1, .int (xs 1))]) (st' := [.ref 143]) rfl ?_
        refine w_gf H (pc' := 15) (L' := [(0, .ref 143), (1, .int (xs 1))]) h_m263 (z_at.mk 3 rfl rfl) rfl (u := .ref 166) rfl rfl rfl ?_
        refine w_p h_m263 1 (pc' := 16) (L' := [(0, .ref 143), (1, .int (xs 1))]) (st' := [.int (xs 1), .ref 166]) rfl ?_
        have c_5 : (xs 1).toInt = 4 := by omega
        refine w_top (v' := .int (4 : Int32)) (congrArg Value.int (zi_lit (c := (xs 1).toInt) rfl c_5)) ?_
        refine w_al H (t := 0) (j := 4) (pc' := 17) (L' := [(0, .ref 143), (1, .int (xs 1))]) h_m263 (z_at.mk 1 rfl rfl) rfl rfl rfl (u := .int (-1 : Int32)) rfl rfl rfl ?_
        refine w_p h_m263 3 (pc' := 26) (L' := []) (st' := [.int (-11 : Int32)]) rfl ?_
        refine w_ri h_m263 (z_at.mk 1 rfl rfl) rfl rfl ?_
        show z_W 999 268 5 [(0, .ref 143), (1, .int (xs 1)), (2, .int (xs 2))] [.int (-11 : Int32)] m _
        refine w_p h_m268 4 (pc' := 11) (L' := [(3, .int (-11 : Int32)), (0, .ref 143), (1, .int (xs 1)), (2, .int (xs 2))]) (st' := [.int (-11 : Int32)]) rfl ?_
        refine w_ri h_m268 (z_at.mk 1 rfl rfl) rfl rfl ?_
        show z_W 1000 1000 1310 [(0, .ref 0), (1, .ref 39), (2, .ref 143), (3, .int (0 : Int32))] [.int (-11 : Int32), .int (-11 : Int32)] m _
        refine w_p h_m1000 5 (pc' := 20) (L' := [(0, .ref 0), (1, .ref 39), (2, .ref 143), (3, .int (6 : Int32))]) (st' := [.ref 0, .int (6 : Int32)]) rfl ?_
        refine w_lene H (x := (6 : Int32)) (pc' := 21) (L' := [(0, .ref 0), (1, .ref 39), (2, .ref 143), (3, .int (6 : Int32))]) h_m1000 (z_at.mk 1 rfl rfl) (by decide) rfl (by decide) rfl rfl rfl ?_
        refine w_p h_m1000 4 (pc' := 1381) (L' := [(0, .ref 0), (1, .ref 39), (2, .ref 143), (3, .int (6 : Int32))]) (st' := [.int (1 : Int32)]) rfl ?_
        refine w_ri h_m1000 (z_at.mk 1 rfl rfl) rfl rfl ?_
        exact hQ _ _ _ _ H (by decide) (by decide)
      by_cases c_5 : (xs 1).toInt = 3
      · refine w_top (v' := .int (3 : Int32)) (congrArg Value.int (zi_lit (c := (xs 1).toInt) rfl c_5)) ?_
        refine w_al H (t := 0) (j := 3) (pc' := 15) (L' := [(0, .ref 134), (1, .int (xs 1))]) h_m59 (z_at.mk 1 rfl rfl) rfl rfl rfl (u := .int (-1 : Int32)) rfl rfl rfl ?_
        refine w_p h_m59 3 (pc' := 24) (L' := []) (st' := [.int (-11 : Int32)]) rfl ?_
        refine w_ri h_m59 (z_at.mk 1 rfl rfl) rfl rfl ?_
        show z_W 999 154 8 [(0, .ref 39), (1, .int (xs 1)), (2, .int (xs 2))] [.int (-11 : Int32)] m _
        refine w_p h_m154 5 (pc' := 33) (L' := []) (st' := [.int (-11 : Int32)]) rfl ?_
        refine w_ri h_m154 (z_at.mk 1 rfl rfl) rfl rfl ?_
        show z_W 1000 1000 1296 [(0, .ref 0), (1, .ref 39), (2, .ref 143), (3, .int (0 : Int32))] [.int (-11 : Int32)] m _
        refine w_p h_m1000 5 (pc' := 1301) (L' := [(0, .ref 0), (1, .ref 39), (2, .ref 143), (3, .int (0 : Int32))]) (st' := [.int (1 : Int32), .ref 0, .ref 143, .int (-11 : Int32)]) rfl ?_
        refine w_ae H (j := 1) (pc' := 1302) (L' := [(0, .ref 0), (1, .ref 39), (2, .ref 143), (3, .int (0 : Int32))]) h_m1000 (z_at.mk 1 rfl rfl) rfl rfl rfl (by decide) rfl (by decide) rfl rfl rfl ?_
        refine w_p h_m1000 4 (pc' := 1306) (L' := [(0, .ref 0), (1, .ref 39), (2, .ref 143), (3, .int (0 : Int32))]) (st' := [.int (2 : Int32), .ref 0, .int (xs 1), .ref 143, .int (-11 : Int32)]) rfl ?_
        refine w_ae H (j := 2) (pc' := 1307) (L' := [(0, .ref 0), (1, .ref 39), (2, .ref 143), (3, .int (0 : Int32))]) h_m1000 (z_at.mk 1 rfl rfl) rfl rfl rfl (by decide) rfl (by decide) rfl rfl rfl ?_
        refine w_cv (H.t rfl) (pc' := 1310) (L' := [(0, .ref 0), (1, .ref 39), (2, .ref 143), (3, .int (0 : Int32))]) (rest := [.int (-11 : Int32)]) (Ps := [.int (xs 1), .int (xs 2)]) (L0 := [(0, .ref 143), (1, .int (xs 1)), (2, .int (xs 2))]) h_m1000 (z_at.mk 3 rfl rfl) (Or.inl ⟨rfl, rfl⟩) rfl rfl (by decide) (by decide) rfl rfl rfl rfl rfl rfl (by decide) rfl rfl rfl ?_
        refine w_p h_m268 2 (pc' := 2) (L' := [(0, .ref 143), (1, .int (xs 1)), (2, .int (xs 2))]) (st' := [.int (xs 1), .ref 143]) rfl ?_
        refine w_cv (H.t rfl) (pc' := 5) (L' := [(0, .ref 143), (1, .int (xs 1)), (2, .int (xs 2))]) (rest := []) (Ps := [.int (xs 1)]) (L0 := [(0, .ref 143), (1, .int (xs 1))]) h_m268 (z_at.mk 3 rfl rfl) (Or.inl ⟨rfl, rfl⟩) rfl rfl (by decide) (by decide) rfl rfl rfl rfl rfl rfl (by decide) rfl rfl rfl ?_
        refine w_p h_m263 1 (pc' := 1) (L' := [(0, .ref 143), (1, .int (xs 1))]) (st' := [.int (xs 1)]) rfl ?_
        refine w_cs (As := [.int (xs 1)]) (rest := []) (j := 262) (L0 := [(0, .int (xs 1))]) (pc' := 4) (L' := [(0, .ref 143), (1, .int (xs 1))]) h_m263 (z_at.mk 3 rfl rfl) (Or.inl ⟨rfl, rfl⟩) rfl rfl rfl rfl rfl ?_
        refine w_p h_m262 3 (pc' := 3) (L' := [(0, .int (xs 1))]) (st' := [.int (5 : Int32), .int (0 : Int32), .int (xs 1)]) rfl ?_
        refine w_cs (As := [.int (xs 1), .int (0 : Int32), .int (5 : Int32)]) (rest := []) (j := 159) (L0 := [(0, .int (xs 1)), (1, .int (0 : Int32)), (2, .int (5 : Int32))]) (pc' := 6) (L' := [(0, .int (xs 1))]) h_m262 (z_at.mk 3 rfl rfl) (Or.inl ⟨rfl, rfl⟩) rfl rfl rfl rfl rfl ?_
        refine w_p h_m159 2 (pc' := 2) (L' := [(0, .int (xs 1)), (1, .int (0 : Int32)), (2, .int (5 : Int32))]) (st' := [.int (0 : Int32), .int (xs 1)]) rfl ?_
        refine w_f2 (pc' := 5) (L' := [(0, .int (xs 1)), (1, .int (0 : Int32)), (2, .int (5 : Int32))]) h_m159 (z_at.mk 3 rfl rfl) rfl (zc (a := (xs 1).toInt) (b := 0) rfl rfl (decide_eq_false (by omega))) rfl rfl ?_
        refine w_p h_m159 2 (pc' := 7) (L' := [(0, .int (xs 1)), (1, .int (0 : Int32)), (2, .int (5 : Int32))]) (st' := [.int (5 : Int32), .int (xs 1)]) rfl ?_
        refine w_f2 (pc' := 10) (L' := [(0, .int (xs 1)), (1, .int (0 : Int32)), (2, .int (5 : Int32))]) h_m159 (z_at.mk 3 rfl rfl) rfl (zc (a := (xs 1).toInt) (b := 5) rfl rfl (decide_eq_false (by omega))) rfl rfl ?_
        refine w_p h_m159 2 (pc' := 15) (L' := []) (st' := [.int (1 : Int32)]) rfl ?_
        refine w_ri h_m159 (z_at.mk 1 rfl rfl) rfl rfl ?_
        show z_W 997 262 6 [(0, .int (xs 1))] [.int (1 : Int32)] m _
        refine w_ri h_m262 (z_at.mk 1 rfl rfl) rfl rfl ?_
        show z_W 998 263 4 [(0, .ref 143), (1, .int (xs 1))] [.int (1 : Int32)] m _
        refine w_p h_m263 2 (pc' := 12) (L' := [(0, .ref 143), (1, .int (xs 1))]) (st' := [.ref 143]) rfl ?_
        refine w_gf H (pc' := 15) (L' := [(0, .ref 143), (1, .int (xs 1))]) h_m263 (z_at.mk 3 rfl rfl) rfl (u := .ref 166) rfl rfl rfl ?_
        refine w_p h_m263 1 (pc' := 16) (L' := [(0, .ref 143), (1, .int (xs 1))]) (st' := [.int (xs 1), .ref 166]) rfl ?_
        have c_6 : (xs 1).toInt = 3 := by omega
        refine w_top (v' := .int (3 : Int32)) (congrArg Value.int (zi_lit (c := (xs 1).toInt) rfl c_6)) ?_
        refine w_al H (t := 0) (j := 3) (pc' := 17) (L' := [(0, .ref 143), (1, .int (xs 1))]) h_m263 (z_at.mk 1 rfl rfl) rfl rfl rfl (u := .int (-1 : Int32)) rfl rfl rfl ?_
        refine w_p h_m263 3 (pc' := 26) (L' := []) (st' := [.int (-11 : Int32)]) rfl ?_
        refine w_ri h_m263 (z_at.mk 1 rfl rfl) rfl rfl ?_
        show z_W 999 268 5 [(0, .ref 143), (1, .int (xs 1)), (2, .int (xs 2))] [.int (-11 : Int32)] m _
        refine w_p h_m268 4 (pc' := 11) (L' := [(3, .int (-11 : Int32)), (0, .ref 143), (1, .int (xs 1)), (2, .int (xs 2))]) (st' := [.int (-11 : Int32)]) rfl ?_
        refine w_ri h_m268 (z_at.mk 1 rfl rfl) rfl rfl ?_
        show z_W 1000 1000 1310 [(0, .ref 0), (1, .ref 39), (2, .ref 143), (3, .int (0 : Int32))] [.int (-11 : Int32), .int (-11 : Int32)] m _
        refine w_p h_m1000 5 (pc' := 20) (L' := [(0, .ref 0), (1, .ref 39), (2, .ref 143), (3, .int (6 : Int32))]) (st' := [.ref 0, .int (6 : Int32)]) rfl ?_
        refine w_lene H (x := (6 : Int32)) (pc' := 21) (L' := [(0, .ref 0), (1, .ref 39), (2, .ref 143), (3, .int (6 : Int32))]) h_m1000 (z_at.mk 1 rfl rfl) (by decide) rfl (by decide) rfl rfl rfl ?_
        refine w_p h_m1000 4 (pc' := 1381) (L' := [(0, .ref 0), (1, .ref 39), (2, .ref 143), (3, .int (6 : Int32))]) (st' := [.int (1 : Int32)]) rfl ?_
        refine w_ri h_m1000 (z_at.mk 1 rfl rfl) rfl rfl ?_
        exact hQ _ _ _ _ H (by decide) (by decide)
      by_cases c_6 : (xs 1).toInt = 2
      · refine w_top (v' := .int (2 : Int32)) (congrArg Value.int (zi_lit (c := (xs 1).toInt) rfl c_6)) ?_
        refine w_al H (t := 0) (j := 2) (pc' := 15) (L' := [(0, .ref 134), (1, .int (xs 1))]) h_m59 (z_at.mk 1 rfl rfl) rfl rfl rfl (u := .int (-1 : Int32)) rfl rfl rfl ?_
        refine w_p h_m59 3 (pc' := 24) (L' := []) (st' := [.int (-11 : Int32)]) rfl ?_
        refine w_ri h_m59 (z_at.mk 1 rfl rfl) rfl rfl ?_
        show z_W 999 154 8 [(0, .ref 39), (1, .int (xs 1)), (2, .int (xs 2))] [.int (-11 : Int32)] m _
        refine w_p h_m154 5 (pc' := 33) (L' := []) (st' := [.int (-11 : Int32)]) rfl ?_
        refine w_ri h_m154 (z_at.mk 1 rfl rfl) rfl rfl ?_
        show z_W 1000 1000 1296 [(0, .ref 0), (1, .ref 39), (2, .ref 143), (3, .int (0 : Int32))] [.int (-11 : Int32)] m _
        refine w_p h_m1000 5 (pc' := 1301) (L' := [(0, .ref 0), (1, .ref 39), (2, .ref 143), (3, .int (0 : Int32))]) (st' := [.int (1 : Int32), .ref 0, .ref 143, .int (-11 : Int32)]) rfl ?_
        refine w_ae H (j := 1) (pc' := 1302) (L' := [(0, .ref 0), (1, .ref 39), (2, .ref 143), (3, .int (0 : Int32))]) h_m1000 (z_at.mk 1 rfl rfl) rfl rfl rfl (by decide) rfl (by decide) rfl rfl rfl ?_
        refine w_p h_m1000 4 (pc' := 1306) (L' := [(0, .ref 0), (1, .ref 39), (2, .ref 143), (3, .int (0 : Int32))]) (st' := [.int (2 : Int32), .ref 0, .int (xs 1), .ref 143, .int (-11 : Int32)]) rfl ?_
        refine w_ae H (j := 2) (pc' := 1307) (L' := [(0, .ref 0), (1, .ref 39), (2, .ref 143), (3, .int (0 : Int32))]) h_m1000 (z_at.mk 1 rfl rfl) rfl rfl rfl (by decide) rfl (by decide) rfl rfl rfl ?_
        refine w_cv (H.t rfl) (pc' := 1310) (L' := [(0, .ref 0), (1, .ref 39), (2, .ref 143), (3, .int (0 : Int32))]) (rest := [.int (-11 : Int32)]) (Ps := [.int (xs 1), .int (xs 2)]) (L0 := [(0, .ref 143), (1, .int (xs 1)), (2, .int (xs 2))]) h_m1000 (z_at.mk 3 rfl rfl) (Or.inl ⟨rfl, rfl⟩) rfl rfl (by decide) (by decide) rfl rfl rfl rfl rfl rfl (by decide) rfl rfl rfl ?_
        refine w_p h_m268 2 (pc' := 2) (L' := [(0, .ref 143), (1, .int (xs 1)), (2, .int (xs 2))]) (st' := [.int (xs 1), .ref 143]) rfl ?_
        refine w_cv (H.t rfl) (pc' := 5) (L' := [(0, .ref 143), (1, .int (xs 1)), (2, .int (xs 2))]) (rest := []) (Ps := [.int (xs 1)]) (L0 := [(0, .ref 143), (1, .int (xs 1))]) h_m268 (z_at.mk 3 rfl rfl) (Or.inl ⟨rfl, rfl⟩) rfl rfl (by decide) (by decide) rfl rfl rfl rfl rfl rfl (by decide) rfl rfl rfl ?_
        refine w_p h_m263 1 (pc' := 1) (L' := [(0, .ref 143), (1, .int (xs 1))]) (st' := [.int (xs 1)]) rfl ?_
        refine w_cs (As := [.int (xs 1)]) (rest := []) (j := 262) (L0 := [(0, .int (xs 1))]) (pc' := 4) (L' := [(0, .ref 143), (1, .int (xs 1))]) h_m263 (z_at.mk 3 rfl rfl) (Or.inl ⟨rfl, rfl⟩) rfl rfl rfl rfl rfl ?_
        refine w_p h_m262 3 (pc' := 3) (L' := [(0, .int (xs 1))]) (st' := [.int (5 : Int32), .int (0 : Int32), .int (xs 1)]) rfl ?_
        refine w_cs (As := [.int (xs 1), .int (0 : Int32), .int (5 : Int32)]) (rest := []) (j := 159) (L0 := [(0, .int (xs 1)), (1, .int (0 : Int32)), (2, .int (5 : Int32))]) (pc' := 6) (L' := [(0, .int (xs 1))]) h_m262 (z_at.mk 3 rfl rfl) (Or.inl ⟨rfl, rfl⟩) rfl rfl rfl rfl rfl ?_
        refine w_p h_m159 2 (pc' := 2) (L' := [(0, .int (xs 1)), (1, .int (0 : Int32)), (2, .int (5 : Int32))]) (st' := [.int (0 : Int32), .int (xs 1)]) rfl ?_
        refine w_f2 (pc' := 5) (L' := [(0, .int (xs 1)), (1, .int (0 : Int32)), (2, .int (5 : Int32))]) h_m159 (z_at.mk 3 rfl rfl) rfl (zc (a := (xs 1).toInt) (b := 0) rfl rfl (decide_eq_false (by omega))) rfl rfl ?_
        refine w_p h_m159 2 (pc' := 7) (L' := [(0, .int (xs 1)), (1, .int (0 : Int32)), (2, .int (5 : Int32))]) (st' := [.int (5 : Int32), .int (xs 1)]) rfl ?_
        refine w_f2 (pc' := 10) (L' := [(0, .int (xs 1)), (1, .int (0 : Int32)), (2, .int (5 : Int32))]) h_m159 (z_at.mk 3 rfl rfl) rfl (zc (a := (xs 1).toInt) (b := 5) rfl rfl (decide_eq_false (by omega))) rfl rfl ?_
        refine w_p h_m159 2 (pc' := 15) (L' := []) (st' := [.int (1 : Int32)]) rfl ?_
        refine w_ri h_m159 (z_at.mk 1 rfl rfl) rfl rfl ?_
        show z_W 997 262 6 [(0, .int (xs 1))] [.int (1 : Int32)] m _
        refine w_ri h_m262 (z_at.mk 1 rfl rfl) rfl rfl ?_
        show z_W 998 263 4 [(0, .ref 143), (1, .int (xs 1))] [.int (1 : Int32)] m _
        refine w_p h_m263 2 (pc' := 12) (L' := [(0, .ref 143), (1, .int (xs 1))]) (st' := [.ref 143]) rfl ?_
        refine w_gf H (pc' := 15) (L' := [(0, .ref 143), (1, .int (xs 1))]) h_m263 (z_at.mk 3 rfl rfl) rfl (u := .ref 166) rfl rfl rfl ?_
        refine w_p h_m263 1 (pc' := 16) (L' := [(0, .ref 143), (1, .int (xs 1))]) (st' := [.int (xs 1), .ref 166]) rfl ?_
        have c_7 : (xs 1).toInt = 2 := by omega
        refine w_top (v' := .int (2 : Int32)) (congrArg Value.int (zi_lit (c := (xs 1).toInt) rfl c_7)) ?_
        refine w_al H (t := 0) (j := 2) (pc' := 17) (L' := [(0, .ref 143), (1, .int (xs 1))]) h_m263 (z_at.mk 1 rfl rfl) rfl rfl rfl (u := .int (-1 : Int32)) rfl rfl rfl ?_
        refine w_p h_m263 3 (pc' := 26) (L' := []) (st' := [.int (-11 : Int32)]) rfl ?_
        refine w_ri h_m263 (z_at.mk 1 rfl rfl) rfl rfl ?_
        show z_W 999 268 5 [(0, .ref 143), (1, .int (xs 1)), (2, .int (xs 2))] [.int (-11 : Int32)] m _
        refine w_p h_m268 4 (pc' := 11) (L' := [(3, .int (-11 : Int32)), (0, .ref 143), (1, .int (xs 1)), (2, .int (xs 2))]) (st' := [.int (-11 : Int32)]) rfl ?_
        refine w_ri h_m268 (z_at.mk 1 rfl rfl) rfl rfl ?_
        show z_W 1000 1000 1310 [(0, .ref 0), (1, .ref 39), (2, .ref 143), (3, .int (0 : Int32))] [.int (-11 : Int32), .int (-11 : Int32)] m _
        refine w_p h_m1000 5 (pc' := 20) (L' := [(0, .ref 0), (1, .ref 39), (2, .ref 143), (3, .int (6 : Int32))]) (st' := [.ref 0, .int (6 : Int32)]) rfl ?_
        refine w_lene H (x := (6 : Int32)) (pc' := 21) (L' := [(0, .ref 0), (1, .ref 39), (2, .ref 143), (3, .int (6 : Int32))]) h_m1000 (z_at.mk 1 rfl rfl) (by decide) rfl (by decide) rfl rfl rfl ?_
        refine w_p h_m1000 4 (pc' := 1381) (L' := [(0, .ref 0), (1, .ref 39), (2, .ref 143), (3, .int (6 : Int32))]) (st' := [.int (1 : Int32)]) rfl ?_
        refine w_ri h_m1000 (z_at.mk 1 rfl rfl) rfl rfl ?_
        exact hQ _ _ _ _ H (by decide) (by decide)
      by_cases c_7 : (xs 1).toInt = 1
      · refine w_top (v' := .int (1 : Int32)) (congrArg Value.int (zi_lit (c := (xs 1).toInt) rfl c_7)) ?_
        refine w_al H (t := 0) (j := 1) (pc' := 15) (L' := [(0, .ref 134), (1, .int (xs 1))]) h_m59 (z_at.mk 1 rfl rfl) rfl rfl rfl (u := .int (-1 : Int32)) rfl rfl rfl ?_
        refine w_p h_m59 3 (pc' := 24) (L' := []) (st' := [.int (-11 : Int32)]) rfl ?_
        refine w_ri h_m59 (z_at.mk 1 rfl rfl) rfl rfl ?_
        show z_W 999 154 8 [(0, .ref 39), (1, .int (xs 1)), (2, .int (xs 2))] [.int (-11 : Int32)] m _
        refine w_p h_m154 5 (pc' := 33) (L' := []) (st' := [.int (-11 : Int32)]) rfl ?_
        refine w_ri h_m154 (z_at.mk 1 rfl rfl) rfl rfl ?_
        show z_W 1000 1000 1296 [(0, .ref 0), (1, .ref 39), (2, .ref 143), (3, .int (0 : Int32))] [.int (-11 : Int32)] m _
        refine w_p h_m1000 5 (pc' := 1301) (L' := [(0, .ref 0), (1, .ref 39), (2, .ref 143), (3, .int (0 : Int32))]) (st' := [.int (1 : Int32), .ref 0, .ref 143, .int (-11 : Int32)]) rfl ?_
        refine w_ae H (j := 1) (pc' := 1302) (L' := [(0, .ref 0), (1, .ref 39), (2, .ref 143), (3, .int (0 : Int32))]) h_m1000 (z_at.mk 1 rfl rfl) rfl rfl rfl (by decide) rfl (by decide) rfl rfl rfl ?_
        refine w_p h_m1000 4 (pc' := 1306) (L' := [(0, .ref 0), (1, .ref 39), (2, .ref 143), (3, .int (0 : Int32))]) (st' := [.int (2 : Int32), .ref 0, .int (xs 1), .ref 143, .int (-11 : Int32)]) rfl ?_
        refine w_ae H (j := 2) (pc' := 1307) (L' := [(0, .ref 0), (1, .ref 39), (2, .ref 143), (3, .int (0 : Int32))]) h_m1000 (z_at.mk 1 rfl rfl) rfl rfl rfl (by decide) rfl (by decide) rfl rfl rfl ?_
        refine w_cv (H.t rfl) (pc' := 1310) (L' := [(0, .ref 0), (1, .ref 39), (2, .ref 143), (3, .int (0 : Int32))]) (rest := [.int (-11 : Int32)]) (Ps := [.int (xs 1), .int (xs 2)]) (L0 := [(0, .ref 143), (1, .int (xs 1)), (2, .int (xs 2))]) h_m1000 (z_at.mk 3 rfl rfl) (Or.inl ⟨rfl, rfl⟩) rfl rfl (by decide) (by decide) rfl rfl rfl rfl rfl rfl (by decide) rfl rfl rfl ?_
        refine w_p h_m268 2 (pc' := 2) (L' := [(0, .ref 143), (1, .int (xs 1)), (2, .int (xs 2))]) (st' := [.int (xs 1), .ref 143]) rfl ?_
        refine w_cv (H.t rfl) (pc' := 5) (L' := [(0, .ref 143), (1, .int (xs 1)), (2, .int (xs 2))]) (rest := []) (Ps := [.int (xs 1)]) (L0 := [(0, .ref 143), (1, .int (xs 1))]) h_m268 (z_at.mk 3 rfl rfl) (Or.inl ⟨rfl, rfl⟩) rfl rfl (by decide) (by decide) rfl rfl rfl rfl rfl rfl (by decide) rfl rfl rfl ?_
        refine w_p h_m263 1 (pc' := 1) (L' := [(0, .ref 143), (1, .int (xs 1))]) (st' := [.int (xs 1)]) rfl ?_
        refine w_cs (As := [.int (xs 1)]) (rest := []) (j := 262) (L0 := [(0, .int (xs 1))]) (pc' := 4) (L' := [(0, .ref 143), (1, .int (xs 1))]) h_m263 (z_at.mk 3 rfl rfl) (Or.inl ⟨rfl, rfl⟩) rfl rfl rfl rfl rfl ?_
        refine w_p h_m262 3 (pc' := 3) (L' := [(0, .int (xs 1))]) (st' := [.int (5 : Int32), .int (0 : Int32), .int (xs 1)]) rfl ?_
        refine w_cs (As := [.int (xs 1), .int (0 : Int32), .int (5 : Int32)]) (rest := []) (j := 159) (L0 := [(0, .int (xs 1)), (1, .int (0 : Int32)), (2, .int (5 : Int32))]) (pc' := 6) (L' := [(0, .int (xs 1))]) h_m262 (z_at.mk 3 rfl rfl) (Or.inl ⟨rfl, rfl⟩) rfl rfl rfl rfl rfl ?_
        refine w_p h_m159 2 (pc' := 2) (L' := [(0, .int (xs 1)), (1, .int (0 : Int32)), (2, .int (5 : Int32))]) (st' := [.int (0 : Int32), .int (xs 1)]) rfl ?_
        refine w_f2 (pc' := 5) (L' := [(0, .int (xs 1)), (1, .int (0 : Int32)), (2, .int (5 : Int32))]) h_m159 (z_at.mk 3 rfl rfl) rfl (zc (a := (xs 1).toInt) (b := 0) rfl rfl (decide_eq_false (by omega))) rfl rfl ?_
        refine w_p h_m159 2 (pc' := 7) (L' := [(0, .int (xs 1)), (1, .int (0 : Int32)), (2, .int (5 : Int32))]) (st' := [.int (5 : Int32), .int (xs 1)]) rfl ?_
        refine w_f2 (pc' := 10) (L' := [(0, .int (xs 1)), (1, .int (0 : Int32)), (2, .int (5 : Int32))]) h_m159 (z_at.mk 3 rfl rfl) rfl (zc (a := (xs 1).toInt) (b := 5) rfl rfl (decide_eq_false (by omega))) rfl rfl ?_
        refine w_p h_m159 2 (pc' := 15) (L' := []) (st' := [.int (1 : Int32)]) rfl ?_
        refine w_ri h_m159 (z_at.mk 1 rfl rfl) rfl rfl ?_
        show z_W 997 262 6 [(0, .int (xs 1))] [.int (1 : Int32)] m _
        refine w_ri h_m262 (z_at.mk 1 rfl rfl) rfl rfl ?_
        show z_W 998 263 4 [(0, .ref 143), (1, .int (xs 1))] [.int (1 : Int32)] m _
        refine w_p h_m263 2 (pc' := 12) (L' := [(0, .ref 143), (1, .int (xs 1))]) (st' := [.ref 143]) rfl ?_
        refine w_gf H (pc' := 15) (L' := [(0, .ref 143), (1, .int (xs 1))]) h_m263 (z_at.mk 3 rfl rfl) rfl (u := .ref 166) rfl rfl rfl ?_
        refine w_p h_m263 1 (pc' := 16) (L' := [(0, .ref 143), (1, .int (xs 1))]) (st' := [.int (xs 1), .ref 166]) rfl ?_
        have c_8 : (xs 1).toInt = 1 := by omega
        refine w_top (v' := .int (1 : Int32)) (congrArg Value.int (zi_lit (c := (xs 1).toInt) rfl c_8)) ?_
        refine w_al H (t := 0) (j := 1) (pc' := 17) (L' := [(0, .ref 143), (1, .int (xs 1))]) h_m263 (z_at.mk 1 rfl rfl) rfl rfl rfl (u := .int (-1 : Int32)) rfl rfl rfl ?_
        refine w_p h_m263 3 (pc' := 26) (L' := []) (st' := [.int (-11 : Int32)]) rfl ?_
        refine w_ri h_m263 (z_at.mk 1 rfl rfl) rfl rfl ?_
        show z_W 999 268 5 [(0, .ref 143), (1, .int (xs 1)), (2, .int (xs 2))] [.int (-11 : Int32)] m _
        refine w_p h_m268 4 (pc' := 11) (L' := [(3, .int (-11 : Int32)), (0, .ref 143), (1, .int (xs 1)), (2, .int (xs 2))]) (st' := [.int (-11 : Int32)]) rfl ?_
        refine w_ri h_m268 (z_at.mk 1 rfl rfl) rfl rfl ?_
        show z_W 1000 1000 1310 [(0, .ref 0), (1, .ref 39), (2, .ref 143), (3, .int (0 : Int32))] [.int (-11 : Int32), .int (-11 : Int32)] m _
        refine w_p h_m1000 5 (pc' := 20) (L' := [(0, .ref 0), (1, .ref 39), (2, .ref 143), (3, .int (6 : Int32))]) (st' := [.ref 0, .int (6 : Int32)]) rfl ?_
        refine w_lene H (x := (6 : Int32)) (pc' := 21) (L' := [(0, .ref 0), (1, .ref 39), (2, .ref 143), (3, .int (6 : Int32))]) h_m1000 (z_at.mk 1 rfl rfl) (by decide) rfl (by decide) rfl rfl rfl ?_
        refine w_p h_m1000 4 (pc' := 1381) (L' := [(0, .ref 0), (1, .ref 39), (2, .ref 143), (3, .int (6 : Int32))]) (st' := [.int (1 : Int32)]) rfl ?_
        refine w_ri h_m1000 (z_at.mk 1 rfl rfl) rfl rfl ?_
        exact hQ _ _ _ _ H (by decide) (by decide)
      have c_8 : (xs 1).toInt = 0 := by omega
      refine w_top (v' := .int (0 : Int32)) (congrArg Value.int (zi_lit (c := (xs 1).toInt) rfl c_8)) ?_
      refine w_al H (t := 0) (j := 0) (pc' := 15) (L' := [(0, .ref 134), (1, .int (xs 1))]) h_m59 (z_at.mk 1 rfl rfl) rfl rfl rfl (u := .int (-1 : Int32)) rfl rfl rfl ?_
      refine w_p h_m59 3 (pc' := 24) (L' := []) (st' := [.int (-11 : Int32)]) rfl ?_
      refine w_ri h_m59 (z_at.mk 1 rfl rfl) rfl rfl ?_
      show z_W 999 154 8 [(0, .ref 39), (1, .int (xs 1)), (2, .int (xs 2))] [.int (-11 : Int32)] m _
      refine w_p h_m154 5 (pc' := 33) (L' := []) (st' := [.int (-11 : Int32)]) rfl ?_
      refine w_ri h_m154 (z_at.mk 1 rfl rfl) rfl rfl ?_
      show z_W 1000 1000 1296 [(0, .ref 0), (1, .ref 39), (2, .ref 143), (3, .int (0 : Int32))] [.int (-11 : Int32)] m _
      refine w_p h_m1000 5 (pc' := 1301) (L' := [(0, .ref 0), (1, .ref 39), (2, .ref 143), (3, .int (0 : Int32))]) (st' := [.int (1 : Int32), .ref 0, .ref 143, .int (-11 : Int32)]) rfl ?_
      refine w_ae H (j := 1) (pc' := 1302) (L' := [(0, .ref 0), (1, .ref 39), (2, .ref 143), (3, .int (0 : Int32))]) h_m1000 (z_at.mk 1 rfl rfl) rfl rfl rfl (by decide) rfl (by decide) rfl rfl rfl ?_
      refine w_p h_m1000 4 (pc' := 1306) (L' := [(0, .ref 0), (1, .ref 39), (2, .ref 143), (3, .int (0 : Int32))]) (st' := [.int (2 : Int32), .ref 0, .int (xs 1), .ref 143, .int (-11 : Int32)]) rfl ?_
      refine w_ae H (j := 2) (pc' := 1307) (L' := [(0, .ref 0), (1, .ref 39), (2, .ref 143), (3, .int (0 : Int32))]) h_m1000 (z_at.mk 1 rfl rfl) rfl rfl rfl (by decide) rfl (by decide) rfl rfl rfl ?_
      refine w_cv (H.t rfl) (pc' := 1310) (L' := [(0, .ref 0), (1, .ref 39), (2, .ref 143), (3, .int (0 : Int32))]) (rest := [.int (-11 : Int32)]) (Ps := [.int (xs 1), .int (xs 2)]) (L0 := [(0, .ref 143), (1, .int (xs 1)), (2, .int (xs 2))]) h_m1000 (z_at.mk 3 rfl rfl) (Or.inl ⟨rfl, rfl⟩) rfl rfl (by decide) (by decide) rfl rfl rfl rfl rfl rfl (by decide) rfl rfl rfl ?_
      refine w_p h_m268 2 (pc' := 2) (L' := [(0, .ref 143), (1, .int (xs 1)), (2, .int (xs 2))]) (st' := [.int (xs 1), .ref 143]) rfl ?_
      refine w_cv (H.t rfl) (pc' := 5) (L' := [(0, .ref 143), (1, .int (xs 1)), (2, .int (xs 2))]) (rest := []) (Ps := [.int (xs 1)]) (L0 := [(0, .ref 143), (1, .int (xs 1))]) h_m268 (z_at.mk 3 rfl rfl) (Or.inl ⟨rfl, rfl⟩) rfl rfl (by decide) (by decide) rfl rfl rfl rfl rfl rfl (by decide) rfl rfl rfl ?_
      refine w_p h_m263 1 (pc' := 1) (L' := [(0, .ref 143), (1, .int (xs 1))]) (st' := [.int (xs 1)]) rfl ?_
      refine w_cs (As := [.int (xs 1)]) (rest := []) (j := 262) (L0 := [(0, .int (xs 1))]) (pc' := 4) (L' := [(0, .ref 143), (1, .int (xs 1))]) h_m263 (z_at.mk 3 rfl rfl) (Or.inl ⟨rfl, rfl⟩) rfl rfl rfl rfl rfl ?_
      refine w_p h_m262 3 (pc' := 3) (L' := [(0, .int (xs 1))]) (st' := [.int (5 : Int32), .int (0 : Int32), .int (xs 1)]) rfl ?_
      refine w_cs (As := [.int (xs 1), .int (0 : Int32), .int (5 : Int32)]) (rest := []) (j := 159) (L0 := [(0, .int (xs 1)), (1, .int (0 : Int32)), (2, .int (5 : Int32))]) (pc' := 6) (L' := [(0, .int (xs 1))]) h_m262 (z_at.mk 3 rfl rfl) (Or.inl ⟨rfl, rfl⟩) rfl rfl rfl rfl rfl ?_
      refine w_p h_m159 2 (pc' := 2) (L' := [(0, .int (xs 1)), (1, .int (0 : Int32)), (2, .int (5 : Int32))]) (st' := [.int (0 : Int32), .int (xs 1)]) rfl ?_
      refine w_f2 (pc' := 5) (L' := [(0, .int (xs 1)), (1, .int (0 : Int32)), (2, .int (5 : Int32))]) h_m159 (z_at.mk 3 rfl rfl) rfl (zc (a := (xs 1).toInt) (b := 0) rfl rfl (decide_eq_false (by omega))) rfl rfl ?_
      refine w_p h_m159 2 (pc' := 7) (L' := [(0, .int (xs 1)), (1, .int (0 : Int32)), (2, .int (5 : Int32))]) (st' := [.int (5 : Int32), .int (xs 1)]) rfl ?_
      refine w_f2 (pc' := 10) (L' := [(0, .int (xs 1)), (1, .int (0 : Int32)), (2, .int (5 : Int32))]) h_m159 (z_at.mk 3 rfl rfl) rfl (zc (a := (xs 1).toInt) (b := 5) rfl rfl (decide_eq_false (by omega))) rfl rfl ?_
      refine w_p h_m159 2 (pc' := 15) (L' := []) (st' := [.int (1 : Int32)]) rfl ?_
      refine w_ri h_m159 (z_at.mk 1 rfl rfl) rfl rfl ?_
      show z_W 997 262 6 [(0, .int (xs 1))] [.int (1 : Int32)] m _
      refine w_ri h_m262 (z_at.mk 1 rfl rfl) rfl rfl ?_
      show z_W 998 263 4 [(0, .ref 143), (1, .int (xs 1))] [.int (1 : Int32)] m _
      refine w_p h_m263 2 (pc' := 12) (L' := [(0, .ref 143), (1, .int (xs 1))]) (st' := [.ref 143]) rfl ?_
      refine w_gf H (pc' := 15) (L' := [(0, .ref 143), (1, .int (xs 1))]) h_m263 (z_at.mk 3 rfl rfl) rfl (u := .ref 166) rfl rfl rfl ?_
      refine w_p h_m263 1 (pc' := 16) (L' := [(0, .ref 143), (1, .int (xs 1))]) (st' := [.int (xs 1), .ref 166]) rfl ?_
      have c_9 : (xs 1).toInt = 0 := by omega
      refine w_top (v' := .int (0 : Int32)) (congrArg Value.int (zi_lit (c := (xs 1).toInt) rfl c_9)) ?_
      refine w_al H (t := 0) (j := 0) (pc' := 17) (L' := [(0, .ref 143), (1, .int (xs 1))]) h_m263 (z_at.mk 1 rfl rfl) rfl rfl rfl (u := .int (-1 : Int32)) rfl rfl rfl ?_
      refine w_p h_m263 3 (pc' := 26) (L' := []) (st' := [.int (-11 : Int32)]) rfl ?_
      refine w_ri h_m263 (z_at.mk 1 rfl rfl) rfl rfl ?_
      show z_W 999 268 5 [(0, .ref 143), (1, .int (xs 1)), (2, .int (xs 2))] [.int (-11 : Int32)] m _
      refine w_p h_m268 4 (pc' := 11) (L' := [(3, .int (-11 : Int32)), (0, .ref 143), (1, .int (xs 1)), (2, .int (xs 2))]) (st' := [.int (-11 : Int32)]) rfl ?_
      refine w_ri h_m268 (z_at.mk 1 rfl rfl) rfl rfl ?_
      show z_W 1000 1000 1310 [(0, .ref 0), (1, .ref 39), (2, .ref 143), (3, .int (0 : Int32))] [.int (-11 : Int32), .int (-11 : Int32)] m _
      refine w_p h_m1000 5 (pc' := 20) (L' := [(0, .ref 0), (1, .ref 39), (2, .ref 143), (3, .int (6 : Int32))]) (st' := [.ref 0, .int (6 : Int32)]) rfl ?_
      refine w_lene H (x := (6 : Int32)) (pc' := 21) (L' := [(0, .ref 0), (1, .ref 39), (2, .ref 143), (3, .int (6 : Int32))]) h_m1000 (z_at.mk 1 rfl rfl) (by decide) rfl (by decide) rfl rfl rfl ?_
      refine w_p h_m1000 4 (pc' := 1381) (L' := [(0, .ref 0), (1, .ref 39), (2, .ref 143), (3, .int (6 : Int32))]) (st' := [.int (1 : Int32)]) rfl ?_
      refine w_ri h_m1000 (z_at.mk 1 rfl rfl) rfl rfl ?_
      exact hQ _ _ _ _ H (by decide) (by decide)
    · refine w_t2 (pc' := 14) (L' := []) h_m58 (z_at.mk 3 rfl rfl) rfl (zc (a := (xs 1).toInt) (b := 6) rfl rfl (decide_eq_true (by omega))) rfl rfl ?_
      refine w_p h_m58 1 (pc' := 15) (L' := []) (st' := [.int (0 : Int32)]) rfl ?_
      refine w_ri h_m58 (z_at.mk 1 rfl rfl) rfl rfl ?_
      show z_W 998 59 4 [(0, .ref 134), (1, .int (xs 1))] [.int (0 : Int32)] m _
      refine w_p h_m59 2 (pc' := 8) (L' := [(0, .ref 134), (1, .int (xs 1))]) (st' := [.int (-1 : Int32)]) rfl ?_
      refine w_ri h_m59 (z_at.mk 1 rfl rfl) rfl rfl ?_
      show z_W 999 154 8 [(0, .ref 39), (1, .int (xs 1)), (2, .int (xs 2))] [.int (-1 : Int32)] m _
      refine w_p h_m154 5 (pc' := 33) (L' := []) (st' := [.int (-1 : Int32)]) rfl ?_
      refine w_ri h_m154 (z_at.mk 1 rfl rfl) rfl rfl ?_
      show z_W 1000 1000 1296 [(0, .ref 0), (1, .ref 39), (2, .ref 143), (3, .int (0 : Int32))] [.int (-1 : Int32)] m _
      refine w_p h_m1000 5 (pc' := 1301) (L' := [(0, .ref 0), (1, .ref 39), (2, .ref 143), (3, .int (0 : Int32))]) (st' := [.int (1 : Int32), .ref 0, .ref 143, .int (-1 : Int32)]) rfl ?_
      refine w_ae H (j := 1) (pc' := 1302) (L' := [(0, .ref 0), (1, .ref 39), (2, .ref 143), (3, .int (0 : Int32))]) h_m1000 (z_at.mk 1 rfl rfl) rfl rfl rfl (by decide) rfl (by decide) rfl rfl rfl ?_
      refine w_p h_m1000 4 (pc' := 1306) (L' := [(0, .ref 0), (1, .ref 39), (2, .ref 143), (3, .int (0 : Int32))]) (st' := [.int (2 : Int32), .ref 0, .int (xs 1), .ref 143, .int (-1 : Int32)]) rfl ?_
      refine w_ae H (j := 2) (pc' := 1307) (L' := [(0, .ref 0), (1, .ref 39), (2, .ref 143), (3, .int (0 : Int32))]) h_m1000 (z_at.mk 1 rfl rfl) rfl rfl rfl (by decide) rfl (by decide) rfl rfl rfl ?_
      refine w_cv (H.t rfl) (pc' := 1310) (L' := [(0, .ref 0), (1, .ref 39), (2, .ref 143), (3, .int (0 : Int32))]) (rest := [.int (-1 : Int32)]) (Ps := [.int (xs 1), .int (xs 2)]) (L0 := [(0, .ref 143), (1, .int (xs 1)), (2, .int (xs 2))]) h_m1000 (z_at.mk 3 rfl rfl) (Or.inl ⟨rfl, rfl⟩) rfl rfl (by decide) (by decide) rfl rfl rfl rfl rfl rfl (by decide) rfl rfl rfl ?_
      refine w_p h_m268 2 (pc' := 2) (L' := [(0, .ref 143), (1, .int (xs 1)), (2, .int (xs 2))]) (st' := [.int (xs 1), .ref 143]) rfl ?_
      refine w_cv (H.t rfl) (pc' := 5) (L' := [(0, .ref 143), (1, .int (xs 1)), (2, .int (xs 2))]) (rest := []) (Ps := [.int (xs 1)]) (L0 := [(0, .ref 143), (1, .int (xs 1))]) h_m268 (z_at.mk 3 rfl rfl) (Or.inl ⟨rfl, rfl⟩) rfl rfl (by decide) (by decide) rfl rfl rfl rfl rfl rfl (by decide) rfl rfl rfl ?_
      refine w_p h_m263 1 (pc' := 1) (L' := [(0, .ref 143), (1, .int (xs 1))]) (st' := [.int (xs 1)]) rfl ?_
      refine w_cs (As := [.int (xs 1)]) (rest := []) (j := 262) (L0 := [(0, .int (xs 1))]) (pc' := 4) (L' := [(0, .ref 143), (1, .int (xs 1))]) h_m263 (z_at.mk 3 rfl rfl) (Or.inl ⟨rfl, rfl⟩) rfl rfl rfl rfl rfl ?_
      refine w_p h_m262 3 (pc' := 3) (L' := [(0, .int (xs 1))]) (st' := [.int (5 : Int32), .int (0 : Int32), .int (xs 1)]) rfl ?_
      refine w_cs (As := [.int (xs 1), .int (0 : Int32), .int (5 : Int32)]) (rest := []) (j := 159) (L0 := [(0, .int (xs 1)), (1, .int (0 : Int32)), (2, .int (5 : Int32))]) (pc' := 6) (L' := [(0, .int (xs 1))]) h_m262 (z_at.mk 3 rfl rfl) (Or.inl ⟨rfl, rfl⟩) rfl rfl rfl rfl rfl ?_
      refine w_p h_m159 2 (pc' := 2) (L' := [(0, .int (xs 1)), (1, .int (0 : Int32)), (2, .int (5 : Int32))]) (st' := [.int (0 : Int32), .int (xs 1)]) rfl ?_
      refine w_f2 (pc' := 5) (L' := [(0, .int (xs 1)), (1, .int (0 : Int32)), (2, .int (5 : Int32))]) h_m159 (z_at.mk 3 rfl rfl) rfl (zc (a := (xs 1).toInt) (b := 0) rfl rfl (decide_eq_false (by omega))) rfl rfl ?_
      refine w_p h_m159 2 (pc' := 7) (L' := [(0, .int (xs 1)), (1, .int (0 : Int32)), (2, .int (5 : Int32))]) (st' := [.int (5 : Int32), .int (xs 1)]) rfl ?_
      refine w_t2 (pc' := 14) (L' := []) h_m159 (z_at.mk 3 rfl rfl) rfl (zc (a := (xs 1).toInt) (b := 5) rfl rfl (decide_eq_true (by omega))) rfl rfl ?_
      refine w_p h_m159 1 (pc' := 15) (L' := []) (st' := [.int (0 : Int32)]) rfl ?_
      refine w_ri h_m159 (z_at.mk 1 rfl rfl) rfl rfl ?_
      show z_W 997 262 6 [(0, .int (xs 1))] [.int (0 : Int32)] m _
      refine w_ri h_m262 (z_at.mk 1 rfl rfl) rfl rfl ?_
      show z_W 998 263 4 [(0, .ref 143), (1, .int (xs 1))] [.int (0 : Int32)] m _
      refine w_p h_m263 3 (pc' := 26) (L' := []) (st' := [.int (-1 : Int32)]) rfl ?_
      refine w_ri h_m263 (z_at.mk 1 rfl rfl) rfl rfl ?_
      show z_W 999 268 5 [(0, .ref 143), (1, .int (xs 1)), (2, .int (xs 2))] [.int (-1 : Int32)] m _
      refine w_p h_m268 4 (pc' := 11) (L' := [(3, .int (-1 : Int32)), (0, .ref 143), (1, .int (xs 1)), (2, .int (xs 2))]) (st' := [.int (-1 : Int32)]) rfl ?_
      refine w_ri h_m268 (z_at.mk 1 rfl rfl) rfl rfl ?_
      show z_W 1000 1000 1310 [(0, .ref 0), (1, .ref 39), (2, .ref 143), (3, .int (0 : Int32))] [.int (-1 : Int32), .int (-1 : Int32)] m _
      refine w_p h_m1000 5 (pc' := 20) (L' := [(0, .ref 0), (1, .ref 39), (2, .ref 143), (3, .int (6 : Int32))]) (st' := [.ref 0, .int (6 : Int32)]) rfl ?_
      refine w_lene H (x := (6 : Int32)) (pc' := 21) (L' := [(0, .ref 0), (1, .ref 39), (2, .ref 143), (3, .int (6 : Int32))]) h_m1000 (z_at.mk 1 rfl rfl) (by decide) rfl (by decide) rfl rfl rfl ?_
      refine w_p h_m1000 4 (pc' := 1381) (L' := [(0, .ref 0), (1, .ref 39), (2, .ref 143), (3, .int (6 : Int32))]) (st' := [.int (1 : Int32)]) rfl ?_
      refine w_ri h_m1000 (z_at.mk 1 rfl rfl) rfl rfl ?_
      exact hQ _ _ _ _ H (by decide) (by decide)
set_option maxHeartbeats 400000000 in
set_option maxRecDepth 20000 in
theorem w_c34 {xs : Nat → Int32} {m : zM} {Q : Option Value → zM → Prop} (H : w_ok 6 xs 168 63950 w_T0 m) (hQ : ∀ N S T m, w_ok 6 xs N S T m → N ≤ 600039 → S ≤ 7302250 → Q (some (.int 1)) m) : z_W 1000 1000 1315 [(0, .ref 0), (1, .ref 39), (2, .ref 143), (3, .int (0 : Int32))] [] m Q := by
  have b1 := zi_bd (xs 1)
  have b2 := zi_bd (xs 2)
  have b3 := zi_bd (xs 3)
  have b4 := zi_bd (xs 4)
  have b5 := zi_bd (xs 5)
  refine w_p h_m1000 5 (pc' := 1320) (L' := [(0, .ref 0), (1, .ref 39), (2, .ref 143), (3, .int (0 : Int32))]) (st' := [.int (1 : Int32), .ref 0, .ref 39]) rfl ?_
  refine w_ae H (j := 1) (pc' := 1321) (L' := [(0, .ref 0), (1, .ref 39), (2, .ref 143), (3, .int (0 : Int32))]) h_m1000 (z_at.mk 1 rfl rfl) rfl rfl rfl (by decide) rfl (by decide) rfl rfl rfl ?_
  refine w_p h_m1000 4 (pc' := 1325) (L' := [(0, .ref 0), (1, .ref 39), (2, .ref 143), (3, .int (0 : Int32))]) (st' := [.int (2 : Int32), .ref 0, .int (xs 1), .ref 39]) rfl ?_
  refine w_ae H (j := 2) (pc' := 1326) (L' := [(0, .ref 0), (1, .ref 39), (2, .ref 143), (3, .int (0 : Int32))]) h_m1000 (z_at.mk 1 rfl rfl) rfl rfl rfl (by decide) rfl (by decide) rfl rfl rfl ?_
  refine w_cv (H.t rfl) (pc' := 1329) (L' := [(0, .ref 0), (1, .ref 39), (2, .ref 143), (3, .int (0 : Int32))]) (rest := []) (Ps := [.int (xs 1), .int (xs 2)]) (L0 := [(0, .ref 39), (1, .int (xs 1)), (2, .int (xs 2))]) h_m1000 (z_at.mk 3 rfl rfl) (Or.inl ⟨rfl, rfl⟩) rfl rfl (by decide) (by decide) rfl rfl rfl rfl rfl rfl (by decide) rfl rfl rfl ?_
  refine w_p h_m155 1 (pc' := 1) (L' := [(0, .ref 39), (1, .int (xs 1)), (2, .int (xs 2))]) (st' := [.ref 39]) rfl ?_
  refine w_gf H (pc' := 4) (L' := [(0, .ref 39), (1, .int (xs 1)), (2, .int (xs 2))]) h_m155 (z_at.mk 3 rfl rfl) rfl (u := .ref 134) rfl rfl rfl ?_
  refine w_p h_m155 1 (pc' := 5) (L' := [(0, .ref 39), (1, .int (xs 1)), (2, .int (xs 2))]) (st' := [.int (xs 1), .ref 134]) rfl ?_
  refine w_cv (H.t rfl) (pc' := 8) (L' := [(0, .ref 39), (1, .int (xs 1)), (2, .int (xs 2))]) (rest := []) (Ps := [.int (xs 1)]) (L0 := [(0, .ref 134), (1, .int (xs 1))]) h_m155 (z_at.mk 3 rfl rfl) (Or.inl ⟨rfl, rfl⟩) rfl rfl (by decide) (by decide) rfl rfl rfl rfl rfl rfl (by decide) rfl rfl rfl ?_
  refine w_p h_m59 1 (pc' := 1) (L' := [(0, .ref 134), (1, .int (xs 1))]) (st' := [.int (xs 1)]) rfl ?_
  refine w_cs (As := [.int (xs 1)]) (rest := []) (j := 58) (L0 := [(0, .int (xs 1))]) (pc' := 4) (L' := [(0, .ref 134), (1, .int (xs 1))]) h_m59 (z_at.mk 3 rfl rfl) (Or.inl ⟨rfl, rfl⟩) rfl rfl rfl rfl rfl ?_
  refine w_p h_m58 1 (pc' := 1) (L' := [(0, .int (xs 1))]) (st' := [.int (xs 1)]) rfl ?_
  by_cases c_1 : (xs 1).toInt < 0
  · refine w_t1 (pc' := 14) (L' := []) h_m58 (z_at.mk 3 rfl rfl) rfl (zc (a := (xs 1).toInt) (b := 0) rfl rfl (decide_eq_true (by omega))) rfl rfl ?_
    refine w_p h_m58 1 (pc' := 15) (L' := []) (st' := [.int (0 : Int32)]) rfl ?_
    refine w_ri h_m58 (z_at.mk 1 rfl rfl) rfl rfl ?_
    show z_W 998 59 4 [(0, .ref 134), (1, .int (xs 1))] [.int (0 : Int32)] m _
    refine w_p h_m59 2 (pc' := 8) (L' := [(0, .ref 134), (1, .int (xs 1))]) (st' := [.int (-1 : Int32)]) rfl ?_
    refine w_ri h_m59 (z_at.mk 1 rfl rfl) rfl rfl ?_
    show z_W 999 155 8 [(0, .ref 39), (1, .int (xs 1)), (2, .int (xs 2))] [.int (-1 : Int32)] m _
    refine w_p h_m155 5 (pc' := 33) (L' := []) (st' := [.int (-1 : Int32)]) rfl ?_
    refine w_ri h_m155 (z_at.mk 1 rfl rfl) rfl rfl ?_
    show z_W 1000 1000 1329 [(0, .ref 0), (1, .ref 39), (2, .ref 143), (3, .int (0 : Int32))] [.int (-1 : Int32)] m _
    refine w_p h_m1000 5 (pc' := 1334) (L' := [(0, .ref 0), (1, .ref 39), (2, .ref 143), (3, .int (0 : Int32))]) (st' := [.int (1 : Int32), .ref 0, .ref 143, .int (-1 : Int32)]) rfl ?_
    refine w_ae H (j := 1) (pc' := 1335) (L' := [(0, .ref 0), (1, .ref 39), (2, .ref 143), (3, .int (0 : Int32))]) h_m1000 (z_at.mk 1 rfl rfl) rfl rfl rfl (by decide) rfl (by decide) rfl rfl rfl ?_
    refine w_p h_m1000 4 (pc' := 1339) (L' := [(0, .ref 0), (1, .ref 39), (2, .ref 143), (3, .int (0 : Int32))]) (st' := [.int (2 : Int32), .ref 0, .int (xs 1), .ref 143, .int (-1 : Int32)]) rfl ?_
    refine w_ae H (j := 2) (pc' := 1340) (L' := [(0, .ref 0), (1, .ref 39), (2, .ref 143), (3, .int (0 : Int32))]) h_m1000 (z_at.mk 1 rfl rfl) rfl rfl rfl (by decide) rfl (by decide) rfl rfl rfl ?_
    refine w_cv (H.t rfl) (pc' := 1343) (L' := [(0, .ref 0), (1, .ref 39), (2, .ref 143), (3, .int (0 : Int32))]) (rest := [.int (-1 : Int32)]) (Ps := [.int (xs 1), .int (xs 2)]) (L0 := [(0, .ref 143), (1, .int (xs 1)), (2, .int (xs 2))]) h_m1000 (z_at.mk 3 rfl rfl) (Or.inl ⟨rfl, rfl⟩) rfl rfl (by decide) (by decide) rfl rfl rfl rfl rfl rfl (by decide) rfl rfl rfl ?_
    refine w_p h_m269 2 (pc' := 2) (L' := [(0, .ref 143), (1, .int (xs 1)), (2, .int (xs 2))]) (st' := [.int (xs 1), .ref 143]) rfl ?_
    refine w_cv (H.t rfl) (pc' := 5) (L' := [(0, .ref 143), (1, .int (xs 1)), (2, .int (xs 2))]) (rest := []) (Ps := [.int (xs 1)]) (L0 := [(0, .ref 143), (1, .int (xs 1))]) h_m269 (z_at.mk 3 rfl rfl) (Or.inl ⟨rfl, rfl⟩) rfl rfl (by decide) (by decide) rfl rfl rfl rfl rfl rfl (by decide) rfl rfl rfl ?_
    refine w_p h_m263 1 (pc' := 1) (L' := [(0, .ref 143), (1, .int (xs 1))]) (st' := [.int (xs 1)]) rfl ?_
    refine w_cs (As := [.int (xs 1)]) (rest := []) (j := 262) (L0 := [(0, .int (xs 1))]) (pc' := 4) (L' := [(0, .ref 143), (1, .int (xs 1))]) h_m263 (z_at.mk 3 rfl rfl) (Or.inl ⟨rfl, rfl⟩) rfl rfl rfl rfl rfl ?_
    refine w_p h_m262 3 (pc' := 3) (L' := [(0, .int (xs 1))]) (st' := [.int (5 : Int32), .int (0 : Int32), .int (xs 1)]) rfl ?_
    refine w_cs (As := [.int (xs 1), .int (0 : Int32), .int (5 : Int32)]) (rest := []) (j := 159) (L0 := [(0, .int (xs 1)), (1, .int (0 : Int32)), (2, .int (5 : Int32))]) (pc' := 6) (L' := [(0, .int (xs 1))]) h_m262 (z_at.mk 3 rfl rfl) (Or.inl ⟨rfl, rfl⟩) rfl rfl rfl rfl rfl ?_
    refine w_p h_m159 2 (pc' := 2) (L' := [(0, .int (xs 1)), (1, .int (0 : Int32)), (2, .int (5 : Int32))]) (st' := [.int (0 : Int32), .int (xs 1)]) rfl ?_
    refine w_t2 (pc' := 14) (L' := []) h_m159 (z_at.mk 3 rfl rfl) rfl (zc (a := (xs 1).toInt) (b := 0) rfl rfl (decide_eq_true (by omega))) rfl rfl ?_
    refine w_p h_m159 1 (pc' := 15) (L' := []) (st' := [.int (0 : Int32)]) rfl ?_
    refine w_ri h_m159 (z_at.mk 1 rfl rfl) rfl rfl ?_
    show z_W 997 262 6 [(0, .int (xs 1))] [.int (0 : Int32)] m _
    refine w_ri h_m262 (z_at.mk 1 rfl rfl) rfl rfl ?_
    show z_W 998 263 4 [(0, .ref 143), (1, .int (xs 1))] [.int (0 : Int32)] m _
    refine w_p h_m263 3 (pc' := 26) (L' := []) (st' := [.int (-1 : Int32)]) rfl ?_
    refine w_ri h_m263 (z_at.mk 1 rfl rfl) rfl rfl ?_
    show z_W 999 269 5 [(0, .ref 143), (1, .int (xs 1)), (2, .int (xs 2))] [.int (-1 : Int32)] m _
    refine w_p h_m269 4 (pc' := 11) (L' := [(3, .int (-1 : Int32)), (0, .ref 143), (1, .int (xs 1)), (2, .int (xs 2))]) (st' := [.int (-1 : Int32)]) rfl ?_
    refine w_ri h_m269 (z_at.mk 1 rfl rfl) rfl rfl ?_
    show z_W 1000 1000 1343 [(0, .ref 0), (1, .ref 39), (2, .ref 143), (3, .int (0 : Int32))] [.int (-1 : Int32), .int (-1 : Int32)] m _
    refine w_p h_m1000 5 (pc' := 20) (L' := [(0, .ref 0), (1, .ref 39), (2, .ref 143), (3, .int (6 : Int32))]) (st' := [.ref 0, .int (6 : Int32)]) rfl ?_
    refine w_lene H (x := (6 : Int32)) (pc' := 21) (L' := [(0, .ref 0), (1, .ref 39), (2, .ref 143), (3, .int (6 : Int32))]) h_m1000 (z_at.mk 1 rfl rfl) (by decide) rfl (by decide) rfl rfl rfl ?_
    refine w_p h_m1000 4 (pc' := 1381) (L' := [(0, .ref 0), (1, .ref 39), (2, .ref 143), (3, .int (6 : Int32))]) (st' := [.int (1 : Int32)]) rfl ?_
    refine w_ri h_m1000 (z_at.mk 1 rfl rfl) rfl rfl ?_
    exact hQ _ _ _ _ H (by decide) (by decide)
  · refine w_f1 (pc' := 4) (L' := [(0, .int (xs 1))]) h_m58 (z_at.mk 3 rfl rfl) rfl (zc (a := (xs 1).toInt) (b := 0) rfl rfl (decide_eq_false (by omega))) rfl rfl ?_
    refine w_p h_m58 2 (pc' := 7) (L' := [(0, .int (xs 1))]) (st' := [.int (6 : Int32), .int (xs 1)]) rfl ?_
    by_cases c_2 : (xs 1).toInt < 6
    · refine w_f2 (pc' := 10) (L' := [(0, .int (xs 1))]) h_m58 (z_at.mk 3 rfl rfl) rfl (zc (a := (xs 1).toInt) (b := 6) rfl rfl (decide_eq_false (by omega))) rfl rfl ?_
      refine w_p h_m58 2 (pc' := 15) (L' := []) (st' := [.int (1 : Int32)]) rfl ?_
      refine w_ri h_m58 (z_at.mk 1 rfl rfl) rfl rfl ?_
      show z_W 998 59 4 [(0, .ref 134), (1, .int (xs 1))] [.int (1 : Int32)] m _
      refine w_p h_m59 2 (pc' := 10) (L' := [(0, .ref 134), (1, .int (xs 1))]) (st' := [.ref 134]) rfl ?_
      refine w_gf H (pc' := 13) (L' := [(0, .ref 134), (1, .int (xs 1))]) h_m59 (z_at.mk 3 rfl rfl) rfl (u := .ref 142) rfl rfl rfl ?_
      refine w_p h_m59 1 (pc' := 14) (L' := [(0, .ref 134), (1, .int (xs 1))]) (st' := [.int (xs 1), .ref 142]) rfl ?_
      by_cases c_3 : (xs 1).toInt = 5
      · refine w_top (v' := .int (5 : Int32)) (congrArg Value.int (zi_lit (c := (xs 1).toInt) rfl c_3)) ?_
        refine w_al H (t := 0) (j := 5) (pc' := 15) (L' := [(0, .ref 134), (1, .int (xs 1))]) h_m59 (z_at.mk 1 rfl rfl) rfl rfl rfl (u := .int (-1 : Int32)) rfl rfl rfl ?_
        refine w_p h_m59 3 (pc' := 24) (L' := []) (st' := [.int (-11 : Int32)]) rfl ?_
        refine w_ri h_m59 (z_at.mk 1 rfl rfl) rfl rfl ?_
        show z_W 999 155 8 [(0, .ref 39), (1, .int (xs 1)), (2, .int (xs 2))] [.int (-11 : Int32)] m _
        refine w_p h_m155 5 (pc' := 33) (L' := []) (st' := [.int (-11 : Int32)]) rfl ?_
        refine w_ri h_m155 (z_at.mk 1 rfl rfl) rfl rfl ?_
        show z_W 1000 1000 1329 [(0, .ref 0), (1, .ref 39), (2, .ref 143), (3, .int (0 : Int32))] [.int (-11 : Int32)] m _
        refine w_p h_m1000 5 (pc' := 1334) (L' := [(0, .ref 0), (1, .ref 39), (2, .ref 143), (3, .int (0 : Int32))]) (st' := [.int (1 : Int32), .ref 0, .ref 143, .int (-11 : Int32)]) rfl ?_
        refine w_ae H (j := 1) (pc' := 1335) (L' := [(0, .ref 0), (1, .ref 39), (2, .ref 143), (3, .int (0 : Int32))]) h_m1000 (z_at.mk 1 rfl rfl) rfl rfl rfl (by decide) rfl (by decide) rfl rfl rfl ?_
        refine w_p h_m1000 4 (pc' := 1339) (L' := [(0, .ref 0), (1, .ref 39), (2, .ref 143), (3, .int (0 : Int32))]) (st' := [.int (2 : Int32), .ref 0, .int (xs 1), .ref 143, .int (-11 : Int32)]) rfl ?_
        refine w_ae H (j := 2) (pc' := 1340) (L' := [(0, .ref 0), (1, .ref 39), (2, .ref 143), (3, .int (0 : Int32))]) h_m1000 (z_at.mk 1 rfl rfl) rfl rfl rfl (by decide) rfl (by decide) rfl rfl rfl ?_
        refine w_cv (H.t rfl) (pc' := 1343) (L' := [(0, .ref 0), (1, .ref 39), (2, .ref 143), (3, .int (0 : Int32))]) (rest := [.int (-11 : Int32)]) (Ps := [.int (xs 1), .int (xs 2)]) (L0 := [(0, .ref 143), (1, .int (xs 1)), (2, .int (xs 2))]) h_m1000 (z_at.mk 3 rfl rfl) (Or.inl ⟨rfl, rfl⟩) rfl rfl (by decide) (by decide) rfl rfl rfl rfl rfl rfl (by decide) rfl rfl rfl ?_
        refine w_p h_m269 2 (pc' := 2) (L' := [(0, .ref 143), (1, .int (xs 1)), (2, .int (xs 2))]) (st' := [.int (xs 1), .ref 143]) rfl ?_
        refine w_cv (H.t rfl) (pc' := 5) (L' := [(0, .ref 143), (1, .int (xs 1)), (2, .int (xs 2))]) (rest := []) (Ps := [.int (xs 1)]) (L0 := [(0, .ref 143), (1, .int (xs 1))]) h_m269 (z_at.mk 3 rfl rfl) (Or.inl ⟨rfl, rfl⟩) rfl rfl (by decide) (by decide) rfl rfl rfl rfl rfl rfl (by decide) rfl rfl rfl ?_
        refine w_p h_m263 1 (pc' := 1) (L' := [(0, .ref 143), (1, .int (xs 1))]) (st' := [.int (xs 1)]) rfl ?_
        refine w_cs (As := [.int (xs 1)]) (rest := []) (j := 262) (L0 := [(0, .int (xs 1))]) (pc' := 4) (L' := [(0, .ref 143), (1, .int (xs 1))]) h_m263 (z_at.mk 3 rfl rfl) (Or.inl ⟨rfl, rfl⟩) rfl rfl rfl rfl rfl ?_
        refine w_p h_m262 3 (pc' := 3) (L' := [(0, .int (xs 1))]) (st' := [.int (5 : Int32), .int (0 : Int32), .int (xs 1)]) rfl ?_
        refine w_cs (As := [.int (xs 1), .int (0 : Int32), .int (5 : Int32)]) (rest := []) (j := 159) (L0 := [(0, .int (xs 1)), (1, .int (0 : Int32)), (2, .int (5 : Int32))]) (pc' := 6) (L' := [(0, .int (xs 1))]) h_m262 (z_at.mk 3 rfl rfl) (Or.inl ⟨rfl, rfl⟩) rfl rfl rfl rfl rfl ?_
        refine w_p h_m159 2 (pc' := 2) (L' := [(0, .int (xs 1)), (1, .int (0 : Int32)), (2, .int (5 : Int32))]) (st' := [.int (0 : Int32), .int (xs 1)]) rfl ?_
        refine w_f2 (pc' := 5) (L' := [(0, .int (xs 1)), (1, .int (0 : Int32)), (2, .int (5 : Int32))]) h_m159 (z_at.mk 3 rfl rfl) rfl (zc (a := (xs 1).toInt) (b := 0) rfl rfl (decide_eq_false (by omega))) rfl rfl ?_
        refine w_p h_m159 2 (pc' := 7) (L' := [(0, .int (xs 1)), (1, .int (0 : Int32)), (2, .int (5 : Int32))]) (st' := [.int (5 : Int32), .int (xs 1)]) rfl ?_
        refine w_f2 (pc' := 10) (L' := [(0, .int (xs 1)), (1, .int (0 : Int32)), (2, .int (5 : Int32))]) h_m159 (z_at.mk 3 rfl rfl) rfl (zc (a := (xs 1).toInt) (b := 5) rfl rfl (decide_eq_false (by omega))) rfl rfl ?_
        refine w_p h_m159 2 (pc' := 15) (L' := []) (st' := [.int (1 : Int32)]) rfl ?_
        refine w_ri h_m159 (z_at.mk 1 rfl rfl) rfl rfl ?_
        show z_W 997 262 6 [(0, .int (xs 1))] [.int (1 : Int32)] m _
        refine w_ri h_m262 (z_at.mk 1 rfl rfl) rfl rfl ?_
        show z_W 998 263 4 [(0, .ref 143), (1, .int (xs 1))] [.int (1 : Int32)] m _
        refine w_p h_m263 2 (pc' := 12) (L' := [(0, .ref 143), (1, .int (xs 1))]) (st' := [.ref 143]) rfl ?_
        refine w_gf H (pc' := 15) (L' := [(0, .ref 143), (1, .int (xs 1))]) h_m263 (z_at.mk 3 rfl rfl) rfl (u := .ref 166) rfl rfl rfl ?_
        refine w_p h_m263 1 (pc' := 16) (L' := [(0, .ref 143), (1, .int (xs 1))]) (st' := [.int (xs 1), .ref 166]) rfl ?_
        have c_4 : (xs 1).toInt = 5 := by omega
        refine w_top (v' := .int (5 : Int32)) (congrArg Value.int (zi_lit (c := (xs 1).toInt) rfl c_4)) ?_
        refine w_al H (t := 0) (j := 5) (pc' := 17) (L' := [(0, .ref 143), (1, .int (xs 1))]) h_m263 (z_at.mk 1 rfl rfl) rfl rfl rfl (u := .int (-1 : Int32)) rfl rfl rfl ?_
        refine w_p h_m263 3 (pc' := 26) (L' := []) (st' := [.int (-11 : Int32)]) rfl ?_
        refine w_ri h_m263 (z_at.mk 1 rfl rfl) rfl rfl ?_
        show z_W 999 269 5 [(0, .ref 143), (1, .int (xs 1)), (2, .int (xs 2))] [.int (-11 : Int32)] m _
        refine w_p h_m269 4 (pc' := 11) (L' := [(3, .int (-11 : Int32)), (0, .ref 143), (1, .int (xs 1)), (2, .int (xs 2))]) (st' := [.int (-11 : Int32)]) rfl ?_
        refine w_ri h_m269 (z_at.mk 1 rfl rfl) rfl rfl ?_
        show z_W 1000 1000 1343 [(0, .ref 0), (1, .ref 39), (2, .ref 143), (3, .int (0 : Int32))] [.int (-11 : Int32), .int (-11 : Int32)] m _
        refine w_p h_m1000 5 (pc' := 20) (L' := [(0, .ref 0), (1, .ref 39), (2, .ref 143), (3, .int (6 : Int32))]) (st' := [.ref 0, .int (6 : Int32)]) rfl ?_
        refine w_lene H (x := (6 : Int32)) (pc' := 21) (L' := [(0, .ref 0), (1, .ref 39), (2, .ref 143), (3, .int (6 : Int32))]) h_m1000 (z_at.mk 1 rfl rfl) (by decide) rfl (by decide) rfl rfl rfl ?_
        refine w_p h_m1000 4 (pc' := 1381) (L' := [(0, .ref 0), (1, .ref 39), (2, .ref 143), (3, .int (6 : Int32))]) (st' := [.int (1 : Int32)]) rfl ?_
        refine w_ri h_m1000 (z_at.mk 1 rfl rfl) rfl rfl ?_
        exact hQ _ _ _ _ H (by decide) (by decide)
      by_cases c_4 : (xs 1).toInt = 4
      · refine w_top (v' := .int (4 : Int32)) (congrArg Value.int (zi_lit (c := (xs 1).toInt) rfl c_4)) ?_
        refine w_al H (t := 0) (j := 4) (pc' := 15) (L' := [(0, .ref 134), (1, .int (xs 1))]) h_m59 (z_at.mk 1 rfl rfl) rfl rfl rfl (u := .int (-1 : Int32)) rfl rfl rfl ?_
        refine w_p h_m59 3 (pc' := 24) (L' := []) (st' := [.int (-11 : Int32)]) rfl ?_
        refine w_ri h_m59 (z_at.mk 1 rfl rfl) rfl rfl ?_
        show z_W 999 155 8 [(0, .ref 39), (1, .int (xs 1)), (2, .int (xs 2))] [.int (-11 : Int32)] m _
        refine w_p h_m155 5 (pc' := 33) (L' := []) (st' := [.int (-11 : Int32)]) rfl ?_
        refine w_ri h_m155 (z_at.mk 1 rfl rfl) rfl rfl ?_
        show z_W 1000 1000 1329 [(0, .ref 0), (1, .ref 39), (2, .ref 143), (3, .int (0 : Int32))] [.int (-11 : Int32)] m _
        refine w_p h_m1000 5 (pc' := 1334) (L' := [(0, .ref 0), (1, .ref 39), (2, .ref 143), (3, .int (0 : Int32))]) (st' := [.int (1 : Int32), .ref 0, .ref 143, .int (-11 : Int32)]) rfl ?_
        refine w_ae H (j := 1) (pc' := 1335) (L' := [(0, .ref 0), (1, .ref 39), (2, .ref 143), (3, .int (0 : Int32))]) h_m1000 (z_at.mk 1 rfl rfl) rfl rfl rfl (by decide) rfl (by decide) rfl rfl rfl ?_
        refine w_p h_m1000 4 (pc' := 1339) (L' := [(0, .ref 0), (1, .ref 39), (2, .ref 143), (3, .int (0 : Int32))]) (st' := [.int (2 : Int32), .ref 0, .int (xs 1), .ref 143, .int (-11 : Int32)]) rfl ?_
        refine w_ae H (j := 2) (pc' := 1340) (L' := [(0, .ref 0), (1, .ref 39), (2, .ref 143), (3, .int (0 : Int32))]) h_m1000 (z_at.mk 1 rfl rfl) rfl rfl rfl (by decide) rfl (by decide) rfl rfl rfl ?_
        refine w_cv (H.t rfl) (pc' := 1343) (L' := [(0, .ref 0), (1, .ref 39), (2, .ref 143), (3, .int (0 : Int32))]) (rest := [.int (-11 : Int32)]) (Ps := [.int (xs 1), .int (xs 2)]) (L0 := [(0, .ref 143), (1, .int (xs 1)), (2, .int (xs 2))]) h_m1000 (z_at.mk 3 rfl rfl) (Or.inl ⟨rfl, rfl⟩) rfl rfl (by decide) (by decide) rfl rfl rfl rfl rfl rfl (by decide) rfl rfl rfl ?_
        refine w_p h_m269 2 (pc' := 2) (L' := [(0, .ref 143), (1, .int (xs 1)), (2, .int (xs 2))]) (st' := [.int (xs 1), .ref 143]) rfl ?_
        refine w_cv (H.t rfl) (pc' := 5) (L' := [(0, .ref 143), (1, .int (xs 1)), (2, .int (xs 2))]) (rest := []) (Ps := [.int (xs 1)]) (L0 := [(0, .ref 143), (1, .int (xs 1))]) h_m269 (z_at.mk 3 rfl rfl) (Or.inl ⟨rfl, rfl⟩) rfl rfl (by decide) (by decide) rfl rfl rfl rfl rfl rfl (by decide) rfl rfl rfl ?_
        refine w_p h_m263 1 (pc' := 1) (L' := [(0, .ref 143), (1, .int (xs 1))]) (st' := [.int (xs 1)]) rfl ?_
        refine w_cs (As := [.int (xs 1)]) (rest := []) (j := 262) (L0 := [(0, .int (xs 1))]) (pc' := 4) (L' := [(0, .ref 143), (1, .int (xs 1))]) h_m263 (z_at.mk 3 rfl rfl) (Or.inl ⟨rfl, rfl⟩) rfl rfl rfl rfl rfl ?_
        refine w_p h_m262 3 (pc' := 3) (L' := [(0, .int (xs 1))]) (st' := [.int (5 : Int32), .int (0 : Int32), .int (xs 1)]) rfl ?_
        refine w_cs (As := [.int (xs 1), .int (0 : Int32), .int (5 : Int32)]) (rest := []) (j := 159) (L0 := [(0, .int (xs 1)), (1, .int (0 : Int32)), (2, .int (5 : Int32))]) (pc' := 6) (L' := [(0, .int (xs 1))]) h_m262 (z_at.mk 3 rfl rfl) (Or.inl ⟨rfl, rfl⟩) rfl rfl rfl rfl rfl ?_
        refine w_p h_m159 2 (pc' := 2) (L' := [(0, .int (xs 1)), (1, .int (0 : Int32)), (2, .int (5 : Int32))]) (st' := [.int (0 : Int32), .int (xs 1)]) rfl ?_
        refine w_f2 (pc' := 5) (L' := [(0, .int (xs 1)), (1, .int (0 : Int32)), (2, .int (5 : Int32))]) h_m159 (z_at.mk 3 rfl rfl) rfl (zc (a := (xs 1).toInt) (b := 0) rfl rfl (decide_eq_false (by omega))) rfl rfl ?_
        refine w_p h_m159 2 (pc' := 7) (L' := [(0, .int (xs 1)), (1, .int (0 : Int32)), (2, .int (5 : Int32))]) (st' := [.int (5 : Int32), .int (xs 1)]) rfl ?_
        refine w_f2 (pc' := 10) (L' := [(0, .int (xs 1)), (1, .int (0 : Int32)), (2, .int (5 : Int32))]) h_m159 (z_at.mk 3 rfl rfl) rfl (zc (a := (xs 1).toInt) (b := 5) rfl rfl (decide_eq_false (by omega))) rfl rfl ?_
        refine w_p h_m159 2 (pc' := 15) (L' := []) (st' := [.int (1 : Int32)]) rfl ?_
        refine w_ri h_m159 (z_at.mk 1 rfl rfl) rfl rfl ?_
        show z_W 997 262 6 [(0, .int (xs 1))] [.int (1 : Int32)] m _
        refine w_ri h_m262 (z_at.mk 1 rfl rfl) rfl rfl ?_
        show z_W 998 263 4 [(0, .ref 143), (1, .int (xs 1))] [.int (1 : Int32)] m _
        refine w_p h_m263 2 (pc' := 12) (L' := [(0, .ref 143), (1, .int (xs 1))]) (st' := [.ref 143]) rfl ?_
        refine w_gf H (pc' := 15) (L' := [(0, .ref 143), (1, .int (xs 1))]) h_m263 (z_at.mk 3 rfl rfl) rfl (u := .ref 166) rfl rfl rfl ?_
        refine w_p h_m263 1 (pc' := 16) (L' := [(0, .ref 143), (1, .int (xs 1))]) (st' := [.int (xs 1), .ref 166]) rfl ?_
        have c_5 : (xs 1).toInt = 4 := by omega
        refine w_top (v' := .int (4 : Int32)) (congrArg Value.int (zi_lit (c := (xs 1).toInt) rfl c_5)) ?_
        refine w_al H (t := 0) (j := 4) (pc' := 17) (L' := [(0, .ref 143), (1, .int (xs 1))]) h_m263 (z_at.mk 1 rfl rfl) rfl rfl rfl (u := .int (-1 : Int32)) rfl rfl rfl ?_
        refine w_p h_m263 3 (pc' := 26) (L' := []) (st' := [.int (-11 : Int32)]) rfl ?_
        refine w_ri h_m263 (z_at.mk 1 rfl rfl) rfl rfl ?_
        show z_W 999 269 5 [(0, .ref 143), (1, .int (xs 1)), (2, .int (xs 2))] [.int (-11 : Int32)] m _
        refine w_p h_m269 4 (pc' := 11) (L' := [(3, .int (-11 : Int32)), (0, .ref 143), (1, .int (xs 1)), (2, .int (xs 2))]) (st' := [.int (-11 : Int32)]) rfl ?_
        refine w_ri h_m269 (z_at.mk 1 rfl rfl) rfl rfl ?_
        show z_W 1000 1000 1343 [(0, .ref 0), (1, .ref 39), (2, .ref 143), (3, .int (0 : Int32))] [.int (-11 : Int32), .int (-11 : Int32)] m _
        refine w_p h_m1000 5 (pc' := 20) (L' := [(0, .ref 0), (1, .ref 39), (2, .ref 143), (3, .int (6 : Int32))]) (st' := [.ref 0, .int (6 : Int32)]) rfl ?_
        refine w_lene H (x := (6 : Int32)) (pc' := 21) (L' := [(0, .ref 0), (1, .ref 39), (2, .ref 143), (3, .int (6 : Int32))]) h_m1000 (z_at.mk 1 rfl rfl) (by decide) rfl (by decide) rfl rfl rfl ?_
        refine w_p h_m1000 4 (pc' := 1381) (L' := [(0, .ref 0), (1, .ref 39), (2, .ref 143), (3, .int (6 : Int32))]) (st' := [.int (1 : Int32)]) rfl ?_
        refine w_ri h_m1000 (z_at.mk 1 rfl rfl) rfl rfl ?_
        exact hQ _ _ _ _ H (by decide) (by decide)
      by_cases c_5 : (xs 1).toInt = 3
      · refine w_top (v' := .int (3 : Int32)) (congrArg Value.int (zi_lit (c := (xs 1).toInt) rfl c_5)) ?_
        refine w_al H (t := 0) (j := 3) (pc' := 15) (L' := [(0, .ref 134), (1, .int (xs 1))]) h_m59 (z_at.mk 1 rfl rfl) rfl rfl rfl (u := .int (-1 : Int32)) rfl rfl rfl ?_
        refine w_p h_m59 3 (pc' := 24) (L' := []) (st' := [.int (-11 : Int32)]) rfl ?_
        refine w_ri h_m59 (z_at.mk 1 rfl rfl) rfl rfl ?_
        show z_W 999 155 8 [(0, .ref 39), (1, .int (xs 1)), (2, .int (xs 2))] [.int (-11 : Int32)] m _
        refine w_p h_m155 5 (pc' := 33) (L' := []) (st' := [.int (-11 : Int32)]) rfl ?_
        refine w_ri h_m155 (z_at.mk 1 rfl rfl) rfl rfl ?_
        show z_W 1000 1000 1329 [(0, .ref 0), (1, .ref 39), (2, .ref 143), (3, .int (0 : Int32))] [.int (-11 : Int32)] m _
        refine w_p h_m1000 5 (pc' := 1334) (L' := [(0, .ref 0), (1, .ref 39), (2, .ref 143), (3, .int (0 : Int32))]) (st' := [.int (1 : Int32), .ref 0, .ref 143, .int (-11 : Int32)]) rfl ?_
        refine w_ae H (j := 1) (pc' := 1335) (L' := [(0, .ref 0), (1, .ref 39), (2, .ref 143), (3, .int (0 : Int32))]) h_m1000 (z_at.mk 1 rfl rfl) rfl rfl rfl (by decide) rfl (by decide) rfl rfl rfl ?_
        refine w_p h_m1000 4 (pc' := 1339) (L' := [(0, .ref 0), (1, .ref 39), (2, .ref 143), (3, .int (0 : Int32))]) (st' := [.int (2 : Int32), .ref 0, .int (xs 1), .ref 143, .int (-11 : Int32)]) rfl ?_
        refine w_ae H (j := 2) (pc' := 1340) (L' := [(0, .ref 0), (1, .ref 39), (2, .ref 143), (3, .int (0 : Int32))]) h_m1000 (z_at.mk 1 rfl rfl) rfl rfl rfl (by decide) rfl (by decide) rfl rfl rfl ?_
        refine w_cv (H.t rfl) (pc' := 1343) (L' := [(0, .ref 0), (1, .ref 39), (2, .ref 143), (3, .int (0 : Int32))]) (rest := [.int (-11 : Int32)]) (Ps := [.int (xs 1), .int (xs 2)]) (L0 := [(0, .ref 143), (1, .int (xs 1)), (2, .int (xs 2))]) h_m1000 (z_at.mk 3 rfl rfl) (Or.inl ⟨rfl, rfl⟩) rfl rfl (by decide) (by decide) rfl rfl rfl rfl rfl rfl (by decide) rfl rfl rfl ?_
        refine w_p h_m269 2 (pc' := 2) (L' := [(0, .ref 143), (1, .int (xs 1)), (2, .int (xs 2))]) (st' := [.int (xs 1), .ref 143]) rfl ?_
        refine w_cv (H.t rfl) (pc' := 5) (L' := [(0, .ref 143), (1, .int (xs 1)), (2, .int (xs 2))]) (rest := []) (Ps := [.int (xs 1)]) (L0 := [(0, .ref 143), (1, .int (xs 1))]) h_m269 (z_at.mk 3 rfl rfl) (Or.inl ⟨rfl, rfl⟩) rfl rfl (by decide) (by decide) rfl rfl rfl rfl rfl rfl (by decide) rfl rfl rfl ?_
        refine w_p h_m263 1 (pc' := 1) (L' := [(0, .ref 143), (1, .int (xs 1))]) (st' := [.int (xs 1)]) rfl ?_
        refine w_cs (As := [.int (xs 1)]) (rest := []) (j := 262) (L0 := [(0, .int (xs 1))]) (pc' := 4) (L' := [(0, .ref 143), (1, .int (xs 1))]) h_m263 (z_at.mk 3 rfl rfl) (Or.inl ⟨rfl, rfl⟩) rfl rfl rfl rfl rfl ?_
        refine w_p h_m262 3 (pc' := 3) (L' := [(0, .int (xs 1))]) (st' := [.int (5 : Int32), .int (0 : Int32), .int (xs 1)]) rfl ?_
        refine w_cs (As := [.int (xs 1), .int (0 : Int32), .int (5 : Int32)]) (rest := []) (j := 159) (L0 := [(0, .int (xs 1)), (1, .int (0 : Int32)), (2, .int (5 : Int32))]) (pc' := 6) (L' := [(0, .int (xs 1))]) h_m262 (z_at.mk 3 rfl rfl) (Or.inl ⟨rfl, rfl⟩) rfl rfl rfl rfl rfl ?_
        refine w_p h_m159 2 (pc' := 2) (L' := [(0, .int (xs 1)), (1, .int (0 : Int32)), (2, .int (5 : Int32))]) (st' := [.int (0 : Int32), .int (xs 1)]) rfl ?_
        refine w_f2 (pc' := 5) (L' := [(0, .int (xs 1)), (1, .int (0 : Int32)), (2, .int (5 : Int32))]) h_m159 (z_at.mk 3 rfl rfl) rfl (zc (a := (xs 1).toInt) (b := 0) rfl rfl (decide_eq_false (by omega))) rfl rfl ?_
        refine w_p h_m159 2 (pc' := 7) (L' := [(0, .int (xs 1)), (1, .int (0 : Int32)), (2, .int (5 : Int32))]) (st' := [.int (5 : Int32), .int (xs 1)]) rfl ?_
        refine w_f2 (pc' := 10) (L' := [(0, .int (xs 1)), (1, .int (0 : Int32)), (2, .int (5 : Int32))]) h_m159 (z_at.mk 3 rfl rfl) rfl (zc (a := (xs 1).toInt) (b := 5) rfl rfl (decide_eq_false (by omega))) rfl rfl ?_
        refine w_p h_m159 2 (pc' := 15) (L' := []) (st' := [.int (1 : Int32)]) rfl ?_
        refine w_ri h_m159 (z_at.mk 1 rfl rfl) rfl rfl ?_
        show z_W 997 262 6 [(0, .int (xs 1))] [.int (1 : Int32)] m _
        refine w_ri h_m262 (z_at.mk 1 rfl rfl) rfl rfl ?_
        show z_W 998 263 4 [(0, .ref 143), (1, .int (xs 1))] [.int (1 : Int32)] m _
        refine w_p h_m263 2 (pc' := 12) (L' := [(0, .ref 143), (1, .int (xs 1))]) (st' := [.ref 143]) rfl ?_
        refine w_gf H (pc' := 15) (L' := [(0, .ref 143), (1, .int (xs 1))]) h_m263 (z_at.mk 3 rfl rfl) rfl (u := .ref 166) rfl rfl rfl ?_
        refine w_p h_m263 1 (pc' := 16) (L' := [(0, .ref 143), (1, .int (xs 1))]) (st' := [.int (xs 1), .ref 166]) rfl ?_
        have c_6 : (xs 1).toInt = 3 := by omega
        refine w_top (v' := .int (3 : Int32)) (congrArg Value.int (zi_lit (c := (xs 1).toInt) rfl c_6)) ?_
        refine w_al H (t := 0) (j := 3) (pc' := 17) (L' := [(0, .ref 143), (1, .int (xs 1))]) h_m263 (z_at.mk 1 rfl rfl) rfl rfl rfl (u := .int (-1 : Int32)) rfl rfl rfl ?_
        refine w_p h_m263 3 (pc' := 26) (L' := []) (st' := [.int (-11 : Int32)]) rfl ?_
        refine w_ri h_m263 (z_at.mk 1 rfl rfl) rfl rfl ?_
        show z_W 999 269 5 [(0, .ref 143), (1, .int (xs 1)), (2, .int (xs 2))] [.int (-11 : Int32)] m _
        refine w_p h_m269 4 (pc' := 11) (L' := [(3, .int (-11 : Int32)), (0, .ref 143), (1, .int (xs 1)), (2, .int (xs 2))]) (st' := [.int (-11 : Int32)]) rfl ?_
        refine w_ri h_m269 (z_at.mk 1 rfl rfl) rfl rfl ?_
        show z_W 1000 1000 1343 [(0, .ref 0), (1, .ref 39), (2, .ref 143), (3, .int (0 : Int32))] [.int (-11 : Int32), .int (-11 : Int32)] m _
        refine w_p h_m1000 5 (pc' := 20) (L' := [(0, .ref 0), (1, .ref 39), (2, .ref 143), (3, .int (6 : Int32))]) (st' := [.ref 0, .int (6 : Int32)]) rfl ?_
        refine w_lene H (x := (6 : Int32)) (pc' := 21) (L' := [(0, .ref 0), (1, .ref 39), (2, .ref 143), (3, .int (6 : Int32))]) h_m1000 (z_at.mk 1 rfl rfl) (by decide) rfl (by decide) rfl rfl rfl ?_
        refine w_p h_m1000 4 (pc' := 1381) (L' := [(0, .ref 0), (1, .ref 39), (2, .ref 143), (3, .int (6 : Int32))]) (st' := [.int (1 : Int32)]) rfl ?_
        refine w_ri h_m1000 (z_at.mk 1 rfl rfl) rfl rfl ?_
        exact hQ _ _ _ _ H (by decide) (by decide)
      by_cases c_6 : (xs 1).toInt = 2
      · refine w_top (v' := .int (2 : Int32)) (congrArg Value.int (zi_lit (c := (xs 1).toInt) rfl c_6)) ?_
        refine w_al H (t := 0) (j := 2) (pc' := 15) (L' := [(0, .ref 134), (1, .int (xs 1))]) h_m59 (z_at.mk 1 rfl rfl) rfl rfl rfl (u := .int (-1 : Int32)) rfl rfl rfl ?_
        refine w_p h_m59 3 (pc' := 24) (L' := []) (st' := [.int (-11 : Int32)]) rfl ?_
        refine w_ri h_m59 (z_at.mk 1 rfl rfl) rfl rfl ?_
        show z_W 999 155 8 [(0, .ref 39), (1, .int (xs 1)), (2, .int (xs 2))] [.int (-11 : Int32)] m _
        refine w_p h_m155 5 (pc' := 33) (L' := []) (st' := [.int (-11 : Int32)]) rfl ?_
        refine w_ri h_m155 (z_at.mk 1 rfl rfl) rfl rfl ?_
        show z_W 1000 1000 1329 [(0, .ref 0), (1, .ref 39), (2, .ref 143), (3, .int (0 : Int32))] [.int (-11 : Int32)] m _
        refine w_p h_m1000 5 (pc' := 1334) (L' := [(0, .ref 0), (1, .ref 39), (2, .ref 143), (3, .int (0 : Int32))]) (st' := [.int (1 : Int32), .ref 0, .ref 143, .int (-11 : Int32)]) rfl ?_
        refine w_ae H (j := 1) (pc' := 1335) (L' := [(0, .ref 0), (1, .ref 39), (2, .ref 143), (3, .int (0 : Int32))]) h_m1000 (z_at.mk 1 rfl rfl) rfl rfl rfl (by decide) rfl (by decide) rfl rfl rfl ?_
        refine w_p h_m1000 4 (pc' := 1339) (L' := [(0, .ref 0), (1, .ref 39), (2, .ref 143), (3, .int (0 : Int32))]) (st' := [.int (2 : Int32), .ref 0, .int (xs 1), .ref 143, .int (-11 : Int32)]) rfl ?_
        refine w_ae H (j := 2) (pc' := 1340) (L' := [(0, .ref 0), (1, .ref 39), (2, .ref 143), (3, .int (0 : Int32))]) h_m1000 (z_at.mk 1 rfl rfl) rfl rfl rfl (by decide) rfl (by decide) rfl rfl rfl ?_
        refine w_cv (H.t rfl) (pc' := 1343) (L' := [(0, .ref 0), (1, .ref 39), (2, .ref 143), (3, .int (0 : Int32))]) (rest := [.int (-11 : Int32)]) (Ps := [.int (xs 1), .int (xs 2)]) (L0 := [(0, .ref 143), (1, .int (xs 1)), (2, .int (xs 2))]) h_m1000 (z_at.mk 3 rfl rfl) (Or.inl ⟨rfl, rfl⟩) rfl rfl (by decide) (by decide) rfl rfl rfl rfl rfl rfl (by decide) rfl rfl rfl ?_
        refine w_p h_m269 2 (pc' := 2) (L' := [(0, .ref 143), (1, .int (xs 1)), (2, .int (xs 2))]) (st' := [.int (xs 1), .ref 143]) rfl ?_
        refine w_cv (H.t rfl) (pc' := 5) (L' := [(0, .ref 143), (1, .int (xs 1)), (2, .int (xs 2))]) (rest := []) (Ps := [.int (xs 1)]) (L0 := [(0, .ref 143), (1, .int (xs 1))]) h_m269 (z_at.mk 3 rfl rfl) (Or.inl ⟨rfl, rfl⟩) rfl rfl (by decide) (by decide) rfl rfl rfl rfl rfl rfl (by decide) rfl rfl rfl ?_
        refine w_p h_m263 1 (pc' := 1) (L' := [(0, .ref 143), (1, .int (xs 1))]) (st' := [.int (xs 1)]) rfl ?_
        refine w_cs (As := [.int (xs 1)]) (rest := []) (j := 262) (L0 := [(0, .int (xs 1))]) (pc' := 4) (L' := [(0, .ref 143), (1, .int (xs 1))]) h_m263 (z_at.mk 3 rfl rfl) (Or.inl ⟨rfl, rfl⟩) rfl rfl rfl rfl rfl ?_
        refine w_p h_m262 3 (pc' := 3) (L' := [(0, .int (xs 1))]) (st' := [.int (5 : Int32), .int (0 : Int32), .int (xs 1)]) rfl ?_
        refine w_cs (As := [.int (xs 1), .int (0 : Int32), .int (5 : Int32)]) (rest := []) (j := 159) (L0 := [(0, .int (xs 1)), (1, .int (0 : Int32)), (2, .int (5 : Int32))]) (pc' := 6) (L' := [(0, .int (xs 1))]) h_m262 (z_at.mk 3 rfl rfl) (Or.inl ⟨rfl, rfl⟩) rfl rfl rfl rfl rfl ?_
        refine w_p h_m159 2 (pc' := 2) (L' := [(0, .int (xs 1)), (1, .int (0 : Int32)), (2, .int (5 : Int32))]) (st' := [.int (0 : Int32), .int (xs 1)]) rfl ?_
        refine w_f2 (pc' := 5) (L' := [(0, .int (xs 1)), (1, .int (0 : Int32)), (2, .int (5 : Int32))]) h_m159 (z_at.mk 3 rfl rfl) rfl (zc (a := (xs 1).toInt) (b := 0) rfl rfl (decide_eq_false (by omega))) rfl rfl ?_
        refine w_p h_m159 2 (pc' := 7) (L' := [(0, .int (xs 1)), (1, .int (0 : Int32)), (2, .int (5 : Int32))]) (st' := [.int (5 : Int32), .int (xs 1)]) rfl ?_
        refine w_f2 (pc' := 10) (L' := [(0, .int (xs 1)), (1, .int (0 : Int32)), (2, .int (5 : Int32))]) h_m159 (z_at.mk 3 rfl rfl) rfl (zc (a := (xs 1).toInt) (b := 5) rfl rfl (decide_eq_false (by omega))) rfl rfl ?_
        refine w_p h_m159 2 (pc' := 15) (L' := []) (st' := [.int (1 : Int32)]) rfl ?_
        refine w_ri h_m159 (z_at.mk 1 rfl rfl) rfl rfl ?_
        show z_W 997 262 6 [(0, .int (xs 1))] [.int (1 : Int32)] m _
        refine w_ri h_m262 (z_at.mk 1 rfl rfl) rfl rfl ?_
        show z_W 998 263 4 [(0, .ref 143), (1, .int (xs 1))] [.int (1 : Int32)] m _
        refine w_p h_m263 2 (pc' := 12) (L' := [(0, .ref 143), (1, .int (xs 1))]) (st' := [.ref 143]) rfl ?_
        refine w_gf H (pc' := 15) (L' := [(0, .ref 143), (1, .int (xs 1))]) h_m263 (z_at.mk 3 rfl rfl) rfl (u := .ref 166) rfl rfl rfl ?_
        refine w_p h_m263 1 (pc' := 16) (L' := [(0, .ref 143), (1, .int (xs 1))]) (st' := [.int (xs 1), .ref 166]) rfl ?_
        have c_7 : (xs 1).toInt = 2 := by omega
        refine w_top (v' := .int (2 : Int32)) (congrArg Value.int (zi_lit (c := (xs 1).toInt) rfl c_7)) ?_
        refine w_al H (t := 0) (j := 2) (pc' := 17) (L' := [(0, .ref 143), (1, .int (xs 1))]) h_m263 (z_at.mk 1 rfl rfl) rfl rfl rfl (u := .int (-1 : Int32)) rfl rfl rfl ?_
        refine w_p h_m263 3 (pc' := 26) (L' := []) (st' := [.int (-11 : Int32)]) rfl ?_
        refine w_ri h_m263 (z_at.mk 1 rfl rfl) rfl rfl ?_
        show z_W 999 269 5 [(0, .ref 143), (1, .int (xs 1)), (2, .int (xs 2))] [.int (-11 : Int32)] m _
        refine w_p h_m269 4 (pc' := 11) (L' := [(3, .int (-11 : Int32)), (0, .ref 143), (1, .int (xs 1)), (2, .int (xs 2))]) (st' := [.int (-11 : Int32)]) rfl ?_
        refine w_ri h_m269 (z_at.mk 1 rfl rfl) rfl rfl ?_
        show z_W 1000 1000 1343 [(0, .ref 0), (1, .ref 39), (2, .ref 143), (3, .int (0 : Int32))] [.int (-11 : Int32), .int (-11 : Int32)] m _
        refine w_p h_m1000 5 (pc' := 20) (L' := [(0, .ref 0), (1, .ref 39), (2, .ref 143), (3, .int (6 : Int32))]) (st' := [.ref 0, .int (6 : Int32)]) rfl ?_
        refine w_lene H (x := (6 : Int32)) (pc' := 21) (L' := [(0, .ref 0), (1, .ref 39), (2, .ref 143), (3, .int (6 : Int32))]) h_m1000 (z_at.mk 1 rfl rfl) (by decide) rfl (by decide) rfl rfl rfl ?_
        refine w_p h_m1000 4 (pc' := 1381) (L' := [(0, .ref 0), (1, .ref 39), (2, .ref 143), (3, .int (6 : Int32))]) (st' := [.int (1 : Int32)]) rfl ?_
        refine w_ri h_m1000 (z_at.mk 1 rfl rfl) rfl rfl ?_
        exact hQ _ _ _ _ H (by decide) (by decide)
      by_cases c_7 : (xs 1).toInt = 1
      · refine w_top (v' := .int (1 : Int32)) (congrArg Value.int (zi_lit (c := (xs 1).toInt) rfl c_7)) ?_
        refine w_al H (t := 0) (j := 1) (pc' := 15) (L' := [(0, .ref 134), (1, .int (xs 1))]) h_m59 (z_at.mk 1 rfl rfl) rfl rfl rfl (u := .int (-1 : Int32)) rfl rfl rfl ?_
        refine w_p h_m59 3 (pc' := 24) (L' := []) (st' := [.int (-11 : Int32)]) rfl ?_
        refine w_ri h_m59 (z_at.mk 1 rfl rfl) rfl rfl ?_
        show z_W 999 155 8 [(0, .ref 39), (1, .int (xs 1)), (2, .int (xs 2))] [.int (-11 : Int32)] m _
        refine w_p h_m155 5 (pc' := 33) (L' := []) (st' := [.int (-11 : Int32)]) rfl ?_
        refine w_ri h_m155 (z_at.mk 1 rfl rfl) rfl rfl ?_
        show z_W 1000 1000 1329 [(0, .ref 0), (1, .ref 39), (2, .ref 143), (3, .int (0 : Int32))] [.int (-11 : Int32)] m _
        refine w_p h_m1000 5 (pc' := 1334) (L' := [(0, .ref 0), (1, .ref 39), (2, .ref 143), (3, .int (0 : Int32))]) (st' := [.int (1 : Int32), .ref 0, .ref 143, .int (-11 : Int32)]) rfl ?_
        refine w_ae H (j := 1) (pc' := 1335) (L' := [(0, .ref 0), (1, .ref 39), (2, .ref 143), (3, .int (0 : Int32))]) h_m1000 (z_at.mk 1 rfl rfl) rfl rfl rfl (by decide) rfl (by decide) rfl rfl rfl ?_
        refine w_p h_m1000 4 (pc' := 1339) (L' := [(0, .ref 0), (1, .ref 39), (2, .ref 143), (3, .int (0 : Int32))]) (st' := [.int (2 : Int32), .ref 0, .int (xs 1), .ref 143, .int (-11 : Int32)]) rfl ?_
        refine w_ae H (j := 2) (pc' := 1340) (L' := [(0, .ref 0), (1, .ref 39), (2, .ref 143), (3, .int (0 : Int32))]) h_m1000 (z_at.mk 1 rfl rfl) rfl rfl rfl (by decide) rfl (by decide) rfl rfl rfl ?_
        refine w_cv (H.t rfl) (pc' := 1343) (L' := [(0, .ref 0), (1, .ref 39), (2, .ref 143), (3, .int (0 : Int32))]) (rest := [.int (-11 : Int32)]) (Ps := [.int (xs 1), .int (xs 2)]) (L0 := [(0, .ref 143), (1, .int (xs 1)), (2, .int (xs 2))]) h_m1000 (z_at.mk 3 rfl rfl) (Or.inl ⟨rfl, rfl⟩) rfl rfl (by decide) (by decide) rfl rfl rfl rfl rfl rfl (by decide) rfl rfl rfl ?_
        refine w_p h_m269 2 (pc' := 2) (L' := [(0, .ref 143), (1, .int (xs 1)), (2, .int (xs 2))]) (st' := [.int (xs 1), .ref 143]) rfl ?_
        refine w_cv (H.t rfl) (pc' := 5) (L' := [(0, .ref 143), (1, .int (xs 1)), (2, .int (xs 2))]) (rest := []) (Ps := [.int (xs 1)]) (L0 := [(0, .ref 143), (1, .int (xs 1))]) h_m269 (z_at.mk 3 rfl rfl) (Or.inl ⟨rfl, rfl⟩) rfl rfl (by decide) (by decide) rfl rfl rfl rfl rfl rfl (by decide) rfl rfl rfl ?_
        refine w_p h_m263 1 (pc' := 1) (L' := [(0, .ref 143), (1, .int (xs 1))]) (st' := [.int (xs 1)]) rfl ?_
        refine w_cs (As := [.int (xs 1)]) (rest := []) (j := 262) (L0 := [(0, .int (xs 1))]) (pc' := 4) (L' := [(0, .ref 143), (1, .int (xs 1))]) h_m263 (z_at.mk 3 rfl rfl) (Or.inl ⟨rfl, rfl⟩) rfl rfl rfl rfl rfl ?_
        refine w_p h_m262 3 (pc' := 3) (L' := [(0, .int (xs 1))]) (st' := [.int (5 : Int32), .int (0 : Int32), .int (xs 1)]) rfl ?_
        refine w_cs (As := [.int (xs 1), .int (0 : Int32), .int (5 : Int32)]) (rest := []) (j := 159) (L0 := [(0, .int (xs 1)), (1, .int (0 : Int32)), (2, .int (5 : Int32))]) (pc' := 6) (L' := [(0, .int (xs 1))]) h_m262 (z_at.mk 3 rfl rfl) (Or.inl ⟨rfl, rfl⟩) rfl rfl rfl rfl rfl ?_
        refine w_p h_m159 2 (pc' := 2) (L' := [(0, .int (xs 1)), (1, .int (0 : Int32)), (2, .int (5 : Int32))]) (st' := [.int (0 : Int32), .int (xs 1)]) rfl ?_
        refine w_f2 (pc' := 5) (L' := [(0, .int (xs 1)), (1, .int (0 : Int32)), (2, .int (5 : Int32))]) h_m159 (z_at.mk 3 rfl rfl) rfl (zc (a := (xs 1).toInt) (b := 0) rfl rfl (decide_eq_false (by omega))) rfl rfl ?_
        refine w_p h_m159 2 (pc' := 7) (L' := [(0, .int (xs 1)), (1, .int (0 : Int32)), (2, .int (5 : Int32))]) (st' := [.int (5 : Int32), .int (xs 1)]) rfl ?_
        refine w_f2 (pc' := 10) (L' := [(0, .int (xs 1)), (1, .int (0 : Int32)), (2, .int (5 : Int32))]) h_m159 (z_at.mk 3 rfl rfl) rfl (zc (a := (xs 1).toInt) (b := 5) rfl rfl (decide_eq_false (by omega))) rfl rfl ?_
        refine w_p h_m159 2 (pc' := 15) (L' := []) (st' := [.int (1 : Int32)]) rfl ?_
        refine w_ri h_m159 (z_at.mk 1 rfl rfl) rfl rfl ?_
        show z_W 997 262 6 [(0, .int (xs 1))] [.int (1 : Int32)] m _
        refine w_ri h_m262 (z_at.mk 1 rfl rfl) rfl rfl ?_
        show z_W 998 263 4 [(0, .ref 143), (1, .int (xs 1))] [.int (1 : Int32)] m _
        refine w_p h_m263 2 (pc' := 12) (L' := [(0, .ref 143), (1, .int (xs 1))]) (st' := [.ref 143]) rfl ?_
        refine w_gf H (pc' := 15) (L' := [(0, .ref 143), (1, .int (xs 1))]) h_m263 (z_at.mk 3 rfl rfl) rfl (u := .ref 166) rfl rfl rfl ?_
        refine w_p h_m263 1 (pc' := 16) (L' := [(0, .ref 143), (1, .int (xs 1))]) (st' := [.int (xs 1), .ref 166]) rfl ?_
        have c_8 : (xs 1).toInt = 1 := by omega
        refine w_top (v' := .int (1 : Int32)) (congrArg Value.int (zi_lit (c := (xs 1).toInt) rfl c_8)) ?_
        refine w_al H (t := 0) (j := 1) (pc' := 17) (L' := [(0, .ref 143), (1, .int (xs 1))]) h_m263 (z_at.mk 1 rfl rfl) rfl rfl rfl (u := .int (-1 : Int32)) rfl rfl rfl ?_
        refine w_p h_m263 3 (pc' := 26) (L' := []) (st' := [.int (-11 : Int32)]) rfl ?_
        refine w_ri h_m263 (z_at.mk 1 rfl rfl) rfl rfl ?_
        show z_W 999 269 5 [(0, .ref 143), (1, .int (xs 1)), (2, .int (xs 2))] [.int (-11 : Int32)] m _
        refine w_p h_m269 4 (pc' := 11) (L' := [(3, .int (-11 : Int32)), (0, .ref 143), (1, .int (xs 1)), (2, .int (xs 2))]) (st' := [.int (-11 : Int32)]) rfl ?_
        refine w_ri h_m269 (z_at.mk 1 rfl rfl) rfl rfl ?_
        show z_W 1000 1000 1343 [(0, .ref 0), (1, .ref 39), (2, .ref 143), (3, .int (0 : Int32))] [.int (-11 : Int32), .int (-11 : Int32)] m _
        refine w_p h_m1000 5 (pc' := 20) (L' := [(0, .ref 0), (1, .ref 39), (2, .ref 143), (3, .int (6 : Int32))]) (st' := [.ref 0, .int (6 : Int32)]) rfl ?_
        refine w_lene H (x := (6 : Int32)) (pc' := 21) (L' := [(0, .ref 0), (1, .ref 39), (2, .ref 143), (3, .int (6 : Int32))]) h_m1000 (z_at.mk 1 rfl rfl) (by decide) rfl (by decide) rfl rfl rfl ?_
        refine w_p h_m1000 4 (pc' := 1381) (L' := [(0, .ref 0), (1, .ref 39), (2, .ref 143), (3, .int (6 : Int32))]) (st' := [.int (1 : Int32)]) rfl ?_
        refine w_ri h_m1000 (z_at.mk 1 rfl rfl) rfl rfl ?_
        exact hQ _ _ _ _ H (by decide) (by decide)
      have c_8 : (xs 1).toInt = 0 := by omega
      refine w_top (v' := .int (0 : Int32)) (congrArg Value.int (zi_lit (c := (xs 1).toInt) rfl c_8)) ?_
      refine w_al H (t := 0) (j := 0) (pc' := 15) (L' := [(0, .ref 134), (1, .int (xs 1))]) h_m59 (z_at.mk 1 rfl rfl) rfl rfl rfl (u := .int (-1 : Int32)) rfl rfl rfl ?_
      refine w_p h_m59 3 (pc' := 24) (L' := []) (st' := [.int (-11 : Int32)]) rfl ?_
      refine w_ri h_m59 (z_at.mk 1 rfl rfl) rfl rfl ?_
      show z_W 999 155 8 [(0, .ref 39), (1, .int (xs 1)), (2, .int (xs 2))] [.int (-11 : Int32)] m _
      refine w_p h_m155 5 (pc' := 33) (L' := []) (st' := [.int (-11 : Int32)]) rfl ?_
      refine w_ri h_m155 (z_at.mk 1 rfl rfl) rfl rfl ?_
      show z_W 1000 1000 1329 [(0, .ref 0), (1, .ref 39), (2, .ref 143), (3, .int (0 : Int32))] [.int (-11 : Int32)] m _
      refine w_p h_m1000 5 (pc' := 1334) (L' := [(0, .ref 0), (1, .ref 39), (2, .ref 143), (3, .int (0 : Int32))]) (st' := [.int (1 : Int32), .ref 0, .ref 143, .int (-11 : Int32)]) rfl ?_
      refine w_ae H (j := 1) (pc' := 1335) (L' := [(0, .ref 0), (1, .ref 39), (2, .ref 143), (3, .int (0 : Int32))]) h_m1000 (z_at.mk 1 rfl rfl) rfl rfl rfl (by decide) rfl (by decide) rfl rfl rfl ?_
      refine w_p h_m1000 4 (pc' := 1339) (L' := [(0, .ref 0), (1, .ref 39), (2, .ref 143), (3, .int (0 : Int32))]) (st' := [.int (2 : Int32), .ref 0, .int (xs 1), .ref 143, .int (-11 : Int32)]) rfl ?_
      refine w_ae H (j := 2) (pc' := 1340) (L' := [(0, .ref 0), (1, .ref 39), (2, .ref 143), (3, .int (0 : Int32))]) h_m1000 (z_at.mk 1 rfl rfl) rfl rfl rfl (by decide) rfl (by decide) rfl rfl rfl ?_
      refine w_cv (H.t rfl) (pc' := 1343) (L' := [(0, .ref 0), (1, .ref 39), (2, .ref 143), (3, .int (0 : Int32))]) (rest := [.int (-11 : Int32)]) (Ps := [.int (xs 1), .int (xs 2)]) (L0 := [(0, .ref 143), (1, .int (xs 1)), (2, .int (xs 2))]) h_m1000 (z_at.mk 3 rfl rfl) (Or.inl ⟨rfl, rfl⟩) rfl rfl (by decide) (by decide) rfl rfl rfl rfl rfl rfl (by decide) rfl rfl rfl ?_
      refine w_p h_m269 2 (pc' := 2) (L' := [(0, .ref 143), (1, .int (xs 1)), (2, .int (xs 2))]) (st' := [.int (xs 1), .ref 143]) rfl ?_
      refine w_cv (H.t rfl) (pc' := 5) (L' := [(0, .ref 143), (1, .int (xs 1)), (2, .int (xs 2))]) (rest := []) (Ps := [.int (xs 1)]) (L0 := [(0, .ref 143), (1, .int (xs 1))]) h_m269 (z_at.mk 3 rfl rfl) (Or.inl ⟨rfl, rfl⟩) rfl rfl (by decide) (by decide) rfl rfl rfl rfl rfl rfl (by decide) rfl rfl rfl ?_
      refine w_p h_m263 1 (pc' := 1) (L' := [(0, .ref 143), (1, .int (xs 1))]) (st' := [.int (xs 1)]) rfl ?_
      refine w_cs (As := [.int (xs 1)]) (rest := []) (j := 262) (L0 := [(0, .int (xs 1))]) (pc' := 4) (L' := [(0, .ref 143), (1, .int (xs 1))]) h_m263 (z_at.mk 3 rfl rfl) (Or.inl ⟨rfl, rfl⟩) rfl rfl rfl rfl rfl ?_
      refine w_p h_m262 3 (pc' := 3) (L' := [(0, .int (xs 1))]) (st' := [.int (5 : Int32), .int (0 : Int32), .int (xs 1)]) rfl ?_
      refine w_cs (As := [.int (xs 1), .int (0 : Int32), .int (5 : Int32)]) (rest := []) (j := 159) (L0 := [(0, .int (xs 1)), (1, .int (0 : Int32)), (2, .int (5 : Int32))]) (pc' := 6) (L' := [(0, .int (xs 1))]) h_m262 (z_at.mk 3 rfl rfl) (Or.inl ⟨rfl, rfl⟩) rfl rfl rfl rfl rfl ?_
      refine w_p h_m159 2 (pc' := 2) (L' := [(0, .int (xs 1)), (1, .int (0 : Int32)), (2, .int (5 : Int32))]) (st' := [.int (0 : Int32), .int (xs 1)]) rfl ?_
      refine w_f2 (pc' := 5) (L' := [(0, .int (xs 1)), (1, .int (0 : Int32)), (2, .int (5 : Int32))]) h_m159 (z_at.mk 3 rfl rfl) rfl (zc (a := (xs 1).toInt) (b := 0) rfl rfl (decide_eq_false (by omega))) rfl rfl ?_
      refine w_p h_m159 2 (pc' := 7) (L' := [(0, .int (xs 1)), (1, .int (0 : Int32)), (2, .int (5 : Int32))]) (st' := [.int (5 : Int32), .int (xs 1)]) rfl ?_
      refine w_f2 (pc' := 10) (L' := [(0, .int (xs 1)), (1, .int (0 : Int32)), (2, .int (5 : Int32))]) h_m159 (z_at.mk 3 rfl rfl) rfl (zc (a := (xs 1).toInt) (b := 5) rfl rfl (decide_eq_false (by omega))) rfl rfl ?_
      refine w_p h_m159 2 (pc' := 15) (L' := []) (st' := [.int (1 : Int32)]) rfl ?_
      refine w_ri h_m159 (z_at.mk 1 rfl rfl) rfl rfl ?_
      show z_W 997 262 6 [(0, .int (xs 1))] [.int (1 : Int32)] m _
      refine w_ri h_m262 (z_at.mk 1 rfl rfl) rfl rfl ?_
      show z_W 998 263 4 [(0, .ref 143), (1, .int (xs 1))] [.int (1 : Int32)] m _
      refine w_p h_m263 2 (pc' := 12) (L' := [(0, .ref 143), (1, .int (xs 1))]) (st' := [.ref 143]) rfl ?_
      refine w_gf H (pc' := 15) (L' := [(0, .ref 143), (1, .int (xs 1))]) h_m263 (z_at.mk 3 rfl rfl) rfl (u := .ref 166) rfl rfl rfl ?_
      refine w_p h_m263 1 (pc' := 16) (L' := [(0, .ref 143), (1, .int (xs 1))]) (st' := [.int (xs 1), .ref 166]) rfl ?_
      have c_9 : (xs 1).toInt = 0 := by omega
      refine w_top (v' := .int (0 : Int32)) (congrArg Value.int (zi_lit (c := (xs 1).toInt) rfl c_9)) ?_
      refine w_al H (t := 0) (j := 0) (pc' := 17) (L' := [(0, .ref 143), (1, .int (xs 1))]) h_m263 (z_at.mk 1 rfl rfl) rfl rfl rfl (u := .int (-1 : Int32)) rfl rfl rfl ?_
      refine w_p h_m263 3 (pc' := 26) (L' := []) (st' := [.int (-11 : Int32)]) rfl ?_
      refine w_ri h_m263 (z_at.mk 1 rfl rfl) rfl rfl ?_
      show z_W 999 269 5 [(0, .ref 143), (1, .int (xs 1)), (2, .int (xs 2))] [.int (-11 : Int32)] m _
      refine w_p h_m269 4 (pc' := 11) (L' := [(3, .int (-11 : Int32)), (0, .ref 143), (1, .int (xs 1)), (2, .int (xs 2))]) (st' := [.int (-11 : Int32)]) rfl ?_
      refine w_ri h_m269 (z_at.mk 1 rfl rfl) rfl rfl ?_
      show z_W 1000 1000 1343 [(0, .ref 0), (1, .ref 39), (2, .ref 143), (3, .int (0 : Int32))] [.int (-11 : Int32), .int (-11 : Int32)] m _
      refine w_p h_m1000 5 (pc' := 20) (L' := [(0, .ref 0), (1, .ref 39), (2, .ref 143), (3, .int (6 : Int32))]) (st' := [.ref 0, .int (6 : Int32)]) rfl ?_
      refine w_lene H (x := (6 : Int32)) (pc' := 21) (L' := [(0, .ref 0), (1, .ref 39), (2, .ref 143), (3, .int (6 : Int32))]) h_m1000 (z_at.mk 1 rfl rfl) (by decide) rfl (by decide) rfl rfl rfl ?_
      refine w_p h_m1000 4 (pc' := 1381) (L' := [(0, .ref 0), (1, .ref 39), (2, .ref 143), (3, .int (6 : Int32))]) (st' := [.int (1 : Int32)]) rfl ?_
      refine w_ri h_m1000 (z_at.mk 1 rfl rfl) rfl rfl ?_
      exact hQ _ _ _ _ H (by decide) (by decide)
    · refine w_t2 (pc' := 14) (L' := []) h_m58 (z_at.mk 3 rfl rfl) rfl (zc (a := (xs 1).toInt) (b := 6) rfl rfl (decide_eq_true (by omega))) rfl rfl ?_
      refine w_p h_m58 1 (pc' := 15) (L' := []) (st' := [.int (0 : Int32)]) rfl ?_
      refine w_ri h_m58 (z_at.mk 1 rfl rfl) rfl rfl ?_
      show z_W 998 59 4 [(0, .ref 134), (1, .int (xs 1))] [.int (0 : Int32)] m _
      refine w_p h_m59 2 (pc' := 8) (L' := [(0, .ref 134), (1, .int (xs 1))]) (st' := [.int (-1 : Int32)]) rfl ?_
      refine w_ri h_m59 (z_at.mk 1 rfl rfl) rfl rfl ?_
      show z_W 999 155 8 [(0, .ref 39), (1, .int (xs 1)), (2, .int (xs 2))] [.int (-1 : Int32)] m _
      refine w_p h_m155 5 (pc' := 33) (L' := []) (st' := [.int (-1 : Int32)]) rfl ?_
      refine w_ri h_m155 (z_at.mk 1 rfl rfl) rfl rfl ?_
      show z_W 1000 1000 1329 [(0, .ref 0), (1, .ref 39), (2, .ref 143), (3, .int (0 : Int32))] [.int (-1 : Int32)] m _
      refine w_p h_m1000 5 (pc' := 1334) (L' := [(0, .ref 0), (1, .ref 39), (2, .ref 143), (3, .int (0 : Int32))]) (st' := [.int (1 : Int32), .ref 0, .ref 143, .int (-1 : Int32)]) rfl ?_
      refine w_ae H (j := 1) (pc' := 1335) (L' := [(0, .ref 0), (1, .ref 39), (2, .ref 143), (3, .int (0 : Int32))]) h_m1000 (z_at.mk 1 rfl rfl) rfl rfl rfl (by decide) rfl (by decide) rfl rfl rfl ?_
      refine w_p h_m1000 4 (pc' := 1339) (L' := [(0, .ref 0), (1, .ref 39), (2, .ref 143), (3, .int (0 : Int32))]) (st' := [.int (2 : Int32), .ref 0, .int (xs 1), .ref 143, .int (-1 : Int32)]) rfl ?_
      refine w_ae H (j := 2) (pc' := 1340) (L' := [(0, .ref 0), (1, .ref 39), (2, .ref 143), (3, .int (0 : Int32))]) h_m1000 (z_at.mk 1 rfl rfl) rfl rfl rfl (by decide) rfl (by decide) rfl rfl rfl ?_
      refine w_cv (H.t rfl) (pc' := 1343) (L' := [(0, .ref 0), (1, .ref 39), (2, .ref 143), (3, .int (0 : Int32))]) (rest := [.int (-1 : Int32)]) (Ps := [.int (xs 1), .int (xs 2)]) (L0 := [(0, .ref 143), (1, .int (xs 1)), (2, .int (xs 2))]) h_m1000 (z_at.mk 3 rfl rfl) (Or.inl ⟨rfl, rfl⟩) rfl rfl (by decide) (by decide) rfl rfl rfl rfl rfl rfl (by decide) rfl rfl rfl ?_
      refine w_p h_m269 2 (pc' := 2) (L' := [(0, .ref 143), (1, .int (xs 1)), (2, .int (xs 2))]) (st' := [.int (xs 1), .ref 143]) rfl ?_
      refine w_cv (H.t rfl) (pc' := 5) (L' := [(0, .ref 143), (1, .int (xs 1)), (2, .int (xs 2))]) (rest := []) (Ps := [.int (xs 1)]) (L0 := [(0, .ref 143), (1, .int (xs 1))]) h_m269 (z_at.mk 3 rfl rfl) (Or.inl ⟨rfl, rfl⟩) rfl rfl (by decide) (by decide) rfl rfl rfl rfl rfl rfl (by decide) rfl rfl rfl ?_
      refine w_p h_m263 1 (pc' := 1) (L' := [(0, .ref 143), (1, .int (xs 1))]) (st' := [.int (xs 1)]) rfl ?_
      refine w_cs (As := [.int (xs 1)]) (rest := []) (j := 262) (L0 := [(0, .int (xs 1))]) (pc' := 4) (L' := [(0, .ref 143), (1, .int (xs 1))]) h_m263 (z_at.mk 3 rfl rfl) (Or.inl ⟨rfl, rfl⟩) rfl rfl rfl rfl rfl ?_
      refine w_p h_m262 3 (pc' := 3) (L' := [(0, .int (xs 1))]) (st' := [.int (5 : Int32), .int (0 : Int32), .int (xs 1)]) rfl ?_
      refine w_cs (As := [.int (xs 1), .int (0 : Int32), .int (5 : Int32)]) (rest := []) (j := 159) (L0 := [(0, .int (xs 1)), (1, .int (0 : Int32)), (2, .int (5 : Int32))]) (pc' := 6) (L' := [(0, .int (xs 1))]) h_m262 (z_at.mk 3 rfl rfl) (Or.inl ⟨rfl, rfl⟩) rfl rfl rfl rfl rfl ?_
      refine w_p h_m159 2 (pc' := 2) (L' := [(0, .int (xs 1)), (1, .int (0 : Int32)), (2, .int (5 : Int32))]) (st' := [.int (0 : Int32), .int (xs 1)]) rfl ?_
      refine w_f2 (pc' := 5) (L' := [(0, .int (xs 1)), (1, .int (0 : Int32)), (2, .int (5 : Int32))]) h_m159 (z_at.mk 3 rfl rfl) rfl (zc (a := (xs 1).toInt) (b := 0) rfl rfl (decide_eq_false (by omega))) rfl rfl ?_
      refine w_p h_m159 2 (pc' := 7) (L' := [(0, .int (xs 1)), (1, .int (0 : Int32)), (2, .int (5 : Int32))]) (st' := [.int (5 : Int32), .int (xs 1)]) rfl ?_
      refine w_t2 (pc' := 14) (L' := []) h_m159 (z_at.mk 3 rfl rfl) rfl (zc (a := (xs 1).toInt) (b := 5) rfl rfl (decide_eq_true (by omega))) rfl rfl ?_
      refine w_p h_m159 1 (pc' := 15) (L' := []) (st' := [.int (0 : Int32)]) rfl ?_
      refine w_ri h_m159 (z_at.mk 1 rfl rfl) rfl rfl ?_
      show z_W 997 262 6 [(0, .int (xs 1))] [.int (0 : Int32)] m _
      refine w_ri h_m262 (z_at.mk 1 rfl rfl) rfl rfl ?_
      show z_W 998 263 4 [(0, .ref 143), (1, .int (xs 1))] [.int (0 : Int32)] m _
      refine w_p h_m263 3 (pc' := 26) (L' := []) (st' := [.int (-1 : Int32)]) rfl ?_
      refine w_ri h_m263 (z_at.mk 1 rfl rfl) rfl rfl ?_
      show z_W 999 269 5 [(0, .ref 143), (1, .int (xs 1)), (2, .int (xs 2))] [.int (-1 : Int32)] m _
      refine w_p h_m269 4 (pc' := 11) (L' := [(3, .int (-1 : Int32)), (0, .ref 143), (1, .int (xs 1)), (2, .int (xs 2))]) (st' := [.int (-1 : Int32)]) rfl ?_
      refine w_ri h_m269 (z_at.mk 1 rfl rfl) rfl rfl ?_
      show z_W 1000 1000 1343 [(0, .ref 0), (1, .ref 39), (2, .ref 143), (3, .int (0 : Int32))] [.int (-1 : Int32), .int (-1 : Int32)] m _
      refine w_p h_m1000 5 (pc' := 20) (L' := [(0, .ref 0), (1, .ref 39), (2, .ref 143), (3, .int (6 : Int32))]) (st' := [.ref 0, .int (6 : Int32)]) rfl ?_
      refine w_lene H (x := (6 : Int32)) (pc' := 21) (L' := [(0, .ref 0), (1, .ref 39), (2, .ref 143), (3, .int (6 : Int32))]) h_m1000 (z_at.mk 1 rfl rfl) (by decide) rfl (by decide) rfl rfl rfl ?_
      refine w_p h_m1000 4 (pc' := 1381) (L' := [(0, .ref 0), (1, .ref 39), (2, .ref 143), (3, .int (6 : Int32))]) (st' := [.int (1 : Int32)]) rfl ?_
      refine w_ri h_m1000 (z_at.mk 1 rfl rfl) rfl rfl ?_
      exact hQ _ _ _ _ H (by decide) (by decide)
