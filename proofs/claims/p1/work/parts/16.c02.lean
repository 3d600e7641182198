/-! THE ROADS of calls 1, 3, 2, 18, 27, 28 on a fresh object (by wip/px_cmd.py) -/
set_option maxHeartbeats 400000000 in
set_option maxRecDepth 20000 in
theorem w_c1 {xs : Nat → Int32} {m : zM} {Q : Option Value → zM → Prop} (H : w_ok 6 xs 168 63950 w_T0 m) (hQ : ∀ N S T m, w_ok 6 xs N S T m → N ≤ 600039 → S ≤ 7302250 → Q (some (.int 1)) m) : z_W 1000 1000 279 [(0, .ref 0), (1, .ref 39), (2, .ref 143), (3, .int (0 : Int32))] [] m Q := by
  have b1 := zi_bd (xs 1)
  have b2 := zi_bd (xs 2)
  have b3 := zi_bd (xs 3)
  have b4 := zi_bd (xs 4)
  have b5 := zi_bd (xs 5)
  refine w_p h_m1000 5 (pc' := 284) (L' := [(0, .ref 0), (1, .ref 39), (2, .ref 143), (3, .int (0 : Int32))]) (st' := [.int (1 : Int32), .ref 0, .ref 39]) rfl ?_
  refine w_ae H (j := 1) (pc' := 285) (L' := [(0, .ref 0), (1, .ref 39), (2, .ref 143), (3, .int (0 : Int32))]) h_m1000 (z_at.mk 1 rfl rfl) rfl rfl rfl (by decide) rfl (by decide) rfl rfl rfl ?_
  refine w_cv (H.t rfl) (pc' := 288) (L' := [(0, .ref 0), (1, .ref 39), (2, .ref 143), (3, .int (0 : Int32))]) (rest := []) (Ps := [.int (xs 1)]) (L0 := [(0, .ref 39), (1, .int (xs 1))]) h_m1000 (z_at.mk 3 rfl rfl) (Or.inl ⟨rfl, rfl⟩) rfl rfl (by decide) (by decide) rfl rfl rfl rfl rfl rfl (by decide) rfl rfl rfl ?_
  refine w_p h_m116 1 (pc' := 1) (L' := [(0, .ref 39), (1, .int (xs 1))]) (st' := [.int (xs 1)]) rfl ?_
  refine w_cs (As := [.int (xs 1)]) (rest := []) (j := 80) (L0 := [(0, .int (xs 1))]) (pc' := 4) (L' := [(0, .ref 39), (1, .int (xs 1))]) h_m116 (z_at.mk 3 rfl rfl) (Or.inl ⟨rfl, rfl⟩) rfl rfl rfl rfl rfl ?_
  refine w_p h_m80 1 (pc' := 1) (L' := [(0, .int (xs 1))]) (st' := [.int (xs 1)]) rfl ?_
  by_cases c_1 : (xs 1).toInt < 0
  · refine w_t1 (pc' := 14) (L' := []) h_m80 (z_at.mk 3 rfl rfl) rfl (zc (a := (xs 1).toInt) (b := 0) rfl rfl (decide_eq_true (by omega))) rfl rfl ?_
    refine w_p h_m80 1 (pc' := 15) (L' := []) (st' := [.int (0 : Int32)]) rfl ?_
    refine w_ri h_m80 (z_at.mk 1 rfl rfl) rfl rfl ?_
    show z_W 999 116 4 [(0, .ref 39), (1, .int (xs 1))] [.int (0 : Int32)] m _
    refine w_p h_m116 2 (pc' := 8) (L' := [(0, .ref 39), (1, .int (xs 1))]) (st' := [.int (-1 : Int32)]) rfl ?_
    refine w_ri h_m116 (z_at.mk 1 rfl rfl) rfl rfl ?_
    show z_W 1000 1000 288 [(0, .ref 0), (1, .ref 39), (2, .ref 143), (3, .int (0 : Int32))] [.int (-1 : Int32)] m _
    refine w_p h_m1000 5 (pc' := 293) (L' := [(0, .ref 0), (1, .ref 39), (2, .ref 143), (3, .int (0 : Int32))]) (st' := [.int (1 : Int32), .ref 0, .ref 143, .int (-1 : Int32)]) rfl ?_
    refine w_ae H (j := 1) (pc' := 294) (L' := [(0, .ref 0), (1, .ref 39), (2, .ref 143), (3, .int (0 : Int32))]) h_m1000 (z_at.mk 1 rfl rfl) rfl rfl rfl (by decide) rfl (by decide) rfl rfl rfl ?_
    refine w_cv (H.t rfl) (pc' := 297) (L' := [(0, .ref 0), (1, .ref 39), (2, .ref 143), (3, .int (0 : Int32))]) (rest := [.int (-1 : Int32)]) (Ps := [.int (xs 1)]) (L0 := [(0, .ref 143), (1, .int (xs 1))]) h_m1000 (z_at.mk 3 rfl rfl) (Or.inl ⟨rfl, rfl⟩) rfl rfl (by decide) (by decide) rfl rfl rfl rfl rfl rfl (by decide) rfl rfl rfl ?_
    refine w_p h_m207 1 (pc' := 1) (L' := [(0, .ref 143), (1, .int (xs 1))]) (st' := [.int (xs 1)]) rfl ?_
    refine w_cs (As := [.int (xs 1)]) (rest := []) (j := 204) (L0 := [(0, .int (xs 1))]) (pc' := 4) (L' := [(0, .ref 143), (1, .int (xs 1))]) h_m207 (z_at.mk 3 rfl rfl) (Or.inl ⟨rfl, rfl⟩) rfl rfl rfl rfl rfl ?_
    refine w_p h_m204 3 (pc' := 4) (L' := [(0, .int (xs 1))]) (st' := [.int (59 : Int32), .int (0 : Int32), .int (xs 1)]) rfl ?_
    refine w_cs (As := [.int (xs 1), .int (0 : Int32), .int (59 : Int32)]) (rest := []) (j := 159) (L0 := [(0, .int (xs 1)), (1, .int (0 : Int32)), (2, .int (59 : Int32))]) (pc' := 7) (L' := [(0, .int (xs 1))]) h_m204 (z_at.mk 3 rfl rfl) (Or.inl ⟨rfl, rfl⟩) rfl rfl rfl rfl rfl ?_
    refine w_p h_m159 2 (pc' := 2) (L' := [(0, .int (xs 1)), (1, .int (0 : Int32)), (2, .int (59 : Int32))]) (st' := [.int (0 : Int32), .int (xs 1)]) rfl ?_
    refine w_t2 (pc' := 14) (L' := []) h_m159 (z_at.mk 3 rfl rfl) rfl (zc (a := (xs 1).toInt) (b := 0) rfl rfl (decide_eq_true (by omega))) rfl rfl ?_
    refine w_p h_m159 1 (pc' := 15) (L' := []) (st' := [.int (0 : Int32)]) rfl ?_
    refine w_ri h_m159 (z_at.mk 1 rfl rfl) rfl rfl ?_
    show z_W 998 204 7 [(0, .int (xs 1))] [.int (0 : Int32)] m _
    refine w_ri h_m204 (z_at.mk 1 rfl rfl) rfl rfl ?_
    show z_W 999 207 4 [(0, .ref 143), (1, .int (xs 1))] [.int (0 : Int32)] m _
    refine w_p h_m207 2 (pc' := 8) (L' := [(0, .ref 143), (1, .int (xs 1))]) (st' := [.int (-1 : Int32)]) rfl ?_
    refine w_ri h_m207 (z_at.mk 1 rfl rfl) rfl rfl ?_
    show z_W 1000 1000 297 [(0, .ref 0), (1, .ref 39), (2, .ref 143), (3, .int (0 : Int32))] [.int (-1 : Int32), .int (-1 : Int32)] m _
    refine w_p h_m1000 5 (pc' := 20) (L' := [(0, .ref 0), (1, .ref 39), (2, .ref 143), (3, .int (6 : Int32))]) (st' := [.ref 0, .int (6 : Int32)]) rfl ?_
    refine w_lene H (x := (6 : Int32)) (pc' := 21) (L' := [(0, .ref 0), (1, .ref 39), (2, .ref 143), (3, .int (6 : Int32))]) h_m1000 (z_at.mk 1 rfl rfl) (by decide) rfl (by decide) rfl rfl rfl ?_
    refine w_p h_m1000 4 (pc' := 1381) (L' := [(0, .ref 0), (1, .ref 39), (2, .ref 143), (3, .int (6 : Int32))]) (st' := [.int (1 : Int32)]) rfl ?_
    refine w_ri h_m1000 (z_at.mk 1 rfl rfl) rfl rfl ?_
    exact hQ _ _ _ _ H (by decide) (by decide)
  · refine w_f1 (pc' := 4) (L' := [(0, .int (xs 1))]) h_m80 (z_at.mk 3 rfl rfl) rfl (zc (a := (xs 1).toInt) (b := 0) rfl rfl (decide_eq_false (by omega))) rfl rfl ?_
    refine w_p h_m80 2 (pc' := 7) (L' := [(0, .int (xs 1))]) (st' := [.int (60 : Int32), .int (xs 1)]) rfl ?_
    by_cases c_2 : (xs 1).toInt < 60
    · refine w_f2 (pc' := 10) (L' := [(0, .int (xs 1))]) h_m80 (z_at.mk 3 rfl rfl) rfl (zc (a := (xs 1).toInt) (b := 60) rfl rfl (decide_eq_false (by omega))) rfl rfl ?_
      refine w_p h_m80 2 (pc' := 15) (L' := []) (st' := [.int (1 : Int32)]) rfl ?_
      refine w_ri h_m80 (z_at.mk 1 rfl rfl) rfl rfl ?_
      show z_W 999 116 4 [(0, .ref 39), (1, .int (xs 1))] [.int (1 : Int32)] m _
      refine w_p h_m116 2 (pc' := 10) (L' := [(0, .ref 39), (1, .int (xs 1))]) (st' := [.ref 39]) rfl ?_
      refine w_gf H (pc' := 13) (L' := [(0, .ref 39), (1, .int (xs 1))]) h_m116 (z_at.mk 3 rfl rfl) rfl (u := .ref 40) rfl rfl rfl ?_
      refine w_gf H (pc' := 16) (L' := [(0, .ref 39), (1, .int (xs 1))]) h_m116 (z_at.mk 3 rfl rfl) rfl (u := .ref 41) rfl rfl rfl ?_
      refine w_p h_m116 1 (pc' := 17) (L' := [(0, .ref 39), (1, .int (xs 1))]) (st' := [.int (xs 1), .ref 41]) rfl ?_
      refine w_cv (H.t rfl) (pc' := 20) (L' := [(0, .ref 39), (1, .int (xs 1))]) (rest := []) (Ps := [.int (xs 1)]) (L0 := [(0, .ref 41), (1, .int (xs 1))]) h_m116 (z_at.mk 3 rfl rfl) (Or.inl ⟨rfl, rfl⟩) rfl rfl (by decide) (by decide) rfl rfl rfl rfl rfl rfl (by decide) rfl rfl rfl ?_
      refine w_p h_m81 1 (pc' := 1) (L' := [(0, .ref 41), (1, .int (xs 1))]) (st' := [.int (xs 1)]) rfl ?_
      refine w_cs (As := [.int (xs 1)]) (rest := []) (j := 80) (L0 := [(0, .int (xs 1))]) (pc' := 4) (L' := [(0, .ref 41), (1, .int (xs 1))]) h_m81 (z_at.mk 3 rfl rfl) (Or.inl ⟨rfl, rfl⟩) rfl rfl rfl rfl rfl ?_
      refine w_p h_m80 1 (pc' := 1) (L' := [(0, .int (xs 1))]) (st' := [.int (xs 1)]) rfl ?_
      refine w_f1 (pc' := 4) (L' := [(0, .int (xs 1))]) h_m80 (z_at.mk 3 rfl rfl) rfl (zc (a := (xs 1).toInt) (b := 0) rfl rfl (decide_eq_false (by omega))) rfl rfl ?_
      refine w_p h_m80 2 (pc' := 7) (L' := [(0, .int (xs 1))]) (st' := [.int (60 : Int32), .int (xs 1)]) rfl ?_
      refine w_f2 (pc' := 10) (L' := [(0, .int (xs 1))]) h_m80 (z_at.mk 3 rfl rfl) rfl (zc (a := (xs 1).toInt) (b := 60) rfl rfl (decide_eq_false (by omega))) rfl rfl ?_
      refine w_p h_m80 2 (pc' := 15) (L' := []) (st' := [.int (1 : Int32)]) rfl ?_
      refine w_ri h_m80 (z_at.mk 1 rfl rfl) rfl rfl ?_
      show z_W 998 81 4 [(0, .ref 41), (1, .int (xs 1))] [.int (1 : Int32)] m _
      refine w_p h_m81 2 (pc' := 8) (L' := [(0, .ref 41), (1, .int (xs 1))]) (st' := [.ref 41]) rfl ?_
      refine w_gf H (pc' := 11) (L' := [(0, .ref 41), (1, .int (xs 1))]) h_m81 (z_at.mk 3 rfl rfl) rfl (u := .ref 46) rfl rfl rfl ?_
      refine w_p h_m81 1 (pc' := 13) (L' := [(0, .ref 41), (1, .int (xs 1))]) (st' := [.int (32 : Int32), .ref 46]) rfl ?_
      refine w_al H (t := 1) (j := 32) (pc' := 14) (L' := [(0, .ref 41), (1, .int (xs 1))]) h_m81 (z_at.mk 1 rfl rfl) rfl rfl rfl (u := .long (0 : Int64)) rfl rfl rfl ?_
      refine w_p h_m81 2 (pc' := 16) (L' := [(0, .ref 41), (1, .int (xs 1))]) (st' := [.long (((0 : Int64).toUInt64 >>> ((xs 1).toInt64.toUInt64 &&& Int64.toUInt64 63)).toInt64)]) rfl ?_
      refine w_top (v' := .long (0 : Int64)) (congrArg Value.long (zl_ushr0 _)) ?_
      refine w_p h_m81 6 (pc' := 28) (L' := []) (st' := [.int (0 : Int32)]) rfl ?_
      refine w_ri h_m81 (z_at.mk 1 rfl rfl) rfl rfl ?_
      show z_W 999 116 20 [(0, .ref 39), (1, .int (xs 1))] [.int (0 : Int32)] m _
      refine w_p h_m116 2 (pc' := 25) (L' := [(0, .ref 39), (1, .int (xs 1))]) (st' := [.int (-3 : Int32)]) rfl ?_
      refine w_ri h_m116 (z_at.mk 1 rfl rfl) rfl rfl ?_
      show z_W 1000 1000 288 [(0, .ref 0), (1, .ref 39), (2, .ref 143), (3, .int (0 : Int32))] [.int (-3 : Int32)] m _
      refine w_p h_m1000 5 (pc' := 293) (L' := [(0, .ref 0), (1, .ref 39), (2, .ref 143), (3, .int (0 : Int32))]) (st' := [.int (1 : Int32), .ref 0, .ref 143, .int (-3 : Int32)]) rfl ?_
      refine w_ae H (j := 1) (pc' := 294) (L' := [(0, .ref 0), (1, .ref 39), (2, .ref 143), (3, .int (0 : Int32))]) h_m1000 (z_at.mk 1 rfl rfl) rfl rfl rfl (by decide) rfl (by decide) rfl rfl rfl ?_
      refine w_cv (H.t rfl) (pc' := 297) (L' := [(0, .ref 0), (1, .ref 39), (2, .ref 143), (3, .int (0 : Int32))]) (rest := [.int (-3 : Int32)]) (Ps := [.int (xs 1)]) (L0 := [(0, .ref 143), (1, .int (xs 1))]) h_m1000 (z_at.mk 3 rfl rfl) (Or.inl ⟨rfl, rfl⟩) rfl rfl (by decide) (by decide) rfl rfl rfl rfl rfl rfl (by decide) rfl rfl rfl ?_
      refine w_p h_m207 1 (pc' := 1) (L' := [(0, .ref 143), (1, .int (xs 1))]) (st' := [.int (xs 1)]) rfl ?_
      refine w_cs (As := [.int (xs 1)]) (rest := []) (j := 204) (L0 := [(0, .int (xs 1))]) (pc' := 4) (L' := [(0, .ref 143), (1, .int (xs 1))]) h_m207 (z_at.mk 3 rfl rfl) (Or.inl ⟨rfl, rfl⟩) rfl rfl rfl rfl rfl ?_
      refine w_p h_m204 3 (pc' := 4) (L' := [(0, .int (xs 1))]) (st' := [.int (59 : Int32), .int (0 : Int32), .int (xs 1)]) rfl ?_
      refine w_cs (As := [.int (xs 1), .int (0 : Int32), .int (59 : Int32)]) (rest := []) (j := 159) (L0 := [(0, .int (xs 1)), (1, .int (0 : Int32)), (2, .int (59 : Int32))]) (pc' := 7) (L' := [(0, .int (xs 1))]) h_m204 (z_at.mk 3 rfl rfl) (Or.inl ⟨rfl, rfl⟩) rfl rfl rfl rfl rfl ?_
      refine w_p h_m159 2 (pc' := 2) (L' := [(0, .int (xs 1)), (1, .int (0 : Int32)), (2, .int (59 : Int32))]) (st' := [.int (0 : Int32), .int (xs 1)]) rfl ?_
      refine w_f2 (pc' := 5) (L' := [(0, .int (xs 1)), (1, .int (0 : Int32)), (2, .int (59 : Int32))]) h_m159 (z_at.mk 3 rfl rfl) rfl (zc (a := (xs 1).toInt) (b := 0) rfl rfl (decide_eq_false (by omega))) rfl rfl ?_
      refine w_p h_m159 2 (pc' := 7) (L' := [(0, .int (xs 1)), (1, .int (0 : Int32)), (2, .int (59 : Int32))]) (st' := [.int (59 : Int32), .int (xs 1)]) rfl ?_
      refine w_f2 (pc' := 10) (L' := [(0, .int (xs 1)), (1, .int (0 : Int32)), (2, .int (59 : Int32))]) h_m159 (z_at.mk 3 rfl rfl) rfl (zc (a := (xs 1).toInt) (b := 59) rfl rfl (decide_eq_false (by omega))) rfl rfl ?_
      refine w_p h_m159 2 (pc' := 15) (L' := []) (st' := [.int (1 : Int32)]) rfl ?_
      refine w_ri h_m159 (z_at.mk 1 rfl rfl) rfl rfl ?_
      show z_W 998 204 7 [(0, .int (xs 1))] [.int (1 : Int32)] m _
      refine w_ri h_m204 (z_at.mk 1 rfl rfl) rfl rfl ?_
      show z_W 999 207 4 [(0, .ref 143), (1, .int (xs 1))] [.int (1 : Int32)] m _
      refine w_p h_m207 2 (pc' := 10) (L' := [(0, .ref 143), (1, .int (xs 1))]) (st' := [.ref 143]) rfl ?_
      refine w_gf H (pc' := 13) (L' := [(0, .ref 143), (1, .int (xs 1))]) h_m207 (z_at.mk 3 rfl rfl) rfl (u := .ref 144) rfl rfl rfl ?_
      refine w_p h_m207 1 (pc' := 14) (L' := [(0, .ref 143), (1, .int (xs 1))]) (st' := [.int (xs 1), .ref 144]) rfl ?_
      refine w_cs (As := [.int (xs 1)]) (rest := [.ref 144]) (j := 174) (L0 := [(0, .int (xs 1))]) (pc' := 17) (L' := [(0, .ref 143), (1, .int (xs 1))]) h_m207 (z_at.mk 3 rfl rfl) (Or.inl ⟨rfl, rfl⟩) rfl rfl rfl rfl rfl ?_
      refine w_p h_m174 5 (pc' := 6) (L' := [(0, .int (xs 1))]) (st' := [.int ((20 : Int32) + ((3 : Int32) * (xs 1)))]) rfl ?_
      refine w_ri h_m174 (z_at.mk 1 rfl rfl) rfl rfl ?_
      show z_W 999 207 17 [(0, .ref 143), (1, .int (xs 1))] [.int ((20 : Int32) + ((3 : Int32) * (xs 1))), .ref 144] m _
      refine w_alx H (t := 0) (n := 2740) (ov := [(17, .int (1024 : Int32)), (16, .int (1 : Int32)), (15, .int (1 : Int32)), (13, .int (12 : Int32)), (12, .int (40 : Int32)), (11, .int (10 : Int32))]) (c := 3 * (xs 1).toInt + 20) (u := .int (0 : Int32)) (pc' := 18) (L' := [(0, .ref 143), (1, .int (xs 1))]) h_m207 (z_at.mk 1 rfl rfl) rfl rfl (zi_add (a := 20) (b := 3 * (xs 1).toInt) (c := 3 * (xs 1).toInt + 20) rfl (zi_mul (a := 3) (b := (xs 1).toInt) (c := 3 * (xs 1).toInt) rfl rfl (by omega) (by omega) (by omega)) (by omega) (by omega) (by omega)) (by omega) (by omega) rfl (w_av_c (by omega) (w_av_c (by omega) (w_av_c (by omega) (w_av_c (by omega) (w_av_c (by omega) (w_av_c (by omega) (w_av_n))))))) rfl rfl ?_
      refine w_p h_m207 2 (pc' := 23) (L' := [(0, .ref 143), (1, .int (xs 1))]) (st' := [.int (-3 : Int32)]) rfl ?_
      refine w_ri h_m207 (z_at.mk 1 rfl rfl) rfl rfl ?_
      show z_W 1000 1000 297 [(0, .ref 0), (1, .ref 39), (2, .ref 143), (3, .int (0 : Int32))] [.int (-3 : Int32), .int (-3 : Int32)] m _
      refine w_p h_m1000 5 (pc' := 20) (L' := [(0, .ref 0), (1, .ref 39), (2, .ref 143), (3, .int (6 : Int32))]) (st' := [.ref 0, .int (6 : Int32)]) rfl ?_
      refine w_lene H (x := (6 : Int32)) (pc' := 21) (L' := [(0, .ref 0), (1, .ref 39), (2, .ref 143), (3, .int (6 : Int32))]) h_m1000 (z_at.mk 1 rfl rfl) (by decide) rfl (by decide) rfl rfl rfl ?_
      refine w_p h_m1000 4 (pc' := 1381) (L' := [(0, .ref 0), (1, .ref 39), (2, .ref 143), (3, .int (6 : Int32))]) (st' := [.int (1 : Int32)]) rfl ?_
      refine w_ri h_m1000 (z_at.mk 1 rfl rfl) rfl rfl ?_
      exact hQ _ _ _ _ H (by decide) (by decide)
    · refine w_t2 (pc' := 14) (L' := []) h_m80 (z_at.mk 3 rfl rfl) rfl (zc (a := (xs 1).toInt) (b := 60) rfl rfl (decide_eq_true (by omega))) rfl rfl ?_
      refine w_p h_m80 1 (pc' := 15) (L' := []) (st' := [.int (0 : Int32)]) rfl ?_
      refine w_ri h_m80 (z_at.mk 1 rfl rfl) rfl rfl ?_
      show z_W 999 116 4 [(0, .ref 39), (1, .int (xs 1))] [.int (0 : Int32)] m _
      refine w_p h_m116 2 (pc' := 8) (L' := [(0, .ref 39), (1, .int (xs 1))]) (st' := [.int (-1 : Int32)]) rfl ?_
      refine w_ri h_m116 (z_at.mk 1 rfl rfl) rfl rfl ?_
      show z_W 1000 1000 288 [(0, .ref 0), (1, .ref 39), (2, .ref 143), (3, .int (0 : Int32))] [.int (-1 : Int32)] m _
      refine w_p h_m1000 5 (pc' := 293) (L' := [(0, .ref 0), (1, .ref 39), (2, .ref 143), (3, .int (0 : Int32))]) (st' := [.int (1 : Int32), .ref 0, .ref 143, .int (-1 : Int32)]) rfl ?_
      refine w_ae H (j := 1) (pc' := 294) (L' := [(0, .ref 0), (1, .ref 39), (2, .ref 143), (3, .int (0 : Int32))]) h_m1000 (z_at.mk 1 rfl rfl) rfl rfl rfl (by decide) rfl (by decide) rfl rfl rfl ?_
      refine w_cv (H.t rfl) (pc' := 297) (L' := [(0, .ref 0), (1, .ref 39), (2, .ref 143), (3, .int (0 : Int32))]) (rest := [.int (-1 : Int32)]) (Ps := [.int (xs 1)]) (L0 := [(0, .ref 143), (1, .int (xs 1))]) h_m1000 (z_at.mk 3 rfl rfl) (Or.inl ⟨rfl, rfl⟩) rfl rfl (by decide) (by decide) rfl rfl rfl rfl rfl rfl (by decide) rfl rfl rfl ?_
      refine w_p h_m207 1 (pc' := 1) (L' := [(0, .ref 143), (1, .int (xs 1))]) (st' := [.int (xs 1)]) rfl ?_
      refine w_cs (As := [.int (xs 1)]) (rest := []) (j := 204) (L0 := [(0, .int (xs 1))]) (pc' := 4) (L' := [(0, .ref 143), (1, .int (xs 1))]) h_m207 (z_at.mk 3 rfl rfl) (Or.inl ⟨rfl, rfl⟩) rfl rfl rfl rfl rfl ?_
      refine w_p h_m204 3 (pc' := 4) (L' := [(0, .int (xs 1))]) (st' := [.int (59 : Int32), .int (0 : Int32), .int (xs 1)]) rfl ?_
      refine w_cs (As := [.int (xs 1), .int (0 : Int32), .int (59 : Int32)]) (rest := []) (j := 159) (L0 := [(0, .int (xs 1)), (1, .int (0 : Int32)), (2, .int (59 : Int32))]) (pc' := 7) (L' := [(0, .int (xs 1))]) h_m204 (z_at.mk 3 rfl rfl) (Or.inl ⟨rfl, rfl⟩) rfl rfl rfl rfl rfl ?_
      refine w_p h_m159 2 (pc' := 2) (L' := [(0, .int (xs 1)), (1, .int (0 : Int32)), (2, .int (59 : Int32))]) (st' := [.int (0 : Int32), .int (xs 1)]) rfl ?_
      refine w_f2 (pc' := 5) (L' := [(0, .int (xs 1)), (1, .int (0 : Int32)), (2, .int (59 : Int32))]) h_m159 (z_at.mk 3 rfl rfl) rfl (zc (a := (xs 1).toInt) (b := 0) rfl rfl (decide_eq_false (by omega))) rfl rfl ?_
      refine w_p h_m159 2 (pc' := 7) (L' := [(0, .int (xs 1)), (1, .int (0 : Int32)), (2, .int (59 : Int32))]) (st' := [.int (59 : Int32), .int (xs 1)]) rfl ?_
      refine w_t2 (pc' := 14) (L' := []) h_m159 (z_at.mk 3 rfl rfl) rfl (zc (a := (xs 1).toInt) (b := 59) rfl rfl (decide_eq_true (by omega))) rfl rfl ?_
      refine w_p h_m159 1 (pc' := 15) (L' := []) (st' := [.int (0 : Int32)]) rfl ?_
      refine w_ri h_m159 (z_at.mk 1 rfl rfl) rfl rfl ?_
      show z_W 998 204 7 [(0, .int (xs 1))] [.int (0 : Int32)] m _
      refine w_ri h_m204 (z_at.mk 1 rfl rfl) rfl rfl ?_
      show z_W 999 207 4 [(0, .ref 143), (1, .int (xs 1))] [.int (0 : Int32)] m _
      refine w_p h_m207 2 (pc' := 8) (L' := [(0, .ref 143), (1, .int (xs 1))]) (st' := [.int (-1 : Int32)]) rfl ?_
      refine w_ri h_m207 (z_at.mk 1 rfl rfl) rfl rfl ?_
      show z_W 1000 1000 297 [(0, .ref 0), (1, .ref 39), (2, .ref 143), (3, .int (0 : Int32))] [.int (-1 : Int32), .int (-1 : Int32)] m _
      refine w_p h_m1000 5 (pc' := 20) (L' := [(0, .ref 0), (1, .ref 39), (2, .ref 143), (3, .int (6 : Int32))]) (st' := [.ref 0, .int (6 : Int32)]) rfl ?_
      refine w_lene H (x := (6 : Int32)) (pc' := 21) (L' := [(0, .ref 0), (1, .ref 39), (2, .ref 143), (3, .int (6 : Int32))]) h_m1000 (z_at.mk 1 rfl rfl) (by decide) rfl (by decide) rfl rfl rfl ?_
      refine w_p h_m1000 4 (pc' := 1381) (L' := [(0, .ref 0), (1, .ref 39), (2, .ref 143), (3, .int (6 : Int32))]) (st' := [.int (1 : Int32)]) rfl ?_
      refine w_ri h_m1000 (z_at.mk 1 rfl rfl) rfl rfl ?_
      exact hQ _ _ _ _ H (by decide) (by decide)
set_option maxHeartbeats 400000000 in
set_option maxRecDepth 20000 in
theorem w_c3 {xs : Nat → Int32} {m : zM} {Q : Option Value → zM → Prop} (H : w_ok 6 xs 168 63950 w_T0 m) (hQ : ∀ N S T m, w_ok 6 xs N S T m → N ≤ 600039 → S ≤ 7302250 → Q (some (.int 1)) m) : z_W 1000 1000 335 [(0, .ref 0), (1, .ref 39), (2, .ref 143), (3, .int (0 : Int32))] [] m Q := by
  have b1 := zi_bd (xs 1)
  have b2 := zi_bd (xs 2)
  have b3 := zi_bd (xs 3)
  have b4 := zi_bd (xs 4)
  have b5 := zi_bd (xs 5)
  refine w_p h_m1000 5 (pc' := 340) (L' := [(0, .ref 0), (1, .ref 39), (2, .ref 143), (3, .int (0 : Int32))]) (st' := [.int (1 : Int32), .ref 0, .ref 39]) rfl ?_
  refine w_ae H (j := 1) (pc' := 341) (L' := [(0, .ref 0), (1, .ref 39), (2, .ref 143), (3, .int (0 : Int32))]) h_m1000 (z_at.mk 1 rfl rfl) rfl rfl rfl (by decide) rfl (by decide) rfl rfl rfl ?_
  refine w_cv (H.t rfl) (pc' := 344) (L' := [(0, .ref 0), (1, .ref 39), (2, .ref 143), (3, .int (0 : Int32))]) (rest := []) (Ps := [.int (xs 1)]) (L0 := [(0, .ref 39), (1, .int (xs 1))]) h_m1000 (z_at.mk 3 rfl rfl) (Or.inl ⟨rfl, rfl⟩) rfl rfl (by decide) (by decide) rfl rfl rfl rfl rfl rfl (by decide) rfl rfl rfl ?_
  refine w_p h_m119 1 (pc' := 1) (L' := [(0, .ref 39), (1, .int (xs 1))]) (st' := [.ref 39]) rfl ?_
  refine w_gf H (pc' := 4) (L' := [(0, .ref 39), (1, .int (xs 1))]) h_m119 (z_at.mk 3 rfl rfl) rfl (u := .ref 40) rfl rfl rfl ?_
  refine w_gf H (pc' := 7) (L' := [(0, .ref 39), (1, .int (xs 1))]) h_m119 (z_at.mk 3 rfl rfl) rfl (u := .ref 41) rfl rfl rfl ?_
  refine w_p h_m119 1 (pc' := 8) (L' := [(0, .ref 39), (1, .int (xs 1))]) (st' := [.int (xs 1), .ref 41]) rfl ?_
  refine w_cv (H.t rfl) (pc' := 11) (L' := [(0, .ref 39), (1, .int (xs 1))]) (rest := []) (Ps := [.int (xs 1)]) (L0 := [(0, .ref 41), (1, .int (xs 1))]) h_m119 (z_at.mk 3 rfl rfl) (Or.inl ⟨rfl, rfl⟩) rfl rfl (by decide) (by decide) rfl rfl rfl rfl rfl rfl (by decide) rfl rfl rfl ?_
  refine w_p h_m81 1 (pc' := 1) (L' := [(0, .ref 41), (1, .int (xs 1))]) (st' := [.int (xs 1)]) rfl ?_
  refine w_cs (As := [.int (xs 1)]) (rest := []) (j := 80) (L0 := [(0, .int (xs 1))]) (pc' := 4) (L' := [(0, .ref 41), (1, .int (xs 1))]) h_m81 (z_at.mk 3 rfl rfl) (Or.inl ⟨rfl, rfl⟩) rfl rfl rfl rfl rfl ?_
  refine w_p h_m80 1 (pc' := 1) (L' := [(0, .int (xs 1))]) (st' := [.int (xs 1)]) rfl ?_
  by_cases c_1 : (xs 1).toInt < 0
  · refine w_t1 (pc' := 14) (L' := []) h_m80 (z_at.mk 3 rfl rfl) rfl (zc (a := (xs 1).toInt) (b := 0) rfl rfl (decide_eq_true (by omega))) rfl rfl ?_
    refine w_p h_m80 1 (pc' := 15) (L' := []) (st' := [.int (0 : Int32)]) rfl ?_
    refine w_ri h_m80 (z_at.mk 1 rfl rfl) rfl rfl ?_
    show z_W 998 81 4 [(0, .ref 41), (1, .int (xs 1))] [.int (0 : Int32)] m _
    refine w_p h_m81 2 (pc' := 28) (L' := []) (st' := [.int (0 : Int32)]) rfl ?_
    refine w_ri h_m81 (z_at.mk 1 rfl rfl) rfl rfl ?_
    show z_W 999 119 11 [(0, .ref 39), (1, .int (xs 1))] [.int (0 : Int32)] m _
    refine w_p h_m119 2 (pc' := 32) (L' := []) (st' := [.long (-9223372036854775808 : Int64)]) rfl ?_
    refine w_rl h_m119 (z_at.mk 1 rfl rfl) rfl ?_
    show z_W 1000 1000 344 [(0, .ref 0), (1, .ref 39), (2, .ref 143), (3, .int (0 : Int32))] [.long (-9223372036854775808 : Int64)] m _
    refine w_p h_m1000 5 (pc' := 349) (L' := [(0, .ref 0), (1, .ref 39), (2, .ref 143), (3, .int (0 : Int32))]) (st' := [.int (1 : Int32), .ref 0, .ref 143, .long (-9223372036854775808 : Int64)]) rfl ?_
    refine w_ae H (j := 1) (pc' := 350) (L' := [(0, .ref 0), (1, .ref 39), (2, .ref 143), (3, .int (0 : Int32))]) h_m1000 (z_at.mk 1 rfl rfl) rfl rfl rfl (by decide) rfl (by decide) rfl rfl rfl ?_
    refine w_cv (H.t rfl) (pc' := 353) (L' := [(0, .ref 0), (1, .ref 39), (2, .ref 143), (3, .int (0 : Int32))]) (rest := [.long (-9223372036854775808 : Int64)]) (Ps := [.int (xs 1)]) (L0 := [(0, .ref 143), (1, .int (xs 1))]) h_m1000 (z_at.mk 3 rfl rfl) (Or.inl ⟨rfl, rfl⟩) rfl rfl (by decide) (by decide) rfl rfl rfl rfl rfl rfl (by decide) rfl rfl rfl ?_
    refine w_p h_m209 1 (pc' := 1) (L' := [(0, .ref 143), (1, .int (xs 1))]) (st' := [.int (xs 1)]) rfl ?_
    refine w_cs (As := [.int (xs 1)]) (rest := []) (j := 204) (L0 := [(0, .int (xs 1))]) (pc' := 4) (L' := [(0, .ref 143), (1, .int (xs 1))]) h_m209 (z_at.mk 3 rfl rfl) (Or.inl ⟨rfl, rfl⟩) rfl rfl rfl rfl rfl ?_
    refine w_p h_m204 3 (pc' := 4) (L' := [(0, .int (xs 1))]) (st' := [.int (59 : Int32), .int (0 : Int32), .int (xs 1)]) rfl ?_
    refine w_cs (As := [.int (xs 1), .int (0 : Int32), .int (59 : Int32)]) (rest := []) (j := 159) (L0 := [(0, .int (xs 1)), (1, .int (0 : Int32)), (2, .int (59 : Int32))]) (pc' := 7) (L' := [(0, .int (xs 1))]) h_m204 (z_at.mk 3 rfl rfl) (Or.inl ⟨rfl, rfl⟩) rfl rfl rfl rfl rfl ?_
    refine w_p h_m159 2 (pc' := 2) (L' := [(0, .int (xs 1)), (1, .int (0 : Int32)), (2, .int (59 : Int32))]) (st' := [.int (0 : Int32), .int (xs 1)]) rfl ?_
    refine w_t2 (pc' := 14) (L' := []) h_m159 (z_at.mk 3 rfl rfl) rfl (zc (a := (xs 1).toInt) (b := 0) rfl rfl (decide_eq_true (by omega))) rfl rfl ?_
    refine w_p h_m159 1 (pc' := 15) (L' := []) (st' := [.int (0 : Int32)]) rfl ?_
    refine w_ri h_m159 (z_at.mk 1 rfl rfl) rfl rfl ?_
    show z_W 998 204 7 [(0, .int (xs 1))] [.int (0 : Int32)] m _
    refine w_ri h_m204 (z_at.mk 1 rfl rfl) rfl rfl ?_
    show z_W 999 209 4 [(0, .ref 143), (1, .int (xs 1))] [.int (0 : Int32)] m _
    refine w_p h_m209 2 (pc' := 34) (L' := []) (st' := [.long (-9223372036854775808 : Int64)]) rfl ?_
    refine w_rl h_m209 (z_at.mk 1 rfl rfl) rfl ?_
    show z_W 1000 1000 353 [(0, .ref 0), (1, .ref 39), (2, .ref 143), (3, .int (0 : Int32))] [.long (-9223372036854775808 : Int64), .long (-9223372036854775808 : Int64)] m _
    refine w_p h_m1000 6 (pc' := 20) (L' := [(0, .ref 0), (1, .ref 39), (2, .ref 143), (3, .int (6 : Int32))]) (st' := [.ref 0, .int (6 : Int32)]) rfl ?_
    refine w_lene H (x := (6 : Int32)) (pc' := 21) (L' := [(0, .ref 0), (1, .ref 39), (2, .ref 143), (3, .int (6 : Int32))]) h_m1000 (z_at.mk 1 rfl rfl) (by decide) rfl (by decide) rfl rfl rfl ?_
    refine w_p h_m1000 4 (pc' := 1381) (L' := [(0, .ref 0), (1, .ref 39), (2, .ref 143), (3, .int (6 : Int32))]) (st' := [.int (1 : Int32)]) rfl ?_
    refine w_ri h_m1000 (z_at.mk 1 rfl rfl) rfl rfl ?_
    exact hQ _ _ _ _ H (by decide) (by decide)
  · refine w_f1 (pc' := 4) (L' := [(0, .int (xs 1))]) h_m80 (z_at.mk 3 rfl rfl) rfl (zc (a := (xs 1).toInt) (b := 0) rfl rfl (decide_eq_false (by omega))) rfl rfl ?_
    refine w_p h_m80 2 (pc' := 7) (L' := [(0, .int (xs 1))]) (st' := [.int (60 : Int32), .int (xs 1)]) rfl ?_
    by_cases c_2 : (xs 1).toInt < 60
    · refine w_f2 (pc' := 10) (L' := [(0, .int (xs 1))]) h_m80 (z_at.mk 3 rfl rfl) rfl (zc (a := (xs 1).toInt) (b := 60) rfl rfl (decide_eq_false (by omega))) rfl rfl ?_
      refine w_p h_m80 2 (pc' := 15) (L' := []) (st' := [.int (1 : Int32)]) rfl ?_
      refine w_ri h_m80 (z_at.mk 1 rfl rfl) rfl rfl ?_
      show z_W 998 81 4 [(0, .ref 41), (1, .int (xs 1))] [.int (1 : Int32)] m _
      refine w_p h_m81 2 (pc' := 8) (L' := [(0, .ref 41), (1, .int (xs 1))]) (st' := [.ref 41]) rfl ?_
      refine w_gf H (pc' := 11) (L' := [(0, .ref 41), (1, .int (xs 1))]) h_m81 (z_at.mk 3 rfl rfl) rfl (u := .ref 46) rfl rfl rfl ?_
      refine w_p h_m81 1 (pc' := 13) (L' := [(0, .ref 41), (1, .int (xs 1))]) (st' := [.int (32 : Int32), .ref 46]) rfl ?_
      refine w_al H (t := 1) (j := 32) (pc' := 14) (L' := [(0, .ref 41), (1, .int (xs 1))]) h_m81 (z_at.mk 1 rfl rfl) rfl rfl rfl (u := .long (0 : Int64)) rfl rfl rfl ?_
      refine w_p h_m81 2 (pc' := 16) (L' := [(0, .ref 41), (1, .int (xs 1))]) (st' := [.long (((0 : Int64).toUInt64 >>> ((xs 1).toInt64.toUInt64 &&& Int64.toUInt64 63)).toInt64)]) rfl ?_
      refine w_top (v' := .long (0 : Int64)) (congrArg Value.long (zl_ushr0 _)) ?_
      refine w_p h_m81 6 (pc' := 28) (L' := []) (st' := [.int (0 : Int32)]) rfl ?_
      refine w_ri h_m81 (z_at.mk 1 rfl rfl) rfl rfl ?_
      show z_W 999 119 11 [(0, .ref 39), (1, .int (xs 1))] [.int (0 : Int32)] m _
      refine w_p h_m119 2 (pc' := 32) (L' := []) (st' := [.long (-9223372036854775808 : Int64)]) rfl ?_
      refine w_rl h_m119 (z_at.mk 1 rfl rfl) rfl ?_
      show z_W 1000 1000 344 [(0, .ref 0), (1, .ref 39), (2, .ref 143), (3, .int (0 : Int32))] [.long (-9223372036854775808 : Int64)] m _
      refine w_p h_m1000 5 (pc' := 349) (L' := [(0, .ref 0), (1, .ref 39), (2, .ref 143), (3, .int (0 : Int32))]) (st' := [.int (1 : Int32), .ref 0, .ref 143, .long (-9223372036854775808 : Int64)]) rfl ?_
      refine w_ae H (j := 1) (pc' := 350) (L' := [(0, .ref 0), (1, .ref 39), (2, .ref 143), (3, .int (0 : Int32))]) h_m1000 (z_at.mk 1 rfl rfl) rfl rfl rfl (by decide) rfl (by decide) rfl rfl rfl ?_
      refine w_cv (H.t rfl) (pc' := 353) (L' := [(0, .ref 0), (1, .ref 39), (2, .ref 143), (3, .int (0 : Int32))]) (rest := [.long (-9223372036854775808 : Int64)]) (Ps := [.int (xs 1)]) (L0 := [(0, .ref 143), (1, .int (xs 1))]) h_m1000 (z_at.mk 3 rfl rfl) (Or.inl ⟨rfl, rfl⟩) rfl rfl (by decide) (by decide) rfl rfl rfl rfl rfl rfl (by decide) rfl rfl rfl ?_
      refine w_p h_m209 1 (pc' := 1) (L' := [(0, .ref 143), (1, .int (xs 1))]) (st' := [.int (xs 1)]) rfl ?_
      refine w_cs (As := [.int (xs 1)]) (rest := []) (j := 204) (L0 := [(0, .int (xs 1))]) (pc' := 4) (L' := [(0, .ref 143), (1, .int (xs 1))]) h_m209 (z_at.mk 3 rfl rfl) (Or.inl ⟨rfl, rfl⟩) rfl rfl rfl rfl rfl ?_
      refine w_p h_m204 3 (pc' := 4) (L' := [(0, .int (xs 1))]) (st' := [.int (59 : Int32), .int (0 : Int32), .int (xs 1)]) rfl ?_
      refine w_cs (As := [.int (xs 1), .int (0 : Int32), .int (59 : Int32)]) (rest := []) (j := 159) (L0 := [(0, .int (xs 1)), (1, .int (0 : Int32)), (2, .int (59 : Int32))]) (pc' := 7) (L' := [(0, .int (xs 1))]) h_m204 (z_at.mk 3 rfl rfl) (Or.inl ⟨rfl, rfl⟩) rfl rfl rfl rfl rfl ?_
      refine w_p h_m159 2 (pc' := 2) (L' := [(0, .int (xs 1)), (1, .int (0 : Int32)), (2, .int (59 : Int32))]) (st' := [.int (0 : Int32), .int (xs 1)]) rfl ?_
      refine w_f2 (pc' := 5) (L' := [(0, .int (xs 1)), (1, .int (0 : Int32)), (2, .int (59 : Int32))]) h_m159 (z_at.mk 3 rfl rfl) rfl (zc (a := (xs 1).toInt) (b := 0) rfl rfl (decide_eq_false (by omega))) rfl rfl ?_
      refine w_p h_m159 2 (pc' := 7) (L' := [(0, .int (xs 1)), (1, .int (0 : Int32)), (2, .int (59 : Int32))]) (st' := [.int (59 : Int32), .int (xs 1)]) rfl ?_
      refine w_f2 (pc' := 10) (L' := [(0, .int (xs 1)), (1, .int (0 : Int32)), (2, .int (59 : Int32))]) h_m159 (z_at.mk 3 rfl rfl) rfl (zc (a := (xs 1).toInt) (b := 59) rfl rfl (decide_eq_false (by omega))) rfl rfl ?_
      refine w_p h_m159 2 (pc' := 15) (L' := []) (st' := [.int (1 : Int32)]) rfl ?_
      refine w_ri h_m159 (z_at.mk 1 rfl rfl) rfl rfl ?_
      show z_W 998 204 7 [(0, .int (xs 1))] [.int (1 : Int32)] m _
      refine w_ri h_m204 (z_at.mk 1 rfl rfl) rfl rfl ?_
      show z_W 999 209 4 [(0, .ref 143), (1, .int (xs 1))] [.int (1 : Int32)] m _
      refine w_p h_m209 2 (pc' := 8) (L' := [(0, .ref 143), (1, .int (xs 1))]) (st' := [.ref 143]) rfl ?_
      refine w_gf H (pc' := 11) (L' := [(0, .ref 143), (1, .int (xs 1))]) h_m209 (z_at.mk 3 rfl rfl) rfl (u := .ref 144) rfl rfl rfl ?_
      refine w_p h_m209 1 (pc' := 12) (L' := [(0, .ref 143), (1, .int (xs 1))]) (st' := [.int (xs 1), .ref 144]) rfl ?_
      refine w_cs (As := [.int (xs 1)]) (rest := [.ref 144]) (j := 174) (L0 := [(0, .int (xs 1))]) (pc' := 15) (L' := [(0, .ref 143), (1, .int (xs 1))]) h_m209 (z_at.mk 3 rfl rfl) (Or.inl ⟨rfl, rfl⟩) rfl rfl rfl rfl rfl ?_
      refine w_p h_m174 5 (pc' := 6) (L' := [(0, .int (xs 1))]) (st' := [.int ((20 : Int32) + ((3 : Int32) * (xs 1)))]) rfl ?_
      refine w_ri h_m174 (z_at.mk 1 rfl rfl) rfl rfl ?_
      show z_W 999 209 15 [(0, .ref 143), (1, .int (xs 1))] [.int ((20 : Int32) + ((3 : Int32) * (xs 1))), .ref 144] m _
      refine w_alx H (t := 0) (n := 2740) (ov := [(17, .int (1024 : Int32)), (16, .int (1 : Int32)), (15, .int (1 : Int32)), (13, .int (12 : Int32)), (12, .int (40 : Int32)), (11, .int (10 : Int32))]) (c := 3 * (xs 1).toInt + 20) (u := .int (0 : Int32)) (pc' := 16) (L' := [(0, .ref 143), (1, .int (xs 1))]) h_m209 (z_at.mk 1 rfl rfl) rfl rfl (zi_add (a := 20) (b := 3 * (xs 1).toInt) (c := 3 * (xs 1).toInt + 20) rfl (zi_mul (a := 3) (b := (xs 1).toInt) (c := 3 * (xs 1).toInt) rfl rfl (by omega) (by omega) (by omega)) (by omega) (by omega) (by omega)) (by omega) (by omega) rfl (w_av_c (by omega) (w_av_c (by omega) (w_av_c (by omega) (w_av_c (by omega) (w_av_c (by omega) (w_av_c (by omega) (w_av_n))))))) rfl rfl ?_
      refine w_p h_m209 3 (pc' := 34) (L' := []) (st' := [.long (-9223372036854775808 : Int64)]) rfl ?_
      refine w_rl h_m209 (z_at.mk 1 rfl rfl) rfl ?_
      show z_W 1000 1000 353 [(0, .ref 0), (1, .ref 39), (2, .ref 143), (3, .int (0 : Int32))] [.long (-9223372036854775808 : Int64), .long (-9223372036854775808 : Int64)] m _
      refine w_p h_m1000 6 (pc' := 20) (L' := [(0, .ref 0), (1, .ref 39), (2, .ref 143), (3, .int (6 : Int32))]) (st' := [.ref 0, .int (6 : Int32)]) rfl ?_
      refine w_lene H (x := (6 : Int32)) (pc' := 21) (L' := [(0, .ref 0), (1, .ref 39), (2, .ref 143), (3, .int (6 : Int32))]) h_m1000 (z_at.mk 1 rfl rfl) (by decide) rfl (by decide) rfl rfl rfl ?_
      refine w_p h_m1000 4 (pc' := 1381) (L' := [(0, .ref 0), (1, .ref 39), (2, .ref 143), (3, .int (6 : Int32))]) (st' := [.int (1 : Int32)]) rfl ?_
      refine w_ri h_m1000 (z_at.mk 1 rfl rfl) rfl rfl ?_
      exact hQ _ _ _ _ H (by decide) (by decide)
    · refine w_t2 (pc' := 14) (L' := []) h_m80 (z_at.mk 3 rfl rfl) rfl (zc (a := (xs 1).toInt) (b := 60) rfl rfl (decide_eq_true (by omega))) rfl rfl ?_
      refine w_p h_m80 1 (pc' := 15) (L' := []) (st' := [.int (0 : Int32)]) rfl ?_
      refine w_ri h_m80 (z_at.mk 1 rfl rfl) rfl rfl ?_
      show z_W 998 81 4 [(0, .ref 41), (1, .int (xs 1))] [.int (0 : Int32)] m _
      refine w_p h_m81 2 (pc' := 28) (L' := []) (st' := [.int (0 : Int32)]) rfl ?_
      refine w_ri h_m81 (z_at.mk 1 rfl rfl) rfl rfl ?_
      show z_W 999 119 11 [(0, .ref 39), (1, .int (xs 1))] [.int (0 : Int32)] m _
      refine w_p h_m119 2 (pc' := 32) (L' := []) (st' := [.long (-9223372036854775808 : Int64)]) rfl ?_
      refine w_rl h_m119 (z_at.mk 1 rfl rfl) rfl ?_
      show z_W 1000 1000 344 [(0, .ref 0), (1, .ref 39), (2, .ref 143), (3, .int (0 : Int32))] [.long (-9223372036854775808 : Int64)] m _
      refine w_p h_m1000 5 (pc' := 349) (L' := [(0, .ref 0), (1, .ref 39), (2, .ref 143), (3, .int (0 : Int32))]) (st' := [.int (1 : Int32), .ref 0, .ref 143, .long (-9223372036854775808 : Int64)]) rfl ?_
      refine w_ae H (j := 1) (pc' := 350) (L' := [(0, .ref 0), (1, .ref 39), (2, .ref 143), (3, .int (0 : Int32))]) h_m1000 (z_at.mk 1 rfl rfl) rfl rfl rfl (by decide) rfl (by decide) rfl rfl rfl ?_
      refine w_cv (H.t rfl) (pc' := 353) (L' := [(0, .ref 0), (1, .ref 39), (2, .ref 143), (3, .int (0 : Int32))]) (rest := [.long (-9223372036854775808 : Int64)]) (Ps := [.int (xs 1)]) (L0 := [(0, .ref 143), (1, .int (xs 1))]) h_m1000 (z_at.mk 3 rfl rfl) (Or.inl ⟨rfl, rfl⟩) rfl rfl (by decide) (by decide) rfl rfl rfl rfl rfl rfl (by decide) rfl rfl rfl ?_
      refine w_p h_m209 1 (pc' := 1) (L' := [(0, .ref 143), (1, .int (xs 1))]) (st' := [.int (xs 1)]) rfl ?_
      refine w_cs (As := [.int (xs 1)]) (rest := []) (j := 204) (L0 := [(0, .int (xs 1))]) (pc' := 4) (L' := [(0, .ref 143), (1, .int (xs 1))]) h_m209 (z_at.mk 3 rfl rfl) (Or.inl ⟨rfl, rfl⟩) rfl rfl rfl rfl rfl ?_
      refine w_p h_m204 3 (pc' := 4) (L' := [(0, .int (xs 1))]) (st' := [.int (59 : Int32), .int (0 : Int32), .int (xs 1)]) rfl ?_
      refine w_cs (As := [.int (xs 1), .int (0 : Int32), .int (59 : Int32)]) (rest := []) (j := 159) (L0 := [(0, .int (xs 1)), (1, .int (0 : Int32)), (2, .int (59 : Int32))]) (pc' := 7) (L' := [(0, .int (xs 1))]) h_m204 (z_at.mk 3 rfl rfl) (Or.inl ⟨rfl, rfl⟩) rfl rfl rfl rfl rfl ?_
      refine w_p h_m159 2 (pc' := 2) (L' := [(0, .int (xs 1)), (1, .int (0 : Int32)), (2, .int (59 : Int32))]) (st' := [.int (0 : Int32), .int (xs 1)]) rfl ?_
      refine w_f2 (pc' := 5) (L' := [(0, .int (xs 1)), (1, .int (0 : Int32)), (2, .int (59 : Int32))]) h_m159 (z_at.mk 3 rfl rfl) rfl (zc (a := (xs 1).toInt) (b := 0) rfl rfl (decide_eq_false (by omega))) rfl rfl ?_
      refine w_p h_m159 2 (pc' := 7) (L' := [(0, .int (xs 1)), (1, .int (0 : Int32)), (2, .int (59 : Int32))]) (st' := [.int (59 : Int32), .int (xs 1)]) rfl ?_
      refine w_t2 (pc' := 14) (L' := []) h_m159 (z_at.mk 3 rfl rfl) rfl (zc (a := (xs 1).toInt) (b := 59) rfl rfl (decide_eq_true (by omega))) rfl rfl ?_
      refine w_p h_m159 1 (pc' := 15) (L' := []) (st' := [.int (0 : Int32)]) rfl ?_
      refine w_ri h_m159 (z_at.mk 1 rfl rfl) rfl rfl ?_
      show z_W 998 204 7 [(0, .int (xs 1))] [.int (0 : Int32)] m _
      refine w_ri h_m204 (z_at.mk 1 rfl rfl) rfl rfl ?_
      show z_W 999 209 4 [(0, .ref 143), (1, .int (xs 1))] [.int (0 : Int32)] m _
      refine w_p h_m209 2 (pc' := 34) (L' := []) (st' := [.long (-9223372036854775808 : Int64)]) rfl ?_
      refine w_rl h_m209 (z_at.mk 1 rfl rfl) rfl ?_
      show z_W 1000 1000 353 [(0, .ref 0), (1, .ref 39), (2, .ref 143), (3, .int (0 : Int32))] [.long (-9223372036854775808 : Int64), .long (-9223372036854775808 : Int64)] m _
      refine w_p h_m1000 6 (pc' := 20) (L' := [(0, .ref 0), (1, .ref 39), (2, .ref 143), (3, .int (6 : Int32))]) (st' := [.ref 0, .int (6 : Int32)]) rfl ?_
      refine w_lene H (x := (6 : Int32)) (pc' := 21) (L' := [(0, .ref 0), (1, .ref 39), (2, .ref 143), (3, .int (6 : Int32))]) h_m1000 (z_at.mk 1 rfl rfl) (by decide) rfl (by decide) rfl rfl rfl ?_
      refine w_p h_m1000 4 (pc' := 1381) (L' := [(0, .ref 0), (1, .ref 39), (2, .ref 143), (3, .int (6 : Int32))]) (st' := [.int (1 : Int32)]) rfl ?_
      refine w_ri h_m1000 (z_at.mk 1 rfl rfl) rfl rfl ?_
      exact hQ _ _ _ _ H (by decide) (by decide)
set_option maxHeartbeats 400000000 in
set_option maxRecDepth 20000 in
theorem w_c2 {xs : Nat → Int32} {m : zM} {Q : Option Value → zM → Prop} (H : w_ok 6 xs 168 63950 w_T0 m) (hQ : ∀ N S T m, w_ok 6 xs N S T m → N ≤ 600039 → S ≤ 7302250 → Q (some (.int 1)) m) : z_W 1000 1000 302 [(0, .ref 0), (1, .ref 39), (2, .ref 143), (3, .int (0 : Int32))] [] m Q := by
  have b1 := zi_bd (xs 1)
  have b2 := zi_bd (xs 2)
  have b3 := zi_bd (xs 3)
  have b4 := zi_bd (xs 4)
  have b5 := zi_bd (xs 5)
  refine w_p h_m1000 5 (pc' := 307) (L' := [(0, .ref 0), (1, .ref 39), (2, .ref 143), (3, .int (0 : Int32))]) (st' := [.int (1 : Int32), .ref 0, .ref 39]) rfl ?_
  refine w_ae H (j := 1) (pc' := 308) (L' := [(0, .ref 0), (1, .ref 39), (2, .ref 143), (3, .int (0 : Int32))]) h_m1000 (z_at.mk 1 rfl rfl) rfl rfl rfl (by decide) rfl (by decide) rfl rfl rfl ?_
  refine w_p h_m1000 4 (pc' := 312) (L' := [(0, .ref 0), (1, .ref 39), (2, .ref 143), (3, .int (0 : Int32))]) (st' := [.int (2 : Int32), .ref 0, .int (xs 1), .ref 39]) rfl ?_
  refine w_ae H (j := 2) (pc' := 313) (L' := [(0, .ref 0), (1, .ref 39), (2, .ref 143), (3, .int (0 : Int32))]) h_m1000 (z_at.mk 1 rfl rfl) rfl rfl rfl (by decide) rfl (by decide) rfl rfl rfl ?_
  refine w_cv (H.t rfl) (pc' := 316) (L' := [(0, .ref 0), (1, .ref 39), (2, .ref 143), (3, .int (0 : Int32))]) (rest := []) (Ps := [.int (xs 1), .int (xs 2)]) (L0 := [(0, .ref 39), (1, .int (xs 1)), (2, .int (xs 2))]) h_m1000 (z_at.mk 3 rfl rfl) (Or.inl ⟨rfl, rfl⟩) rfl rfl (by decide) (by decide) rfl rfl rfl rfl rfl rfl (by decide) rfl rfl rfl ?_
  refine w_p h_m118 1 (pc' := 1) (L' := [(0, .ref 39), (1, .int (xs 1)), (2, .int (xs 2))]) (st' := [.int (xs 1)]) rfl ?_
  refine w_cs (As := [.int (xs 1)]) (rest := []) (j := 80) (L0 := [(0, .int (xs 1))]) (pc' := 4) (L' := [(0, .ref 39), (1, .int (xs 1)), (2, .int (xs 2))]) h_m118 (z_at.mk 3 rfl rfl) (Or.inl ⟨rfl, rfl⟩) rfl rfl rfl rfl rfl ?_
  refine w_p h_m80 1 (pc' := 1) (L' := [(0, .int (xs 1))]) (st' := [.int (xs 1)]) rfl ?_
  by_cases c_1 : (xs 1).toInt < 0
  · refine w_t1 (pc' := 14) (L' := []) h_m80 (z_at.mk 3 rfl rfl) rfl (zc (a := (xs 1).toInt) (b := 0) rfl rfl (decide_eq_true (by omega))) rfl rfl ?_
    refine w_p h_m80 1 (pc' := 15) (L' := []) (st' := [.int (0 : Int32)]) rfl ?_
    refine w_ri h_m80 (z_at.mk 1 rfl rfl) rfl rfl ?_
    show z_W 999 118 4 [(0, .ref 39), (1, .int (xs 1)), (2, .int (xs 2))] [.int (0 : Int32)] m _
    refine w_p h_m118 2 (pc' := 17) (L' := []) (st' := [.int (-1 : Int32)]) rfl ?_
    refine w_ri h_m118 (z_at.mk 1 rfl rfl) rfl rfl ?_
    show z_W 1000 1000 316 [(0, .ref 0), (1, .ref 39), (2, .ref 143), (3, .int (0 : Int32))] [.int (-1 : Int32)] m _
    refine w_p h_m1000 5 (pc' := 321) (L' := [(0, .ref 0), (1, .ref 39), (2, .ref 143), (3, .int (0 : Int32))]) (st' := [.int (1 : Int32), .ref 0, .ref 143, .int (-1 : Int32)]) rfl ?_
    refine w_ae H (j := 1) (pc' := 322) (L' := [(0, .ref 0), (1, .ref 39), (2, .ref 143), (3, .int (0 : Int32))]) h_m1000 (z_at.mk 1 rfl rfl) rfl rfl rfl (by decide) rfl (by decide) rfl rfl rfl ?_
    refine w_p h_m1000 4 (pc' := 326) (L' := [(0, .ref 0), (1, .ref 39), (2, .ref 143), (3, .int (0 : Int32))]) (st' := [.int (2 : Int32), .ref 0, .int (xs 1), .ref 143, .int (-1 : Int32)]) rfl ?_
    refine w_ae H (j := 2) (pc' := 327) (L' := [(0, .ref 0), (1, .ref 39), (2, .ref 143), (3, .int (0 : Int32))]) h_m1000 (z_at.mk 1 rfl rfl) rfl rfl rfl (by decide) rfl (by decide) rfl rfl rfl ?_
    refine w_cv (H.t rfl) (pc' := 330) (L' := [(0, .ref 0), (1, .ref 39), (2, .ref 143), (3, .int (0 : Int32))]) (rest := [.int (-1 : Int32)]) (Ps := [.int (xs 1), .int (xs 2)]) (L0 := [(0, .ref 143), (1, .int (xs 1)), (2, .int (xs 2))]) h_m1000 (z_at.mk 3 rfl rfl) (Or.inl ⟨rfl, rfl⟩) rfl rfl (by decide) (by decide) rfl rfl rfl rfl rfl rfl (by decide) rfl rfl rfl ?_
    refine w_p h_m208 1 (pc' := 1) (L' := [(0, .ref 143), (1, .int (xs 1)), (2, .int (xs 2))]) (st' := [.int (xs 1)]) rfl ?_
    refine w_cs (As := [.int (xs 1)]) (rest := []) (j := 204) (L0 := [(0, .int (xs 1))]) (pc' := 4) (L' := [(0, .ref 143), (1, .int (xs 1)), (2, .int (xs 2))]) h_m208 (z_at.mk 3 rfl rfl) (Or.inl ⟨rfl, rfl⟩) rfl rfl rfl rfl rfl ?_
    refine w_p h_m204 3 (pc' := 4) (L' := [(0, .int (xs 1))]) (st' := [.int (59 : Int32), .int (0 : Int32), .int (xs 1)]) rfl ?_
    refine w_cs (As := [.int (xs 1), .int (0 : Int32), .int (59 : Int32)]) (rest := []) (j := 159) (L0 := [(0, .int (xs 1)), (1, .int (0 : Int32)), (2, .int (59 : Int32))]) (pc' := 7) (L' := [(0, .int (xs 1))]) h_m204 (z_at.mk 3 rfl rfl) (Or.inl ⟨rfl, rfl⟩) rfl rfl rfl rfl rfl ?_
    refine w_p h_m159 2 (pc' := 2) (L' := [(0, .int (xs 1)), (1, .int (0 : Int32)), (2, .int (59 : Int32))]) (st' := [.int (0 : Int32), .int (xs 1)]) rfl ?_
    refine w_t2 (pc' := 14) (L' := []) h_m159 (z_at.mk 3 rfl rfl) rfl (zc (a := (xs 1).toInt) (b := 0) rfl rfl (decide_eq_true (by omega))) rfl rfl ?_
    refine w_p h_m159 1 (pc' := 15) (L' := []) (st' := [.int (0 : Int32)]) rfl ?_
    refine w_ri h_m159 (z_at.mk 1 rfl rfl) rfl rfl ?_
    show z_W 998 204 7 [(0, .int (xs 1))] [.int (0 : Int32)] m _
    refine w_ri h_m204 (z_at.mk 1 rfl rfl) rfl rfl ?_
    show z_W 999 208 4 [(0, .ref 143), (1, .int (xs 1)), (2, .int (xs 2))] [.int (0 : Int32)] m _
    refine w_p h_m208 3 (pc' := 50) (L' := []) (st' := [.int (-1 : Int32)]) rfl ?_
    refine w_ri h_m208 (z_at.mk 1 rfl rfl) rfl rfl ?_
    show z_W 1000 1000 330 [(0, .ref 0), (1, .ref 39), (2, .ref 143), (3, .int (0 : Int32))] [.int (-1 : Int32), .int (-1 : Int32)] m _
    refine w_p h_m1000 5 (pc' := 20) (L' := [(0, .ref 0), (1, .ref 39), (2, .ref 143), (3, .int (6 : Int32))]) (st' := [.ref 0, .int (6 : Int32)]) rfl ?_
    refine w_lene H (x := (6 : Int32)) (pc' := 21) (L' := [(0, .ref 0), (1, .ref 39), (2, .ref 143), (3, .int (6 : Int32))]) h_m1000 (z_at.mk 1 rfl rfl) (by decide) rfl (by decide) rfl rfl rfl ?_
    refine w_p h_m1000 4 (pc' := 1381) (L' := [(0, .ref 0), (1, .ref 39), (2, .ref 143), (3, .int (6 : Int32))]) (st' := [.int (1 : Int32)]) rfl ?_
    refine w_ri h_m1000 (z_at.mk 1 rfl rfl) rfl rfl ?_
    exact hQ _ _ _ _ H (by decide) (by decide)
  · refine w_f1 (pc' := 4) (L' := [(0, .int (xs 1))]) h_m80 (z_at.mk 3 rfl rfl) rfl (zc (a := (xs 1).toInt) (b := 0) rfl rfl (decide_eq_false (by omega))) rfl rfl ?_
    refine w_p h_m80 2 (pc' := 7) (L' := [(0, .int (xs 1))]) (st' := [.int (60 : Int32), .int (xs 1)]) rfl ?_
    by_cases c_2 : (xs 1).toInt < 60
    · refine w_f2 (pc' := 10) (L' := [(0, .int (xs 1))]) h_m80 (z_at.mk 3 rfl rfl) rfl (zc (a := (xs 1).toInt) (b := 60) rfl rfl (decide_eq_false (by omega))) rfl rfl ?_
      refine w_p h_m80 2 (pc' := 15) (L' := []) (st' := [.int (1 : Int32)]) rfl ?_
      refine w_ri h_m80 (z_at.mk 1 rfl rfl) rfl rfl ?_
      show z_W 999 118 4 [(0, .ref 39), (1, .int (xs 1)), (2, .int (xs 2))] [.int (1 : Int32)] m _
      refine w_p h_m118 2 (pc' := 8) (L' := [(0, .ref 39), (1, .int (xs 1)), (2, .int (xs 2))]) (st' := [.int (xs 2)]) rfl ?_
      by_cases c_3 : (xs 2).toInt < 0
      · refine w_t1 (pc' := 16) (L' := []) h_m118 (z_at.mk 3 rfl rfl) rfl (zc (a := (xs 2).toInt) (b := 0) rfl rfl (decide_eq_true (by omega))) rfl rfl ?_
        refine w_p h_m118 1 (pc' := 17) (L' := []) (st' := [.int (-1 : Int32)]) rfl ?_
        refine w_ri h_m118 (z_at.mk 1 rfl rfl) rfl rfl ?_
        show z_W 1000 1000 316 [(0, .ref 0), (1, .ref 39), (2, .ref 143), (3, .int (0 : Int32))] [.int (-1 : Int32)] m _
        refine w_p h_m1000 5 (pc' := 321) (L' := [(0, .ref 0), (1, .ref 39), (2, .ref 143), (3, .int (0 : Int32))]) (st' := [.int (1 : Int32), .ref 0, .ref 143, .int (-1 : Int32)]) rfl ?_
        refine w_ae H (j := 1) (pc' := 322) (L' := [(0, .ref 0), (1, .ref 39), (2, .ref 143), (3, .int (0 : Int32))]) h_m1000 (z_at.mk 1 rfl rfl) rfl rfl rfl (by decide) rfl (by decide) rfl rfl rfl ?_
        refine w_p h_m1000 4 (pc' := 326) (L' := [(0, .ref 0), (1, .ref 39), (2, .ref 143), (3, .int (0 : Int32))]) (st' := [.int (2 : Int32), .ref 0, .int (xs 1), .ref 143, .int (-1 : Int32)]) rfl ?_
        refine w_ae H (j := 2) (pc' := 327) (L' := [(0, .ref 0), (1, .ref 39), (2, .ref 143), (3, .int (0 : Int32))]) h_m1000 (z_at.mk 1 rfl rfl) rfl rfl rfl (by decide) rfl (by decide) rfl rfl rfl ?_
        refine w_cv (H.t rfl) (pc' := 330) (L' := [(0, .ref 0), (1, .ref 39), (2, .ref 143), (3, .int (0 : Int32))]) (rest := [.int (-1 : Int32)]) (Ps := [.int (xs 1), .int (xs 2)]) (L0 := [(0, .ref 143), (1, .int (xs 1)), (2, .int (xs 2))]) h_m1000 (z_at.mk 3 rfl rfl) (Or.inl ⟨rfl, rfl⟩) rfl rfl (by decide) (by decide) rfl rfl rfl rfl rfl rfl (by decide) rfl rfl rfl ?_
        refine w_p h_m208 1 (pc' := 1) (L' := [(0, .ref 143), (1, .int (xs 1)), (2, .int (xs 2))]) (st' := [.int (xs 1)]) rfl ?_
        refine w_cs (As := [.int (xs 1)]) (rest := []) (j := 204) (L0 := [(0, .int (xs 1))]) (pc' := 4) (L' := [(0, .ref 143), (1, .int (xs 1)), (2, .int (xs 2))]) h_m208 (z_at.mk 3 rfl rfl) (Or.inl ⟨rfl, rfl⟩) rfl rfl rfl rfl rfl ?_
        refine w_p h_m204 3 (pc' := 4) (L' := [(0, .int (xs 1))]) (st' := [.int (59 : Int32), .int (0 : Int32), .int (xs 1)]) rfl ?_
        refine w_cs (As := [.int (xs 1), .int (0 : Int32), .int (59 : Int32)]) (rest := []) (j := 159) (L0 := [(0, .int (xs 1)), (1, .int (0 : Int32)), (2, .int (59 : Int32))]) (pc' := 7) (L' := [(0, .int (xs 1))]) h_m204 (z_at.mk 3 rfl rfl) (Or.inl ⟨rfl, rfl⟩) rfl rfl rfl rfl rfl ?_
        refine w_p h_m159 2 (pc' := 2) (L' := [(0, .int (xs 1)), (1, .int (0 : Int32)), (2, .int (59 : Int32))]) (st' := [.int (0 : Int32), .int (xs 1)]) rfl ?_
        refine w_f2 (pc' := 5) (L' := [(0, .int (xs 1)), (1, .int (0 : Int32)), (2, .int (59 : Int32))]) h_m159 (z_at.mk 3 rfl rfl) rfl (zc (a := (xs 1).toInt) (b := 0) rfl rfl (decide_eq_false (by omega))) rfl rfl ?_
        refine w_p h_m159 2 (pc' := 7) (L' := [(0, .int (xs 1)), (1, .int (0 : Int32)), (2, .int (59 : Int32))]) (st' := [.int (59 : Int32), .int (xs 1)]) rfl ?_
        refine w_f2 (pc' := 10) (L' := [(0, .int (xs 1)), (1, .int (0 : Int32)), (2, .int (59 : Int32))]) h_m159 (z_at.mk 3 rfl rfl) rfl (zc (a := (xs 1).toInt) (b := 59) rfl rfl (decide_eq_false (by omega))) rfl rfl ?_
        refine w_p h_m159 2 (pc' := 15) (L' := []) (st' := [.int (1 : Int32)]) rfl ?_
        refine w_ri h_m159 (z_at.mk 1 rfl rfl) rfl rfl ?_
        show z_W 998 204 7 [(0, .int (xs 1))] [.int (1 : Int32)] m _
        refine w_ri h_m204 (z_at.mk 1 rfl rfl) rfl rfl ?_
        show z_W 999 208 4 [(0, .ref 143), (1, .int (xs 1)), (2, .int (xs 2))] [.int (1 : Int32)] m _
        refine w_p h_m208 4 (pc' := 10) (L' := [(0, .ref 143), (1, .int (xs 1)), (2, .int (xs 2))]) (st' := [.int (1 : Int32), .int (0 : Int32), .int (xs 2)]) rfl ?_
        refine w_cs (As := [.int (xs 2), .int (0 : Int32), .int (1 : Int32)]) (rest := []) (j := 159) (L0 := [(0, .int (xs 2)), (1, .int (0 : Int32)), (2, .int (1 : Int32))]) (pc' := 13) (L' := [(0, .ref 143), (1, .int (xs 1)), (2, .int (xs 2))]) h_m208 (z_at.mk 3 rfl rfl) (Or.inl ⟨rfl, rfl⟩) rfl rfl rfl rfl rfl ?_
        refine w_p h_m159 2 (pc' := 2) (L' := [(0, .int (xs 2)), (1, .int (0 : Int32)), (2, .int (1 : Int32))]) (st' := [.int (0 : Int32), .int (xs 2)]) rfl ?_
        refine w_t2 (pc' := 14) (L' := []) h_m159 (z_at.mk 3 rfl rfl) rfl (zc (a := (xs 2).toInt) (b := 0) rfl rfl (decide_eq_true (by omega))) rfl rfl ?_
        refine w_p h_m159 1 (pc' := 15) (L' := []) (st' := [.int (0 : Int32)]) rfl ?_
        refine w_ri h_m159 (z_at.mk 1 rfl rfl) rfl rfl ?_
        show z_W 999 208 13 [(0, .ref 143), (1, .int (xs 1)), (2, .int (xs 2))] [.int (0 : Int32)] m _
        refine w_p h_m208 3 (pc' := 50) (L' := []) (st' := [.int (-1 : Int32)]) rfl ?_
        refine w_ri h_m208 (z_at.mk 1 rfl rfl) rfl rfl ?_
        show z_W 1000 1000 330 [(0, .ref 0), (1, .ref 39), (2, .ref 143), (3, .int (0 : Int32))] [.int (-1 : Int32), .int (-1 : Int32)] m _
        refine w_p h_m1000 5 (pc' := 20) (L' := [(0, .ref 0), (1, .ref 39), (2, .ref 143), (3, .int (6 : Int32))]) (st' := [.ref 0, .int (6 : Int32)]) rfl ?_
        refine w_lene H (x := (6 : Int32)) (pc' := 21) (L' := [(0, .ref 0), (1, .ref 39), (2, .ref 143), (3, .int (6 : Int32))]) h_m1000 (z_at.mk 1 rfl rfl) (by decide) rfl (by decide) rfl rfl rfl ?_
        refine w_p h_m1000 4 (pc' := 1381) (L' := [(0, .ref 0), (1, .ref 39), (2, .ref 143), (3, .int (6 : Int32))]) (st' := [.int (1 : Int32)]) rfl ?_
        refine w_ri h_m1000 (z_at.mk 1 rfl rfl) rfl rfl ?_
        exact hQ _ _ _ _ H (by decide) (by decide)
      · refine w_f1 (pc' := 11) (L' := [(0, .ref 39), (1, .int (xs 1)), (2, .int (xs 2))]) h_m118 (z_at.mk 3 rfl rfl) rfl (zc (a := (xs 2).toInt) (b := 0) rfl rfl (decide_eq_false (by omega))) rfl rfl ?_
        refine w_p h_m118 2 (pc' := 13) (L' := [(0, .ref 39), (1, .int (xs 1)), (2, .int (xs 2))]) (st' := [.int (1 : Int32), .int (xs 2)]) rfl ?_
        by_cases c_4 : (xs 2).toInt ≤ 1
        · refine w_t2 (pc' := 18) (L' := [(0, .ref 39), (1, .int (xs 1)), (2, .int (xs 2))]) h_m118 (z_at.mk 3 rfl rfl) rfl (zc (a := (xs 2).toInt) (b := 1) rfl rfl (decide_eq_true (by omega))) rfl rfl ?_
          refine w_p h_m118 1 (pc' := 19) (L' := [(0, .ref 39), (1, .int (xs 1)), (2, .int (xs 2))]) (st' := [.ref 39]) rfl ?_
          refine w_gf H (pc' := 22) (L' := [(0, .ref 39), (1, .int (xs 1)), (2, .int (xs 2))]) h_m118 (z_at.mk 3 rfl rfl) rfl (u := .ref 40) rfl rfl rfl ?_
          refine w_gf H (pc' := 25) (L' := [(0, .ref 39), (1, .int (xs 1)), (2, .int (xs 2))]) h_m118 (z_at.mk 3 rfl rfl) rfl (u := .ref 41) rfl rfl rfl ?_
          refine w_p h_m118 1 (pc' := 26) (L' := [(0, .ref 39), (1, .int (xs 1)), (2, .int (xs 2))]) (st' := [.int (xs 1), .ref 41]) rfl ?_
          refine w_cv (H.t rfl) (pc' := 29) (L' := [(0, .ref 39), (1, .int (xs 1)), (2, .int (xs 2))]) (rest := []) (Ps := [.int (xs 1)]) (L0 := [(0, .ref 41), (1, .int (xs 1))]) h_m118 (z_at.mk 3 rfl rfl) (Or.inl ⟨rfl, rfl⟩) rfl rfl (by decide) (by decide) rfl rfl rfl rfl rfl rfl (by decide) rfl rfl rfl ?_
          refine w_p h_m81 1 (pc' := 1) (L' := [(0, .ref 41), (1, .int (xs 1))]) (st' := [.int (xs 1)]) rfl ?_
          refine w_cs (As := [.int (xs 1)]) (rest := []) (j := 80) (L0 := [(0, .int (xs 1))]) (pc' := 4) (L' := [(0, .ref 41), (1, .int (xs 1))]) h_m81 (z_at.mk 3 rfl rfl) (Or.inl ⟨rfl, rfl⟩) rfl rfl rfl rfl rfl ?_
          refine w_p h_m80 1 (pc' := 1) (L' := [(0, .int (xs 1))]) (st' := [.int (xs 1)]) rfl ?_
          refine w_f1 (pc' := 4) (L' := [(0, .int (xs 1))]) h_m80 (z_at.mk 3 rfl rfl) rfl (zc (a := (xs 1).toInt) (b := 0) rfl rfl (decide_eq_false (by omega))) rfl rfl ?_
          refine w_p h_m80 2 (pc' := 7) (L' := [(0, .int (xs 1))]) (st' := [.int (60 : Int32), .int (xs 1)]) rfl ?_
          refine w_f2 (pc' := 10) (L' := [(0, .int (xs 1))]) h_m80 (z_at.mk 3 rfl rfl) rfl (zc (a := (xs 1).toInt) (b := 60) rfl rfl (decide_eq_false (by omega))) rfl rfl ?_
          refine w_p h_m80 2 (pc' := 15) (L' := []) (st' := [.int (1 : Int32)]) rfl ?_
          refine w_ri h_m80 (z_at.mk 1 rfl rfl) rfl rfl ?_
          show z_W 998 81 4 [(0, .ref 41), (1, .int (xs 1))] [.int (1 : Int32)] m _
          refine w_p h_m81 2 (pc' := 8) (L' := [(0, .ref 41), (1, .int (xs 1))]) (st' := [.ref 41]) rfl ?_
          refine w_gf H (pc' := 11) (L' := [(0, .ref 41), (1, .int (xs 1))]) h_m81 (z_at.mk 3 rfl rfl) rfl (u := .ref 46) rfl rfl rfl ?_
          refine w_p h_m81 1 (pc' := 13) (L' := [(0, .ref 41), (1, .int (xs 1))]) (st' := [.int (32 : Int32), .ref 46]) rfl ?_
          refine w_al H (t := 1) (j := 32) (pc' := 14) (L' := [(0, .ref 41), (1, .int (xs 1))]) h_m81 (z_at.mk 1 rfl rfl) rfl rfl rfl (u := .long (0 : Int64)) rfl rfl rfl ?_
          refine w_p h_m81 2 (pc' := 16) (L' := [(0, .ref 41), (1, .int (xs 1))]) (st' := [.long (((0 : Int64).toUInt64 >>> ((xs 1).toInt64.toUInt64 &&& Int64.toUInt64 63)).toInt64)]) rfl ?_
          refine w_top (v' := .long (0 : Int64)) (congrArg Value.long (zl_ushr0 _)) ?_
          refine w_p h_m81 6 (pc' := 28) (L' := []) (st' := [.int (0 : Int32)]) rfl ?_
          refine w_ri h_m81 (z_at.mk 1 rfl rfl) rfl rfl ?_
          show z_W 999 118 29 [(0, .ref 39), (1, .int (xs 1)), (2, .int (xs 2))] [.int (0 : Int32)] m _
          refine w_p h_m118 2 (pc' := 34) (L' := [(0, .ref 39), (1, .int (xs 1)), (2, .int (xs 2))]) (st' := [.int (-3 : Int32)]) rfl ?_
          refine w_ri h_m118 (z_at.mk 1 rfl rfl) rfl rfl ?_
          show z_W 1000 1000 316 [(0, .ref 0), (1, .ref 39), (2, .ref 143), (3, .int (0 : Int32))] [.int (-3 : Int32)] m _
          refine w_p h_m1000 5 (pc' := 321) (L' := [(0, .ref 0), (1, .ref 39), (2, .ref 143), (3, .int (0 : Int32))]) (st' := [.int (1 : Int32), .ref 0, .ref 143, .int (-3 : Int32)]) rfl ?_
          refine w_ae H (j := 1) (pc' := 322) (L' := [(0, .ref 0), (1, .ref 39), (2, .ref 143), (3, .int (0 : Int32))]) h_m1000 (z_at.mk 1 rfl rfl) rfl rfl rfl (by decide) rfl (by decide) rfl rfl rfl ?_
          refine w_p h_m1000 4 (pc' := 326) (L' := [(0, .ref 0), (1, .ref 39), (2, .ref 143), (3, .int (0 : Int32))]) (st' := [.int (2 : Int32), .ref 0, .int (xs 1), .ref 143, .int (-3 : Int32)]) rfl ?_
          refine w_ae H (j := 2) (pc' := 327) (L' := [(0, .ref 0), (1, .ref 39), (2, .ref 143), (3, .int (0 : Int32))]) h_m1000 (z_at.mk 1 rfl rfl) rfl rfl rfl (by decide) rfl (by decide) rfl rfl rfl ?_
          refine w_cv (H.t rfl) (pc' := 330) (L' := [(0, .ref 0), (1, .ref 39), (2, .ref 143), (3, .int (0 : Int32))]) (rest := [.int (-3 : Int32)]) (Ps := [.int (xs 1), .int (xs 2)]) (L0 := [(0, .ref 143), (1, .int (xs 1)), (2, .int (xs 2))]) h_m1000 (z_at.mk 3 rfl rfl) (Or.inl ⟨rfl, rfl⟩) rfl rfl (by decide) (by decide) rfl rfl rfl rfl rfl rfl (by decide) rfl rfl rfl ?_
          refine w_p h_m208 1 (pc' := 1) (L' := [(0, .ref 143), (1, .int (xs 1)), (2, .int (xs 2))]) (st' := [.int (xs 1)]) rfl ?_
          refine w_cs (As := [.int (xs 1)]) (rest := []) (j := 204) (L0 := [(0, .int (xs 1))]) (pc' := 4) (L' := [(0, .ref 143), (1, .int (xs 1)), (2, .int (xs 2))]) h_m208 (z_at.mk 3 rfl rfl) (Or.inl ⟨rfl, rfl⟩) rfl rfl rfl rfl rfl ?_
          refine w_p h_m204 3 (pc' := 4) (L' := [(0, .int (xs 1))]) (st' := [.int (59 : Int32), .int (0 : Int32), .int (xs 1)]) rfl ?_
          refine w_cs (As := [.int (xs 1), .int (0 : Int32), .int (59 : Int32)]) (rest := []) (j := 159) (L0 := [(0, .int (xs 1)), (1, .int (0 : Int32)), (2, .int (59 : Int32))]) (pc' := 7) (L' := [(0, .int (xs 1))]) h_m204 (z_at.mk 3 rfl rfl) (Or.inl ⟨rfl, rfl⟩) rfl rfl rfl rfl rfl ?_
          refine w_p h_m159 2 (pc' := 2) (L' := [(0, .int (xs 1)), (1, .int (0 : Int32)), (2, .int (59 : Int32))]) (st' := [.int (0 : Int32), .int (xs 1)]) rfl ?_
          refine w_f2 (pc' := 5) (L' := [(0, .int (xs 1)), (1, .int (0 : Int32)), (2, .int (59 : Int32))]) h_m159 (z_at.mk 3 rfl rfl) rfl (zc (a := (xs 1).toInt) (b := 0) rfl rfl (decide_eq_false (by omega))) rfl rfl ?_
          refine w_p h_m159 2 (pc' := 7) (L' := [(0, .int (xs 1)), (1, .int (0 : Int32)), (2, .int (59 : Int32))]) (st' := [.int (59 : Int32), .int (xs 1)]) rfl ?_
          refine w_f2 (pc' := 10) (L' := [(0, .int (xs 1)), (1, .int (0 : Int32)), (2, .int (59 : Int32))]) h_m159 (z_at.mk 3 rfl rfl) rfl (zc (a := (xs 1).toInt) (b := 59) rfl rfl (decide_eq_false (by omega))) rfl rfl ?_
          refine w_p h_m159 2 (pc' := 15) (L' := []) (st' := [.int (1 : Int32)]) rfl ?_
          refine w_ri h_m159 (z_at.mk 1 rfl rfl) rfl rfl ?_
          show z_W 998 204 7 [(0, .int (xs 1))] [.int (1 : Int32)] m _
          refine w_ri h_m204 (z_at.mk 1 rfl rfl) rfl rfl ?_
          show z_W 999 208 4 [(0, .ref 143), (1, .int (xs 1)), (2, .int (xs 2))] [.int (1 : Int32)] m _
          refine w_p h_m208 4 (pc' := 10) (L' := [(0, .ref 143), (1, .int (xs 1)), (2, .int (xs 2))]) (st' := [.int (1 : Int32), .int (0 : Int32), .int (xs 2)]) rfl ?_
          refine w_cs (As := [.int (xs 2), .int (0 : Int32), .int (1 : Int32)]) (rest := []) (j := 159) (L0 := [(0, .int (xs 2)), (1, .int (0 : Int32)), (2, .int (1 : Int32))]) (pc' := 13) (L' := [(0, .ref 143), (1, .int (xs 1)), (2, .int (xs 2))]) h_m208 (z_at.mk 3 rfl rfl) (Or.inl ⟨rfl, rfl⟩) rfl rfl rfl rfl rfl ?_
          refine w_p h_m159 2 (pc' := 2) (L' := [(0, .int (xs 2)), (1, .int (0 : Int32)), (2, .int (1 : Int32))]) (st' := [.int (0 : Int32), .int (xs 2)]) rfl ?_
          refine w_f2 (pc' := 5) (L' := [(0, .int (xs 2)), (1, .int (0 : Int32)), (2, .int (1 : Int32))]) h_m159 (z_at.mk 3 rfl rfl) rfl (zc (a := (xs 2).toInt) (b := 0) rfl rfl (decide_eq_false (by omega))) rfl rfl ?_
          refine w_p h_m159 2 (pc' := 7) (L' := [(0, .int (xs 2)), (1, .int (0 : Int32)), (2, .int (1 : Int32))]) (st' := [.int (1 : Int32), .int (xs 2)]) rfl ?_
          refine w_f2 (pc' := 10) (L' := [(0, .int (xs 2)), (1, .int (0 : Int32)), (2, .int (1 : Int32))]) h_m159 (z_at.mk 3 rfl rfl) rfl (zc (a := (xs 2).toInt) (b := 1) rfl rfl (decide_eq_false (by omega))) rfl rfl ?_
          refine w_p h_m159 2 (pc' := 15) (L' := []) (st' := [.int (1 : Int32)]) rfl ?_
          refine w_ri h_m159 (z_at.mk 1 rfl rfl) rfl rfl ?_
          show z_W 999 208 13 [(0, .ref 143), (1, .int (xs 1)), (2, .int (xs 2))] [.int (1 : Int32)] m _
          refine w_p h_m208 2 (pc' := 21) (L' := [(0, .ref 143), (1, .int (xs 1)), (2, .int (xs 2))]) (st' := [.ref 143]) rfl ?_
          refine w_gf H (pc' := 24) (L' := [(0, .ref 143), (1, .int (xs 1)), (2, .int (xs 2))]) h_m208 (z_at.mk 3 rfl rfl) rfl (u := .ref 144) rfl rfl rfl ?_
          refine w_p h_m208 1 (pc' := 25) (L' := [(0, .ref 143), (1, .int (xs 1)), (2, .int (xs 2))]) (st' := [.int (xs 1), .ref 144]) rfl ?_
          refine w_cs (As := [.int (xs 1)]) (rest := [.ref 144]) (j := 174) (L0 := [(0, .int (xs 1))]) (pc' := 28) (L' := [(0, .ref 143), (1, .int (xs 1)), (2, .int (xs 2))]) h_m208 (z_at.mk 3 rfl rfl) (Or.inl ⟨rfl, rfl⟩) rfl rfl rfl rfl rfl ?_
          refine w_p h_m174 5 (pc' := 6) (L' := [(0, .int (xs 1))]) (st' := [.int ((20 : Int32) + ((3 : Int32) * (xs 1)))]) rfl ?_
          refine w_ri h_m174 (z_at.mk 1 rfl rfl) rfl rfl ?_
          show z_W 999 208 28 [(0, .ref 143), (1, .int (xs 1)), (2, .int (xs 2))] [.int ((20 : Int32) + ((3 : Int32) * (xs 1))), .ref 144] m _
          refine w_alx H (t := 0) (n := 2740) (ov := [(17, .int (1024 : Int32)), (16, .int (1 : Int32)), (15, .int (1 : Int32)), (13, .int (12 : Int32)), (12, .int (40 : Int32)), (11, .int (10 : Int32))]) (c := 3 * (xs 1).toInt + 20) (u := .int (0 : Int32)) (pc' := 29) (L' := [(0, .ref 143), (1, .int (xs 1)), (2, .int (xs 2))]) h_m208 (z_at.mk 1 rfl rfl) rfl rfl (zi_add (a := 20) (b := 3 * (xs 1).toInt) (c := 3 * (xs 1).toInt + 20) rfl (zi_mul (a := 3) (b := (xs 1).toInt) (c := 3 * (xs 1).toInt) rfl rfl (by omega) (by omega) (by omega)) (by omega) (by omega) (by omega)) (by omega) (by omega) rfl (w_av_c (by omega) (w_av_c (by omega) (w_av_c (by omega) (w_av_c (by omega) (w_av_c (by omega) (w_av_c (by omega) (w_av_n))))))) rfl rfl ?_
          refine w_p h_m208 3 (pc' := 50) (L' := []) (st' := [.int (-3 : Int32)]) rfl ?_
          refine w_ri h_m208 (z_at.mk 1 rfl rfl) rfl rfl ?_
          show z_W 1000 1000 330 [(0, .ref 0), (1, .ref 39), (2, .ref 143), (3, .int (0 : Int32))] [.int (-3 : Int32), .int (-3 : Int32)] m _
          refine w_p h_m1000 5 (pc' := 20) (L' := [(0, .ref 0), (1, .ref 39), (2, .ref 143), (3, .int (6 : Int32))]) (st' := [.ref 0, .int (6 : Int32)]) rfl ?_
          refine w_lene H (x := (6 : Int32)) (pc' := 21) (L' := [(0, .ref 0), (1, .ref 39), (2, .ref 143), (3, .int (6 : Int32))]) h_m1000 (z_at.mk 1 rfl rfl) (by decide) rfl (by decide) rfl rfl rfl ?_
          refine w_p h_m1000 4 (pc' := 1381) (L' := [(0, .ref 0), (1, .ref 39), (2, .ref 143), (3, .int (6 : Int32))]) (st' := [.int (1 : Int32)]) rfl ?_
          refine w_ri h_m1000 (z_at.mk 1 rfl rfl) rfl rfl ?_
          exact hQ _ _ _ _ H (by decide) (by decide)
        · refine w_f2 (pc' := 16) (L' := []) h_m118 (z_at.mk 3 rfl rfl) rfl (zc (a := (xs 2).toInt) (b := 1) rfl rfl (decide_eq_false (by omega))) rfl rfl ?_
          refine w_p h_m118 1 (pc' := 17) (L' := []) (st' := [.int (-1 : Int32)]) rfl ?_
          refine w_ri h_m118 (z_at.mk 1 rfl rfl) rfl rfl ?_
          show z_W 1000 1000 316 [(0, .ref 0), (1, .ref 39), (2, .ref 143), (3, .int (0 : Int32))] [.int (-1 : Int32)] m _
          refine w_p h_m1000 5 (pc' := 321) (L' := [(0, .ref 0), (1, .ref 39), (2, .ref 143), (3, .int (0 : Int32))]) (st' := [.int (1 : Int32), .ref 0, .ref 143, .int (-1 : Int32)]) rfl ?_
          refine w_ae H (j := 1) (pc' := 322) (L' := [(0, .ref 0), (1, .ref 39), (2, .ref 143), (3, .int (0 : Int32))]) h_m1000 (z_at.mk 1 rfl rfl) rfl rfl rfl (by decide) rfl (by decide) rfl rfl rfl ?_
          refine w_p h_m1000 4 (pc' := 326) (L' := [(0, .ref 0), (1, .ref 39), (2, .ref 143), (3, .int (0 : Int32))]) (st' := [.int (2 : Int32), .ref 0, .int (xs 1), .ref 143, .int (-1 : Int32)]) rfl ?_
          refine w_ae H (j := 2) (pc' := 327) (L' := [(0, .ref 0), (1, .ref 39), (2, .ref 143), (3, .int (0 : Int32))]) h_m1000 (z_at.mk 1 rfl rfl) rfl rfl rfl (by decide) rfl (by decide) rfl rfl rfl ?_
          refine w_cv (H.t rfl) (pc' := 330) (L' := [(0, .ref 0), (1, .ref 39), (2, .ref 143), (3, .int (0 : Int32))]) (rest := [.int (-1 : Int32)]) (Ps := [.int (xs 1), .int (xs 2)]) (L0 := [(0, .ref 143), (1, .int (xs 1)), (2, .int (xs 2))]) h_m1000 (z_at.mk 3 rfl rfl) (Or.inl ⟨rfl, rfl⟩) rfl rfl (by decide) (by decide) rfl rfl rfl rfl rfl rfl (by decide) rfl rfl rfl ?_
          refine w_p h_m208 1 (pc' := 1) (L' := [(0, .ref 143), (1, .int (xs 1)), (2, .int (xs 2))]) (st' := [.int (xs 1)]) rfl ?_
          refine w_cs (As := [.int (xs 1)]) (rest := []) (j := 204) (L0 := [(0, .int (xs 1))]) (pc' := 4) (L' := [(0, .ref 143), (1, .int (xs 1)), (2, .int (xs 2))]) h_m208 (z_at.mk 3 rfl rfl) (Or.inl ⟨rfl, rfl⟩) rfl rfl rfl rfl rfl ?_
          refine w_p h_m204 3 (pc' := 4) (L' := [(0, .int (xs 1))]) (st' := [.int (59 : Int32), .int (0 : Int32), .int (xs 1)]) rfl ?_
          refine w_cs (As := [.int (xs 1), .int (0 : Int32), .int (59 : Int32)]) (rest := []) (j := 159) (L0 := [(0, .int (xs 1)), (1, .int (0 : Int32)), (2, .int (59 : Int32))]) (pc' := 7) (L' := [(0, .int (xs 1))]) h_m204 (z_at.mk 3 rfl rfl) (Or.inl ⟨rfl, rfl⟩) rfl rfl rfl rfl rfl ?_
          refine w_p h_m159 2 (pc' := 2) (L' := [(0, .int (xs 1)), (1, .int (0 : Int32)), (2, .int (59 : Int32))]) (st' := [.int (0 : Int32), .int (xs 1)]) rfl ?_
          refine w_f2 (pc' := 5) (L' := [(0, .int (xs 1)), (1, .int (0 : Int32)), (2, .int (59 : Int32))]) h_m159 (z_at.mk 3 rfl rfl) rfl (zc (a := (xs 1).toInt) (b := 0) rfl rfl (decide_eq_false (by omega))) rfl rfl ?_
          refine w_p h_m159 2 (pc' := 7) (L' := [(0, .int (xs 1)), (1, .int (0 : Int32)), (2, .int (59 : Int32))]) (st' := [.int (59 : Int32), .int (xs 1)]) rfl ?_
          refine w_f2 (pc' := 10) (L' := [(0, .int (xs 1)), (1, .int (0 : Int32)), (2, .int (59 : Int32))]) h_m159 (z_at.mk 3 rfl rfl) rfl (zc (a := (xs 1).toInt) (b := 59) rfl rfl (decide_eq_false (by omega))) rfl rfl ?_
          refine w_p h_m159 2 (pc' := 15) (L' := []) (st' := [.int (1 : Int32)]) rfl ?_
          refine w_ri h_m159 (z_at.mk 1 rfl rfl) rfl rfl ?_
          show z_W 998 204 7 [(0, .int (xs 1))] [.int (1 : Int32)] m _
          refine w_ri h_m204 (z_at.mk 1 rfl rfl) rfl rfl ?_
          show z_W 999 208 4 [(0, .ref 143), (1, .int (xs 1)), (2, .int (xs 2))] [.int (1 : Int32)] m _
          refine w_p h_m208 4 (pc' := 10) (L' := [(0, .ref 143), (1, .int (xs 1)), (2, .int (xs 2))]) (st' := [.int (1 : Int32), .int (0 : Int32), .int (xs 2)]) rfl ?_
          refine w_cs (As := [.int (xs 2), .int (0 : Int32), .int (1 : Int32)]) (rest := []) (j := 159) (L0 := [(0, .int (xs 2)), (1, .int (0 : Int32)), (2, .int (1 : Int32))]) (pc' := 13) (L' := [(0, .ref 143), (1, .int (xs 1)), (2, .int (xs 2))]) h_m208 (z_at.mk 3 rfl rfl) (Or.inl ⟨rfl, rfl⟩) rfl rfl rfl rfl rfl ?_
          refine w_p h_m159 2 (pc' := 2) (L' := [(0, .int (xs 2)), (1, .int (0 : Int32)), (2, .int (1 : Int32))]) (st' := [.int (0 : Int32), .int (xs 2)]) rfl ?_
          refine w_f2 (pc' := 5) (L' := [(0, .int (xs 2)), (1, .int (0 : Int32)), (2, .int (1 : Int32))]) h_m159 (z_at.mk 3 rfl rfl) rfl (zc (a := (xs 2).toInt) (b := 0) rfl rfl (decide_eq_false (by omega))) rfl rfl ?_
          refine w_p h_m159 2 (pc' := 7) (L' := [(0, .int (xs 2)), (1, .int (0 : Int32)), (2, .int (1 : Int32))]) (st' := [.int (1 : Int32), .int (xs 2)]) rfl ?_
          refine w_t2 (pc' := 14) (L' := []) h_m159 (z_at.mk 3 rfl rfl) rfl (zc (a := (xs 2).toInt) (b := 1) rfl rfl (decide_eq_true (by omega))) rfl rfl ?_
          refine w_p h_m159 1 (pc' := 15) (L' := []) (st' := [.int (0 : Int32)]) rfl ?_
          refine w_ri h_m159 (z_at.mk 1 rfl rfl) rfl rfl ?_
          show z_W 999 208 13 [(0, .ref 143), (1, .int (xs 1)), (2, .int (xs 2))] [.int (0 : Int32)] m _
          refine w_p h_m208 3 (pc' := 50) (L' := []) (st' := [.int (-1 : Int32)]) rfl ?_
          refine w_ri h_m208 (z_at.mk 1 rfl rfl) rfl rfl ?_
          show z_W 1000 1000 330 [(0, .ref 0), (1, .ref 39), (2, .ref 143), (3, .int (0 : Int32))] [.int (-1 : Int32), .int (-1 : Int32)] m _
          refine w_p h_m1000 5 (pc' := 20) (L' := [(0, .ref 0), (1, .ref 39), (2, .ref 143), (3, .int (6 : Int32))]) (st' := [.ref 0, .int (6 : Int32)]) rfl ?_
          refine w_lene H (x := (6 : Int32)) (pc' := 21) (L' := [(0, .ref 0), (1, .ref 39), (2, .ref 143), (3, .int (6 : Int32))]) h_m1000 (z_at.mk 1 rfl rfl) (by decide) rfl (by decide) rfl rfl rfl ?_
          refine w_p h_m1000 4 (pc' := 1381) (L' := [(0, .ref 0), (1, .ref 39), (2, .ref 143), (3, .int (6 : Int32))]) (st' := [.int (1 : Int32)]) rfl ?_
          refine w_ri h_m1000 (z_at.mk 1 rfl rfl) rfl rfl ?_
          exact hQ _ _ _ _ H (by decide) (by decide)
    · refine w_t2 (pc' := 14) (L' := []) h_m80 (z_at.mk 3 rfl rfl) rfl (zc (a := (xs 1).toInt) (b := 60) rfl rfl (decide_eq_true (by omega))) rfl rfl ?_
      refine w_p h_m80 1 (pc' := 15) (L' := []) (st' := [.int (0 : Int32)]) rfl ?_
      refine w_ri h_m80 (z_at.mk 1 rfl rfl) rfl rfl ?_
      show z_W 999 118 4 [(0, .ref 39), (1, .int (xs 1)), (2, .int (xs 2))] [.int (0 : Int32)] m _
      refine w_p h_m118 2 (pc' := 17) (L' := []) (st' := [.int (-1 : Int32)]) rfl ?_
      refine w_ri h_m118 (z_at.mk 1 rfl rfl) rfl rfl ?_
      show z_W 1000 1000 316 [(0, .ref 0), (1, .ref 39), (2, .ref 143), (3, .int (0 : Int32))] [.int (-1 : Int32)] m _
      refine w_p h_m1000 5 (pc' := 321) (L' := [(0, .ref 0), (1, .ref 39), (2, .ref 143), (3, .int (0 : Int32))]) (st' := [.int (1 : Int32), .ref 0, .ref 143, .int (-1 : Int32)]) rfl ?_
      refine w_ae H (j := 1) (pc' := 322) (L' := [(0, .ref 0), (1, .ref 39), (2, .ref 143), (3, .int (0 : Int32))]) h_m1000 (z_at.mk 1 rfl rfl) rfl rfl rfl (by decide) rfl (by decide) rfl rfl rfl ?_
      refine w_p h_m1000 4 (pc' := 326) (L' := [(0, .ref 0), (1, .ref 39), (2, .ref 143), (3, .int (0 : Int32))]) (st' := [.int (2 : Int32), .ref 0, .int (xs 1), .ref 143, .int (-1 : Int32)]) rfl ?_
      refine w_ae H (j := 2) (pc' := 327) (L' := [(0, .ref 0), (1, .ref 39), (2, .ref 143), (3, .int (0 : Int32))]) h_m1000 (z_at.mk 1 rfl rfl) rfl rfl rfl (by decide) rfl (by decide) rfl rfl rfl ?_
      refine w_cv (H.t rfl) (pc' := 330) (L' := [(0, .ref 0), (1, .ref 39), (2, .ref 143), (3, .int (0 : Int32))]) (rest := [.int (-1 : Int32)]) (Ps := [.int (xs 1), .int (xs 2)]) (L0 := [(0, .ref 143), (1, .int (xs 1)), (2, .int (xs 2))]) h_m1000 (z_at.mk 3 rfl rfl) (Or.inl ⟨rfl, rfl⟩) rfl rfl (by decide) (by decide) rfl rfl rfl rfl rfl rfl (by decide) rfl rfl rfl ?_
      refine w_p h_m208 1 (pc' := 1) (L' := [(0, .ref 143), (1, .int (xs 1)), (2, .int (xs 2))]) (st' := [.int (xs 1)]) rfl ?_
      refine w_cs (As := [.int (xs 1)]) (rest := []) (j := 204) (L0 := [(0, .int (xs 1))]) (pc' := 4) (L' := [(0, .ref 143), (1, .int (xs 1)), (2, .int (xs 2))]) h_m208 (z_at.mk 3 rfl rfl) (Or.inl ⟨rfl, rfl⟩) rfl rfl rfl rfl rfl ?_
      refine w_p h_m204 3 (pc' := 4) (L' := [(0, .int (xs 1))]) (st' := [.int (59 : Int32), .int (0 : Int32), .int (xs 1)]) rfl ?_
      refine w_cs (As := [.int (xs 1), .int (0 : Int32), .int (59 : Int32)]) (rest := []) (j := 159) (L0 := [(0, .int (xs 1)), (1, .int (0 : Int32)), (2, .int (59 : Int32))]) (pc' := 7) (L' := [(0, .int (xs 1))]) h_m204 (z_at.mk 3 rfl rfl) (Or.inl ⟨rfl, rfl⟩) rfl rfl rfl rfl rfl ?_
      refine w_p h_m159 2 (pc' := 2) (L' := [(0, .int (xs 1)), (1, .int (0 : Int32)), (2, .int (59 : Int32))]) (st' := [.int (0 : Int32), .int (xs 1)]) rfl ?_
      refine w_f2 (pc' := 5) (L' := [(0, .int (xs 1)), (1, .int (0 : Int32)), (2, .int (59 : Int32))]) h_m159 (z_at.mk 3 rfl rfl) rfl (zc (a := (xs 1).toInt) (b := 0) rfl rfl (decide_eq_false (by omega))) rfl rfl ?_
      refine w_p h_m159 2 (pc' := 7) (L' := [(0, .int (xs 1)), (1, .int (0 : Int32)), (2, .int (59 : Int32))]) (st' := [.int (59 : Int32), .int (xs 1)]) rfl ?_
      refine w_t2 (pc' := 14) (L' := []) h_m159 (z_at.mk 3 rfl rfl) rfl (zc (a := (xs 1).toInt) (b := 59) rfl rfl (decide_eq_true (by omega))) rfl rfl ?_
      refine w_p h_m159 1 (pc' := 15) (L' := []) (st' := [.int (0 : Int32)]) rfl ?_
      refine w_ri h_m159 (z_at.mk 1 rfl rfl) rfl rfl ?_
      show z_W 998 204 7 [(0, .int (xs 1))] [.int (0 : Int32)] m _
      refine w_ri h_m204 (z_at.mk 1 rfl rfl) rfl rfl ?_
      show z_W 999 208 4 [(0, .ref 143), (1, .int (xs 1)), (2, .int (xs 2))] [.int (0 : Int32)] m _
      refine w_p h_m208 3 (pc' := 50) (L' := []) (st' := [.int (-1 : Int32)]) rfl ?_
      refine w_ri h_m208 (z_at.mk 1 rfl rfl) rfl rfl ?_
      show z_W 1000 1000 330 [(0, .ref 0), (1, .ref 39), (2, .ref 143), (3, .int (0 : Int32))] [.int (-1 : Int32), .int (-1 : Int32)] m _
      refine w_p h_m1000 5 (pc' := 20) (L' := [(0, .ref 0), (1, .ref 39), (2, .ref 143), (3, .int (6 : Int32))]) (st' := [.ref 0, .int (6 : Int32)]) rfl ?_
      refine w_lene H (x := (6 : Int32)) (pc' := 21) (L' := [(0, .ref 0), (1, .ref 39), (2, .ref 143), (3, .int (6 : Int32))]) h_m1000 (z_at.mk 1 rfl rfl) (by decide) rfl (by decide) rfl rfl rfl ?_
      refine w_p h_m1000 4 (pc' := 1381) (L' := [(0, .ref 0), (1, .ref 39), (2, .ref 143), (3, .int (6 : Int32))]) (st' := [.int (1 : Int32)]) rfl ?_
      refine w_ri h_m1000 (z_at.mk 1 rfl rfl) rfl rfl ?_
      exact hQ _ _ _ _ H (by decide) (by decide)
set_option maxHeartbeats 400000000 in
set_option maxRecDepth 20000 in
theorem w_c18 {xs : Nat → Int32} {m : zM} {Q : Option Value → zM → Prop} (H : w_ok 6 xs 168 63950 w_T0 m) (hQ : ∀ N S T m, w_ok 6 xs N S T m → N ≤ 600039 → S ≤ 7302250 → Q (some (.int 1)) m) : z_W 1000 1000 743 [(0, .ref 0), (1, .ref 39), (2, .ref 143), (3, .int (0 : Int32))] [] m Q := by
  have b1 := zi_bd (xs 1)
  have b2 := zi_bd (xs 2)
  have b3 := zi_bd (xs 3)
  have b4 := zi_bd (xs 4)
  have b5 := zi_bd (xs 5)
  refine w_p h_m1000 5 (pc' := 748) (L' := [(0, .ref 0), (1, .ref 39), (2, .ref 143), (3, .int (0 : Int32))]) (st' := [.int (1 : Int32), .ref 0, .ref 39]) rfl ?_
  refine w_ae H (j := 1) (pc' := 749) (L' := [(0, .ref 0), (1, .ref 39), (2, .ref 143), (3, .int (0 : Int32))]) h_m1000 (z_at.mk 1 rfl rfl) rfl rfl rfl (by decide) rfl (by decide) rfl rfl rfl ?_
  refine w_p h_m1000 4 (pc' := 753) (L' := [(0, .ref 0), (1, .ref 39), (2, .ref 143), (3, .int (0 : Int32))]) (st' := [.int (2 : Int32), .ref 0, .int (xs 1), .ref 39]) rfl ?_
  refine w_ae H (j := 2) (pc' := 754) (L' := [(0, .ref 0), (1, .ref 39), (2, .ref 143), (3, .int (0 : Int32))]) h_m1000 (z_at.mk 1 rfl rfl) rfl rfl rfl (by decide) rfl (by decide) rfl rfl rfl ?_
  refine w_cv (H.t rfl) (pc' := 757) (L' := [(0, .ref 0), (1, .ref 39), (2, .ref 143), (3, .int (0 : Int32))]) (rest := []) (Ps := [.int (xs 1), .int (xs 2)]) (L0 := [(0, .ref 39), (1, .int (xs 1)), (2, .int (xs 2))]) h_m1000 (z_at.mk 3 rfl rfl) (Or.inl ⟨rfl, rfl⟩) rfl rfl (by decide) (by decide) rfl rfl rfl rfl rfl rfl (by decide) rfl rfl rfl ?_
  refine w_p h_m138 1 (pc' := 1) (L' := [(0, .ref 39), (1, .int (xs 1)), (2, .int (xs 2))]) (st' := [.ref 39]) rfl ?_
  refine w_gf H (pc' := 4) (L' := [(0, .ref 39), (1, .int (xs 1)), (2, .int (xs 2))]) h_m138 (z_at.mk 3 rfl rfl) rfl (u := .ref 40) rfl rfl rfl ?_
  refine w_gf H (pc' := 7) (L' := [(0, .ref 39), (1, .int (xs 1)), (2, .int (xs 2))]) h_m138 (z_at.mk 3 rfl rfl) rfl (u := .ref 48) rfl rfl rfl ?_
  refine w_p h_m138 2 (pc' := 9) (L' := [(3, .ref 48), (0, .ref 39), (1, .int (xs 1)), (2, .int (xs 2))]) (st' := [.int (xs 1)]) rfl ?_
  by_cases c_1 : (xs 1).toInt < 0
  · refine w_t1 (pc' := 30) (L' := []) h_m138 (z_at.mk 3 rfl rfl) rfl (zc (a := (xs 1).toInt) (b := 0) rfl rfl (decide_eq_true (by omega))) rfl rfl ?_
    refine w_p h_m138 1 (pc' := 31) (L' := []) (st' := [.int (-1 : Int32)]) rfl ?_
    refine w_ri h_m138 (z_at.mk 1 rfl rfl) rfl rfl ?_
    show z_W 1000 1000 757 [(0, .ref 0), (1, .ref 39), (2, .ref 143), (3, .int (0 : Int32))] [.int (-1 : Int32)] m _
    refine w_p h_m1000 5 (pc' := 762) (L' := [(0, .ref 0), (1, .ref 39), (2, .ref 143), (3, .int (0 : Int32))]) (st' := [.int (1 : Int32), .ref 0, .ref 143, .int (-1 : Int32)]) rfl ?_
    refine w_ae H (j := 1) (pc' := 763) (L' := [(0, .ref 0), (1, .ref 39), (2, .ref 143), (3, .int (0 : Int32))]) h_m1000 (z_at.mk 1 rfl rfl) rfl rfl rfl (by decide) rfl (by decide) rfl rfl rfl ?_
    refine w_p h_m1000 4 (pc' := 767) (L' := [(0, .ref 0), (1, .ref 39), (2, .ref 143), (3, .int (0 : Int32))]) (st' := [.int (2 : Int32), .ref 0, .int (xs 1), .ref 143, .int (-1 : Int32)]) rfl ?_
    refine w_ae H (j := 2) (pc' := 768) (L' := [(0, .ref 0), (1, .ref 39), (2, .ref 143), (3, .int (0 : Int32))]) h_m1000 (z_at.mk 1 rfl rfl) rfl rfl rfl (by decide) rfl (by decide) rfl rfl rfl ?_
    refine w_cv (H.t rfl) (pc' := 771) (L' := [(0, .ref 0), (1, .ref 39), (2, .ref 143), (3, .int (0 : Int32))]) (rest := [.int (-1 : Int32)]) (Ps := [.int (xs 1), .int (xs 2)]) (L0 := [(0, .ref 143), (1, .int (xs 1)), (2, .int (xs 2))]) h_m1000 (z_at.mk 3 rfl rfl) (Or.inl ⟨rfl, rfl⟩) rfl rfl (by decide) (by decide) rfl rfl rfl rfl rfl rfl (by decide) rfl rfl rfl ?_
    refine w_p h_m248 3 (pc' := 3) (L' := [(0, .ref 143), (1, .int (xs 1)), (2, .int (xs 2))]) (st' := [.ref 143, .int (0 : Int32), .int (xs 1)]) rfl ?_
    refine w_gf H (pc' := 6) (L' := [(0, .ref 143), (1, .int (xs 1)), (2, .int (xs 2))]) h_m248 (z_at.mk 3 rfl rfl) rfl (u := .ref 144) rfl rfl rfl ?_
    refine w_p h_m248 1 (pc' := 7) (L' := [(0, .ref 143), (1, .int (xs 1)), (2, .int (xs 2))]) (st' := [.int (0 : Int32), .ref 144, .int (0 : Int32), .int (xs 1)]) rfl ?_
    refine w_al H (t := 0) (j := 0) (pc' := 8) (L' := [(0, .ref 143), (1, .int (xs 1)), (2, .int (xs 2))]) h_m248 (z_at.mk 1 rfl rfl) rfl rfl rfl (u := .int (0 : Int32)) rfl rfl rfl ?_
    refine w_p h_m248 2 (pc' := 10) (L' := [(0, .ref 143), (1, .int (xs 1)), (2, .int (xs 2))]) (st' := [.int (-1 : Int32), .int (0 : Int32), .int (xs 1)]) rfl ?_
    refine w_cs (As := [.int (xs 1), .int (0 : Int32), .int (-1 : Int32)]) (rest := []) (j := 159) (L0 := [(0, .int (xs 1)), (1, .int (0 : Int32)), (2, .int (-1 : Int32))]) (pc' := 13) (L' := [(0, .ref 143), (1, .int (xs 1)), (2, .int (xs 2))]) h_m248 (z_at.mk 3 rfl rfl) (Or.inl ⟨rfl, rfl⟩) rfl rfl rfl rfl rfl ?_
    refine w_p h_m159 2 (pc' := 2) (L' := [(0, .int (xs 1)), (1, .int (0 : Int32)), (2, .int (-1 : Int32))]) (st' := [.int (0 : Int32), .int (xs 1)]) rfl ?_
    refine w_t2 (pc' := 14) (L' := []) h_m159 (z_at.mk 3 rfl rfl) rfl (zc (a := (xs 1).toInt) (b := 0) rfl rfl (decide_eq_true (by omega))) rfl rfl ?_
    refine w_p h_m159 1 (pc' := 15) (L' := []) (st' := [.int (0 : Int32)]) rfl ?_
    refine w_ri h_m159 (z_at.mk 1 rfl rfl) rfl rfl ?_
    show z_W 999 248 13 [(0, .ref 143), (1, .int (xs 1)), (2, .int (xs 2))] [.int (0 : Int32)] m _
    refine w_p h_m248 2 (pc' := 27) (L' := []) (st' := [.int (-1 : Int32)]) rfl ?_
    refine w_ri h_m248 (z_at.mk 1 rfl rfl) rfl rfl ?_
    show z_W 1000 1000 771 [(0, .ref 0), (1, .ref 39), (2, .ref 143), (3, .int (0 : Int32))] [.int (-1 : Int32), .int (-1 : Int32)] m _
    refine w_p h_m1000 5 (pc' := 20) (L' := [(0, .ref 0), (1, .ref 39), (2, .ref 143), (3, .int (6 : Int32))]) (st' := [.ref 0, .int (6 : Int32)]) rfl ?_
    refine w_lene H (x := (6 : Int32)) (pc' := 21) (L' := [(0, .ref 0), (1, .ref 39), (2, .ref 143), (3, .int (6 : Int32))]) h_m1000 (z_at.mk 1 rfl rfl) (by decide) rfl (by decide) rfl rfl rfl ?_
    refine w_p h_m1000 4 (pc' := 1381) (L' := [(0, .ref 0), (1, .ref 39), (2, .ref 143), (3, .int (6 : Int32))]) (st' := [.int (1 : Int32)]) rfl ?_
    refine w_ri h_m1000 (z_at.mk 1 rfl rfl) rfl rfl ?_
    exact hQ _ _ _ _ H (by decide) (by decide)
  · refine w_f1 (pc' := 12) (L' := [(3, .ref 48), (0, .ref 39), (1, .int (xs 1)), (2, .int (xs 2))]) h_m138 (z_at.mk 3 rfl rfl) rfl (zc (a := (xs 1).toInt) (b := 0) rfl rfl (decide_eq_false (by omega))) rfl rfl ?_
    refine w_p h_m138 2 (pc' := 14) (L' := [(3, .ref 48), (0, .ref 39), (1, .int (xs 1)), (2, .int (xs 2))]) (st' := [.ref 48, .int (xs 1)]) rfl ?_
    refine w_gf H (pc' := 17) (L' := [(3, .ref 48), (0, .ref 39), (1, .int (xs 1)), (2, .int (xs 2))]) h_m138 (z_at.mk 3 rfl rfl) rfl (u := .int (0 : Int32)) rfl rfl rfl ?_
    refine w_t2 (pc' := 30) (L' := []) h_m138 (z_at.mk 3 rfl rfl) rfl (zc (a := (xs 1).toInt) (b := 0) rfl rfl (decide_eq_true (by omega))) rfl rfl ?_
    refine w_p h_m138 1 (pc' := 31) (L' := []) (st' := [.int (-1 : Int32)]) rfl ?_
    refine w_ri h_m138 (z_at.mk 1 rfl rfl) rfl rfl ?_
    show z_W 1000 1000 757 [(0, .ref 0), (1, .ref 39), (2, .ref 143), (3, .int (0 : Int32))] [.int (-1 : Int32)] m _
    refine w_p h_m1000 5 (pc' := 762) (L' := [(0, .ref 0), (1, .ref 39), (2, .ref 143), (3, .int (0 : Int32))]) (st' := [.int (1 : Int32), .ref 0, .ref 143, .int (-1 : Int32)]) rfl ?_
    refine w_ae H (j := 1) (pc' := 763) (L' := [(0, .ref 0), (1, .ref 39), (2, .ref 143), (3, .int (0 : Int32))]) h_m1000 (z_at.mk 1 rfl rfl) rfl rfl rfl (by decide) rfl (by decide) rfl rfl rfl ?_
    refine w_p h_m1000 4 (pc' := 767) (L' := [(0, .ref 0), (1, .ref 39), (2, .ref 143), (3, .int (0 : Int32))]) (st' := [.int (2 : Int32), .ref 0, .int (xs 1), .ref 143, .int (-1 : Int32)]) rfl ?_
    refine w_ae H (j := 2) (pc' := 768) (L' := [(0, .ref 0), (1, .ref 39), (2, .ref 143), (3, .int (0 : Int32))]) h_m1000 (z_at.mk 1 rfl rfl) rfl rfl rfl (by decide) rfl (by decide) rfl rfl rfl ?_
    refine w_cv (H.t rfl) (pc' := 771) (L' := [(0, .ref 0), (1, .ref 39), (2, .ref 143), (3, .int (0 : Int32))]) (rest := [.int (-1 : Int32)]) (Ps := [.int (xs 1), .int (xs 2)]) (L0 := [(0, .ref 143), (1, .int (xs 1)), (2, .int (xs 2))]) h_m1000 (z_at.mk 3 rfl rfl) (Or.inl ⟨rfl, rfl⟩) rfl rfl (by decide) (by decide) rfl rfl rfl rfl rfl rfl (by decide) rfl rfl rfl ?_
    refine w_p h_m248 3 (pc' := 3) (L' := [(0, .ref 143), (1, .int (xs 1)), (2, .int (xs 2))]) (st' := [.ref 143, .int (0 : Int32), .int (xs 1)]) rfl ?_
    refine w_gf H (pc' := 6) (L' := [(0, .ref 143), (1, .int (xs 1)), (2, .int (xs 2))]) h_m248 (z_at.mk 3 rfl rfl) rfl (u := .ref 144) rfl rfl rfl ?_
    refine w_p h_m248 1 (pc' := 7) (L' := [(0, .ref 143), (1, .int (xs 1)), (2, .int (xs 2))]) (st' := [.int (0 : Int32), .ref 144, .int (0 : Int32), .int (xs 1)]) rfl ?_
    refine w_al H (t := 0) (j := 0) (pc' := 8) (L' := [(0, .ref 143), (1, .int (xs 1)), (2, .int (xs 2))]) h_m248 (z_at.mk 1 rfl rfl) rfl rfl rfl (u := .int (0 : Int32)) rfl rfl rfl ?_
    refine w_p h_m248 2 (pc' := 10) (L' := [(0, .ref 143), (1, .int (xs 1)), (2, .int (xs 2))]) (st' := [.int (-1 : Int32), .int (0 : Int32), .int (xs 1)]) rfl ?_
    refine w_cs (As := [.int (xs 1), .int (0 : Int32), .int (-1 : Int32)]) (rest := []) (j := 159) (L0 := [(0, .int (xs 1)), (1, .int (0 : Int32)), (2, .int (-1 : Int32))]) (pc' := 13) (L' := [(0, .ref 143), (1, .int (xs 1)), (2, .int (xs 2))]) h_m248 (z_at.mk 3 rfl rfl) (Or.inl ⟨rfl, rfl⟩) rfl rfl rfl rfl rfl ?_
    refine w_p h_m159 2 (pc' := 2) (L' := [(0, .int (xs 1)), (1, .int (0 : Int32)), (2, .int (-1 : Int32))]) (st' := [.int (0 : Int32), .int (xs 1)]) rfl ?_
    refine w_f2 (pc' := 5) (L' := [(0, .int (xs 1)), (1, .int (0 : Int32)), (2, .int (-1 : Int32))]) h_m159 (z_at.mk 3 rfl rfl) rfl (zc (a := (xs 1).toInt) (b := 0) rfl rfl (decide_eq_false (by omega))) rfl rfl ?_
    refine w_p h_m159 2 (pc' := 7) (L' := [(0, .int (xs 1)), (1, .int (0 : Int32)), (2, .int (-1 : Int32))]) (st' := [.int (-1 : Int32), .int (xs 1)]) rfl ?_
    refine w_t2 (pc' := 14) (L' := []) h_m159 (z_at.mk 3 rfl rfl) rfl (zc (a := (xs 1).toInt) (b := (-1)) rfl rfl (decide_eq_true (by omega))) rfl rfl ?_
    refine w_p h_m159 1 (pc' := 15) (L' := []) (st' := [.int (0 : Int32)]) rfl ?_
    refine w_ri h_m159 (z_at.mk 1 rfl rfl) rfl rfl ?_
    show z_W 999 248 13 [(0, .ref 143), (1, .int (xs 1)), (2, .int (xs 2))] [.int (0 : Int32)] m _
    refine w_p h_m248 2 (pc' := 27) (L' := []) (st' := [.int (-1 : Int32)]) rfl ?_
    refine w_ri h_m248 (z_at.mk 1 rfl rfl) rfl rfl ?_
    show z_W 1000 1000 771 [(0, .ref 0), (1, .ref 39), (2, .ref 143), (3, .int (0 : Int32))] [.int (-1 : Int32), .int (-1 : Int32)] m _
    refine w_p h_m1000 5 (pc' := 20) (L' := [(0, .ref 0), (1, .ref 39), (2, .ref 143), (3, .int (6 : Int32))]) (st' := [.ref 0, .int (6 : Int32)]) rfl ?_
    refine w_lene H (x := (6 : Int32)) (pc' := 21) (L' := [(0, .ref 0), (1, .ref 39), (2, .ref 143), (3, .int (6 : Int32))]) h_m1000 (z_at.mk 1 rfl rfl) (by decide) rfl (by decide) rfl rfl rfl ?_
    refine w_p h_m1000 4 (pc' := 1381) (L' := [(0, .ref 0), (1, .ref 39), (2, .ref 143), (3, .int (6 : Int32))]) (st' := [.int (1 : Int32)]) rfl ?_
    refine w_ri h_m1000 (z_at.mk 1 rfl rfl) rfl rfl ?_
    exact hQ _ _ _ _ H (by decide) (by decide)
set_option maxHeartbeats 400000000 in
set_option maxRecDepth 20000 in
theorem w_c27 {xs : Nat → Int32} {m : zM} {Q : Option Value → zM → Prop} (H : w_ok 6 xs 168 63950 w_T0 m) (hQ : ∀ N S T m, w_ok 6 xs N S T m → N ≤ 600039 → S ≤ 7302250 → Q (some (.int 1)) m) : z_W 1000 1000 1032 [(0, .ref 0), (1, .ref 39), (2, .ref 143), (3, .int (0 : Int32))] [] m Q := by
  have b1 := zi_bd (xs 1)
  have b2 := zi_bd (xs 2)
  have b3 := zi_bd (xs 3)
  have b4 := zi_bd (xs 4)
  have b5 := zi_bd (xs 5)
  refine w_p h_m1000 5 (pc' := 1037) (L' := [(0, .ref 0), (1, .ref 39), (2, .ref 143), (3, .int (0 : Int32))]) (st' := [.int (1 : Int32), .ref 0, .ref 39]) rfl ?_
  refine w_ae H (j := 1) (pc' := 1038) (L' := [(0, .ref 0), (1, .ref 39), (2, .ref 143), (3, .int (0 : Int32))]) h_m1000 (z_at.mk 1 rfl rfl) rfl rfl rfl (by decide) rfl (by decide) rfl rfl rfl ?_
  refine w_cv (H.t rfl) (pc' := 1041) (L' := [(0, .ref 0), (1, .ref 39), (2, .ref 143), (3, .int (0 : Int32))]) (rest := []) (Ps := [.int (xs 1)]) (L0 := [(0, .ref 39), (1, .int (xs 1))]) h_m1000 (z_at.mk 3 rfl rfl) (Or.inl ⟨rfl, rfl⟩) rfl rfl (by decide) (by decide) rfl rfl rfl rfl rfl rfl (by decide) rfl rfl rfl ?_
  refine w_p h_m148 1 (pc' := 1) (L' := [(0, .ref 39), (1, .int (xs 1))]) (st' := [.ref 39]) rfl ?_
  refine w_gf H (pc' := 4) (L' := [(0, .ref 39), (1, .int (xs 1))]) h_m148 (z_at.mk 3 rfl rfl) rfl (u := .ref 40) rfl rfl rfl ?_
  refine w_gf H (pc' := 7) (L' := [(0, .ref 39), (1, .int (xs 1))]) h_m148 (z_at.mk 3 rfl rfl) rfl (u := .ref 65) rfl rfl rfl ?_
  refine w_p h_m148 1 (pc' := 8) (L' := [(0, .ref 39), (1, .int (xs 1))]) (st' := [.int (xs 1), .ref 65]) rfl ?_
  refine w_cv (H.t rfl) (pc' := 11) (L' := [(0, .ref 39), (1, .int (xs 1))]) (rest := []) (Ps := [.int (xs 1)]) (L0 := [(0, .ref 65), (1, .int (xs 1))]) h_m148 (z_at.mk 3 rfl rfl) (Or.inl ⟨rfl, rfl⟩) rfl rfl (by decide) (by decide) rfl rfl rfl rfl rfl rfl (by decide) rfl rfl rfl ?_
  refine w_p h_m108 1 (pc' := 1) (L' := [(0, .ref 65), (1, .int (xs 1))]) (st' := [.int (xs 1)]) rfl ?_
  by_cases c_1 : (xs 1).toInt < 0
  · refine w_t1 (pc' := 22) (L' := []) h_m108 (z_at.mk 3 rfl rfl) rfl (zc (a := (xs 1).toInt) (b := 0) rfl rfl (decide_eq_true (by omega))) rfl rfl ?_
    refine w_p h_m108 1 (pc' := 23) (L' := []) (st' := [.int (0 : Int32)]) rfl ?_
    refine w_ri h_m108 (z_at.mk 1 rfl rfl) rfl rfl ?_
    show z_W 999 148 11 [(0, .ref 39), (1, .int (xs 1))] [.int (0 : Int32)] m _
    refine w_p h_m148 2 (pc' := 38) (L' := []) (st' := [.long (-9223372036854775808 : Int64)]) rfl ?_
    refine w_rl h_m148 (z_at.mk 1 rfl rfl) rfl ?_
    show z_W 1000 1000 1041 [(0, .ref 0), (1, .ref 39), (2, .ref 143), (3, .int (0 : Int32))] [.long (-9223372036854775808 : Int64)] m _
    refine w_p h_m1000 5 (pc' := 1046) (L' := [(0, .ref 0), (1, .ref 39), (2, .ref 143), (3, .int (0 : Int32))]) (st' := [.int (1 : Int32), .ref 0, .ref 143, .long (-9223372036854775808 : Int64)]) rfl ?_
    refine w_ae H (j := 1) (pc' := 1047) (L' := [(0, .ref 0), (1, .ref 39), (2, .ref 143), (3, .int (0 : Int32))]) h_m1000 (z_at.mk 1 rfl rfl) rfl rfl rfl (by decide) rfl (by decide) rfl rfl rfl ?_
    refine w_cv (H.t rfl) (pc' := 1050) (L' := [(0, .ref 0), (1, .ref 39), (2, .ref 143), (3, .int (0 : Int32))]) (rest := [.long (-9223372036854775808 : Int64)]) (Ps := [.int (xs 1)]) (L0 := [(0, .ref 143), (1, .int (xs 1))]) h_m1000 (z_at.mk 3 rfl rfl) (Or.inl ⟨rfl, rfl⟩) rfl rfl (by decide) (by decide) rfl rfl rfl rfl rfl rfl (by decide) rfl rfl rfl ?_
    refine w_p h_m260 2 (pc' := 2) (L' := [(0, .ref 143), (1, .int (xs 1))]) (st' := [.int (xs 1), .ref 143]) rfl ?_
    refine w_cv (H.t rfl) (pc' := 5) (L' := [(0, .ref 143), (1, .int (xs 1))]) (rest := []) (Ps := [.int (xs 1)]) (L0 := [(0, .ref 143), (1, .int (xs 1))]) h_m260 (z_at.mk 3 rfl rfl) (Or.inl ⟨rfl, rfl⟩) rfl rfl (by decide) (by decide) rfl rfl rfl rfl rfl rfl (by decide) rfl rfl rfl ?_
    refine w_p h_m259 3 (pc' := 3) (L' := [(0, .ref 143), (1, .int (xs 1))]) (st' := [.ref 143, .int (0 : Int32), .int (xs 1)]) rfl ?_
    refine w_gf H (pc' := 6) (L' := [(0, .ref 143), (1, .int (xs 1))]) h_m259 (z_at.mk 3 rfl rfl) rfl (u := .ref 144) rfl rfl rfl ?_
    refine w_p h_m259 1 (pc' := 8) (L' := [(0, .ref 143), (1, .int (xs 1))]) (st' := [.int (10 : Int32), .ref 144, .int (0 : Int32), .int (xs 1)]) rfl ?_
    refine w_al H (t := 0) (j := 10) (pc' := 9) (L' := [(0, .ref 143), (1, .int (xs 1))]) h_m259 (z_at.mk 1 rfl rfl) rfl rfl rfl (u := .int (0 : Int32)) rfl rfl rfl ?_
    refine w_p h_m259 2 (pc' := 11) (L' := [(0, .ref 143), (1, .int (xs 1))]) (st' := [.int (-1 : Int32), .int (0 : Int32), .int (xs 1)]) rfl ?_
    refine w_cs (As := [.int (xs 1), .int (0 : Int32), .int (-1 : Int32)]) (rest := []) (j := 159) (L0 := [(0, .int (xs 1)), (1, .int (0 : Int32)), (2, .int (-1 : Int32))]) (pc' := 14) (L' := [(0, .ref 143), (1, .int (xs 1))]) h_m259 (z_at.mk 3 rfl rfl) (Or.inl ⟨rfl, rfl⟩) rfl rfl rfl rfl rfl ?_
    refine w_p h_m159 2 (pc' := 2) (L' := [(0, .int (xs 1)), (1, .int (0 : Int32)), (2, .int (-1 : Int32))]) (st' := [.int (0 : Int32), .int (xs 1)]) rfl ?_
    refine w_t2 (pc' := 14) (L' := []) h_m159 (z_at.mk 3 rfl rfl) rfl (zc (a := (xs 1).toInt) (b := 0) rfl rfl (decide_eq_true (by omega))) rfl rfl ?_
    refine w_p h_m159 1 (pc' := 15) (L' := []) (st' := [.int (0 : Int32)]) rfl ?_
    refine w_ri h_m159 (z_at.mk 1 rfl rfl) rfl rfl ?_
    show z_W 998 259 14 [(0, .ref 143), (1, .int (xs 1))] [.int (0 : Int32)] m _
    refine w_ri h_m259 (z_at.mk 1 rfl rfl) rfl rfl ?_
    show z_W 999 260 5 [(0, .ref 143), (1, .int (xs 1))] [.int (0 : Int32)] m _
    refine w_p h_m260 2 (pc' := 11) (L' := [(0, .ref 143), (1, .int (xs 1))]) (st' := [.long (-9223372036854775808 : Int64)]) rfl ?_
    refine w_rl h_m260 (z_at.mk 1 rfl rfl) rfl ?_
    show z_W 1000 1000 1050 [(0, .ref 0), (1, .ref 39), (2, .ref 143), (3, .int (0 : Int32))] [.long (-9223372036854775808 : Int64), .long (-9223372036854775808 : Int64)] m _
    refine w_p h_m1000 6 (pc' := 20) (L' := [(0, .ref 0), (1, .ref 39), (2, .ref 143), (3, .int (6 : Int32))]) (st' := [.ref 0, .int (6 : Int32)]) rfl ?_
    refine w_lene H (x := (6 : Int32)) (pc' := 21) (L' := [(0, .ref 0), (1, .ref 39), (2, .ref 143), (3, .int (6 : Int32))]) h_m1000 (z_at.mk 1 rfl rfl) (by decide) rfl (by decide) rfl rfl rfl ?_
    refine w_p h_m1000 4 (pc' := 1381) (L' := [(0, .ref 0), (1, .ref 39), (2, .ref 143), (3, .int (6 : Int32))]) (st' := [.int (1 : Int32)]) rfl ?_
    refine w_ri h_m1000 (z_at.mk 1 rfl rfl) rfl rfl ?_
    exact hQ _ _ _ _ H (by decide) (by decide)
  · refine w_f1 (pc' := 4) (L' := [(0, .ref 65), (1, .int (xs 1))]) h_m108 (z_at.mk 3 rfl rfl) rfl (zc (a := (xs 1).toInt) (b := 0) rfl rfl (decide_eq_false (by omega))) rfl rfl ?_
    refine w_p h_m108 2 (pc' := 6) (L' := [(0, .ref 65), (1, .int (xs 1))]) (st' := [.ref 65, .int (xs 1)]) rfl ?_
    refine w_gf H (pc' := 9) (L' := [(0, .ref 65), (1, .int (xs 1))]) h_m108 (z_at.mk 3 rfl rfl) rfl (u := .int (0 : Int32)) rfl rfl rfl ?_
    refine w_t2 (pc' := 22) (L' := []) h_m108 (z_at.mk 3 rfl rfl) rfl (zc (a := (xs 1).toInt) (b := 0) rfl rfl (decide_eq_true (by omega))) rfl rfl ?_
    refine w_p h_m108 1 (pc' := 23) (L' := []) (st' := [.int (0 : Int32)]) rfl ?_
    refine w_ri h_m108 (z_at.mk 1 rfl rfl) rfl rfl ?_
    show z_W 999 148 11 [(0, .ref 39), (1, .int (xs 1))] [.int (0 : Int32)] m _
    refine w_p h_m148 2 (pc' := 38) (L' := []) (st' := [.long (-9223372036854775808 : Int64)]) rfl ?_
    refine w_rl h_m148 (z_at.mk 1 rfl rfl) rfl ?_
    show z_W 1000 1000 1041 [(0, .ref 0), (1, .ref 39), (2, .ref 143), (3, .int (0 : Int32))] [.long (-9223372036854775808 : Int64)] m _
    refine w_p h_m1000 5 (pc' := 1046) (L' := [(0, .ref 0), (1, .ref 39), (2, .ref 143), (3, .int (0 : Int32))]) (st' := [.int (1 : Int32), .ref 0, .ref 143, .long (-9223372036854775808 : Int64)]) rfl ?_
    refine w_ae H (j := 1) (pc' := 1047) (L' := [(0, .ref 0), (1, .ref 39), (2, .ref 143), (3, .int (0 : Int32))]) h_m1000 (z_at.mk 1 rfl rfl) rfl rfl rfl (by decide) rfl (by decide) rfl rfl rfl ?_
    refine w_cv (H.t rfl) (pc' := 1050) (L' := [(0, .ref 0), (1, .ref 39), (2, .ref 143), (3, .int (0 : Int32))]) (rest := [.long (-9223372036854775808 : Int64)]) (Ps := [.int (xs 1)]) (L0 := [(0, .ref 143), (1, .int (xs 1))]) h_m1000 (z_at.mk 3 rfl rfl) (Or.inl ⟨rfl, rfl⟩) rfl rfl (by decide) (by decide) rfl rfl rfl rfl rfl rfl (by decide) rfl rfl rfl ?_
    refine w_p h_m260 2 (pc' := 2) (L' := [(0, .ref 143), (1, .int (xs 1))]) (st' := [.int (xs 1), .ref 143]) rfl ?_
    refine w_cv (H.t rfl) (pc' := 5) (L' := [(0, .ref 143), (1, .int (xs 1))]) (rest := []) (Ps := [.int (xs 1)]) (L0 := [(0, .ref 143), (1, .int (xs 1))]) h_m260 (z_at.mk 3 rfl rfl) (Or.inl ⟨rfl, rfl⟩) rfl rfl (by decide) (by decide) rfl rfl rfl rfl rfl rfl (by decide) rfl rfl rfl ?_
    refine w_p h_m259 3 (pc' := 3) (L' := [(0, .ref 143), (1, .int (xs 1))]) (st' := [.ref 143, .int (0 : Int32), .int (xs 1)]) rfl ?_
    refine w_gf H (pc' := 6) (L' := [(0, .ref 143), (1, .int (xs 1))]) h_m259 (z_at.mk 3 rfl rfl) rfl (u := .ref 144) rfl rfl rfl ?_
    refine w_p h_m259 1 (pc' := 8) (L' := [(0, .ref 143), (1, .int (xs 1))]) (st' := [.int (10 : Int32), .ref 144, .int (0 : Int32), .int (xs 1)]) rfl ?_
    refine w_al H (t := 0) (j := 10) (pc' := 9) (L' := [(0, .ref 143), (1, .int (xs 1))]) h_m259 (z_at.mk 1 rfl rfl) rfl rfl rfl (u := .int (0 : Int32)) rfl rfl rfl ?_
    refine w_p h_m259 2 (pc' := 11) (L' := [(0, .ref 143), (1, .int (xs 1))]) (st' := [.int (-1 : Int32), .int (0 : Int32), .int (xs 1)]) rfl ?_
    refine w_cs (As := [.int (xs 1), .int (0 : Int32), .int (-1 : Int32)]) (rest := []) (j := 159) (L0 := [(0, .int (xs 1)), (1, .int (0 : Int32)), (2, .int (-1 : Int32))]) (pc' := 14) (L' := [(0, .ref 143), (1, .int (xs 1))]) h_m259 (z_at.mk 3 rfl rfl) (Or.inl ⟨rfl, rfl⟩) rfl rfl rfl rfl rfl ?_
    refine w_p h_m159 2 (pc' := 2) (L' := [(0, .int (xs 1)), (1, .int (0 : Int32)), (2, .int (-1 : Int32))]) (st' := [.int (0 : Int32), .int (xs 1)]) rfl ?_
    refine w_f2 (pc' := 5) (L' := [(0, .int (xs 1)), (1, .int (0 : Int32)), (2, .int (-1 : Int32))]) h_m159 (z_at.mk 3 rfl rfl) rfl (zc (a := (xs 1).toInt) (b := 0) rfl rfl (decide_eq_false (by omega))) rfl rfl ?_
    refine w_p h_m159 2 (pc' := 7) (L' := [(0, .int (xs 1)), (1, .int (0 : Int32)), (2, .int (-1 : Int32))]) (st' := [.int (-1 : Int32), .int (xs 1)]) rfl ?_
    refine w_t2 (pc' := 14) (L' := []) h_m159 (z_at.mk 3 rfl rfl) rfl (zc (a := (xs 1).toInt) (b := (-1)) rfl rfl (decide_eq_true (by omega))) rfl rfl ?_
    refine w_p h_m159 1 (pc' := 15) (L' := []) (st' := [.int (0 : Int32)]) rfl ?_
    refine w_ri h_m159 (z_at.mk 1 rfl rfl) rfl rfl ?_
    show z_W 998 259 14 [(0, .ref 143), (1, .int (xs 1))] [.int (0 : Int32)] m _
    refine w_ri h_m259 (z_at.mk 1 rfl rfl) rfl rfl ?_
    show z_W 999 260 5 [(0, .ref 143), (1, .int (xs 1))] [.int (0 : Int32)] m _
    refine w_p h_m260 2 (pc' := 11) (L' := [(0, .ref 143), (1, .int (xs 1))]) (st' := [.long (-9223372036854775808 : Int64)]) rfl ?_
    refine w_rl h_m260 (z_at.mk 1 rfl rfl) rfl ?_
    show z_W 1000 1000 1050 [(0, .ref 0), (1, .ref 39), (2, .ref 143), (3, .int (0 : Int32))] [.long (-9223372036854775808 : Int64), .long (-9223372036854775808 : Int64)] m _
    refine w_p h_m1000 6 (pc' := 20) (L' := [(0, .ref 0), (1, .ref 39), (2, .ref 143), (3, .int (6 : Int32))]) (st' := [.ref 0, .int (6 : Int32)]) rfl ?_
    refine w_lene H (x := (6 : Int32)) (pc' := 21) (L' := [(0, .ref 0), (1, .ref 39), (2, .ref 143), (3, .int (6 : Int32))]) h_m1000 (z_at.mk 1 rfl rfl) (by decide) rfl (by decide) rfl rfl rfl ?_
    refine w_p h_m1000 4 (pc' := 1381) (L' := [(0, .ref 0), (1, .ref 39), (2, .ref 143), (3, .int (6 : Int32))]) (st' := [.int (1 : Int32)]) rfl ?_
    refine w_ri h_m1000 (z_at.mk 1 rfl rfl) rfl rfl ?_
    exact hQ _ _ _ _ H (by decide) (by decide)
set_option maxHeartbeats 400000000 in
set_option maxRecDepth 20000 in
theorem w_c28 {xs : Nat → Int32} {m : zM} {Q : Option Value → zM → Prop} (H : w_ok 6 xs 168 63950 w_T0 m) (hQ : ∀ N S T m, w_ok 6 xs N S T m → N ≤ 600039 → S ≤ 7302250 → Q (some (.int 1)) m) : z_W 1000 1000 1056 [(0, .ref 0), (1, .ref 39), (2, .ref 143), (3, .int (0 : Int32))] [] m Q := by
  have b1 := zi_bd (xs 1)
  have b2 := zi_bd (xs 2)
  have b3 := zi_bd (xs 3)
  have b4 := zi_bd (xs 4)
  have b5 := zi_bd (xs 5)
  refine w_p h_m1000 5 (pc' := 1061) (L' := [(0, .ref 0), (1, .ref 39), (2, .ref 143), (3, .int (0 : Int32))]) (st' := [.int (1 : Int32), .ref 0, .ref 39]) rfl ?_
  refine w_ae H (j := 1) (pc' := 1062) (L' := [(0, .ref 0), (1, .ref 39), (2, .ref 143), (3, .int (0 : Int32))]) h_m1000 (z_at.mk 1 rfl rfl) rfl rfl rfl (by decide) rfl (by decide) rfl rfl rfl ?_
  refine w_cv (H.t rfl) (pc' := 1065) (L' := [(0, .ref 0), (1, .ref 39), (2, .ref 143), (3, .int (0 : Int32))]) (rest := []) (Ps := [.int (xs 1)]) (L0 := [(0, .ref 39), (1, .int (xs 1))]) h_m1000 (z_at.mk 3 rfl rfl) (Or.inl ⟨rfl, rfl⟩) rfl rfl (by decide) (by decide) rfl rfl rfl rfl rfl rfl (by decide) rfl rfl rfl ?_
  refine w_p h_m149 1 (pc' := 1) (L' := [(0, .ref 39), (1, .int (xs 1))]) (st' := [.ref 39]) rfl ?_
  refine w_gf H (pc' := 4) (L' := [(0, .ref 39), (1, .int (xs 1))]) h_m149 (z_at.mk 3 rfl rfl) rfl (u := .ref 40) rfl rfl rfl ?_
  refine w_gf H (pc' := 7) (L' := [(0, .ref 39), (1, .int (xs 1))]) h_m149 (z_at.mk 3 rfl rfl) rfl (u := .ref 65) rfl rfl rfl ?_
  refine w_p h_m149 1 (pc' := 8) (L' := [(0, .ref 39), (1, .int (xs 1))]) (st' := [.int (xs 1), .ref 65]) rfl ?_
  refine w_cv (H.t rfl) (pc' := 11) (L' := [(0, .ref 39), (1, .int (xs 1))]) (rest := []) (Ps := [.int (xs 1)]) (L0 := [(0, .ref 65), (1, .int (xs 1))]) h_m149 (z_at.mk 3 rfl rfl) (Or.inl ⟨rfl, rfl⟩) rfl rfl (by decide) (by decide) rfl rfl rfl rfl rfl rfl (by decide) rfl rfl rfl ?_
  refine w_p h_m108 1 (pc' := 1) (L' := [(0, .ref 65), (1, .int (xs 1))]) (st' := [.int (xs 1)]) rfl ?_
  by_cases c_1 : (xs 1).toInt < 0
  · refine w_t1 (pc' := 22) (L' := []) h_m108 (z_at.mk 3 rfl rfl) rfl (zc (a := (xs 1).toInt) (b := 0) rfl rfl (decide_eq_true (by omega))) rfl rfl ?_
    refine w_p h_m108 1 (pc' := 23) (L' := []) (st' := [.int (0 : Int32)]) rfl ?_
    refine w_ri h_m108 (z_at.mk 1 rfl rfl) rfl rfl ?_
    show z_W 999 149 11 [(0, .ref 39), (1, .int (xs 1))] [.int (0 : Int32)] m _
    refine w_p h_m149 2 (pc' := 30) (L' := []) (st' := [.int (-1 : Int32)]) rfl ?_
    refine w_ri h_m149 (z_at.mk 1 rfl rfl) rfl rfl ?_
    show z_W 1000 1000 1065 [(0, .ref 0), (1, .ref 39), (2, .ref 143), (3, .int (0 : Int32))] [.int (-1 : Int32)] m _
    refine w_p h_m1000 5 (pc' := 1070) (L' := [(0, .ref 0), (1, .ref 39), (2, .ref 143), (3, .int (0 : Int32))]) (st' := [.int (1 : Int32), .ref 0, .ref 143, .int (-1 : Int32)]) rfl ?_
    refine w_ae H (j := 1) (pc' := 1071) (L' := [(0, .ref 0), (1, .ref 39), (2, .ref 143), (3, .int (0 : Int32))]) h_m1000 (z_at.mk 1 rfl rfl) rfl rfl rfl (by decide) rfl (by decide) rfl rfl rfl ?_
    refine w_cv (H.t rfl) (pc' := 1074) (L' := [(0, .ref 0), (1, .ref 39), (2, .ref 143), (3, .int (0 : Int32))]) (rest := [.int (-1 : Int32)]) (Ps := [.int (xs 1)]) (L0 := [(0, .ref 143), (1, .int (xs 1))]) h_m1000 (z_at.mk 3 rfl rfl) (Or.inl ⟨rfl, rfl⟩) rfl rfl (by decide) (by decide) rfl rfl rfl rfl rfl rfl (by decide) rfl rfl rfl ?_
    refine w_p h_m261 2 (pc' := 2) (L' := [(0, .ref 143), (1, .int (xs 1))]) (st' := [.int (xs 1), .ref 143]) rfl ?_
    refine w_cv (H.t rfl) (pc' := 5) (L' := [(0, .ref 143), (1, .int (xs 1))]) (rest := []) (Ps := [.int (xs 1)]) (L0 := [(0, .ref 143), (1, .int (xs 1))]) h_m261 (z_at.mk 3 rfl rfl) (Or.inl ⟨rfl, rfl⟩) rfl rfl (by decide) (by decide) rfl rfl rfl rfl rfl rfl (by decide) rfl rfl rfl ?_
    refine w_p h_m259 3 (pc' := 3) (L' := [(0, .ref 143), (1, .int (xs 1))]) (st' := [.ref 143, .int (0 : Int32), .int (xs 1)]) rfl ?_
    refine w_gf H (pc' := 6) (L' := [(0, .ref 143), (1, .int (xs 1))]) h_m259 (z_at.mk 3 rfl rfl) rfl (u := .ref 144) rfl rfl rfl ?_
    refine w_p h_m259 1 (pc' := 8) (L' := [(0, .ref 143), (1, .int (xs 1))]) (st' := [.int (10 : Int32), .ref 144, .int (0 : Int32), .int (xs 1)]) rfl ?_
    refine w_al H (t := 0) (j := 10) (pc' := 9) (L' := [(0, .ref 143), (1, .int (xs 1))]) h_m259 (z_at.mk 1 rfl rfl) rfl rfl rfl (u := .int (0 : Int32)) rfl rfl rfl ?_
    refine w_p h_m259 2 (pc' := 11) (L' := [(0, .ref 143), (1, .int (xs 1))]) (st' := [.int (-1 : Int32), .int (0 : Int32), .int (xs 1)]) rfl ?_
    refine w_cs (As := [.int (xs 1), .int (0 : Int32), .int (-1 : Int32)]) (rest := []) (j := 159) (L0 := [(0, .int (xs 1)), (1, .int (0 : Int32)), (2, .int (-1 : Int32))]) (pc' := 14) (L' := [(0, .ref 143), (1, .int (xs 1))]) h_m259 (z_at.mk 3 rfl rfl) (Or.inl ⟨rfl, rfl⟩) rfl rfl rfl rfl rfl ?_
    refine w_p h_m159 2 (pc' := 2) (L' := [(0, .int (xs 1)), (1, .int (0 : Int32)), (2, .int (-1 : Int32))]) (st' := [.int (0 : Int32), .int (xs 1)]) rfl ?_
    refine w_t2 (pc' := 14) (L' := []) h_m159 (z_at.mk 3 rfl rfl) rfl (zc (a := (xs 1).toInt) (b := 0) rfl rfl (decide_eq_true (by omega))) rfl rfl ?_
    refine w_p h_m159 1 (pc' := 15) (L' := []) (st' := [.int (0 : Int32)]) rfl ?_
    refine w_ri h_m159 (z_at.mk 1 rfl rfl) rfl rfl ?_
    show z_W 998 259 14 [(0, .ref 143), (1, .int (xs 1))] [.int (0 : Int32)] m _
    refine w_ri h_m259 (z_at.mk 1 rfl rfl) rfl rfl ?_
    show z_W 999 261 5 [(0, .ref 143), (1, .int (xs 1))] [.int (0 : Int32)] m _
    refine w_p h_m261 2 (pc' := 27) (L' := []) (st' := [.int (-1 : Int32)]) rfl ?_
    refine w_ri h_m261 (z_at.mk 1 rfl rfl) rfl rfl ?_
    show z_W 1000 1000 1074 [(0, .ref 0), (1, .ref 39), (2, .ref 143), (3, .int (0 : Int32))] [.int (-1 : Int32), .int (-1 : Int32)] m _
    refine w_p h_m1000 5 (pc' := 20) (L' := [(0, .ref 0), (1, .ref 39), (2, .ref 143), (3, .int (6 : Int32))]) (st' := [.ref 0, .int (6 : Int32)]) rfl ?_
    refine w_lene H (x := (6 : Int32)) (pc' := 21) (L' := [(0, .ref 0), (1, .ref 39), (2, .ref 143), (3, .int (6 : Int32))]) h_m1000 (z_at.mk 1 rfl rfl) (by decide) rfl (by decide) rfl rfl rfl ?_
    refine w_p h_m1000 4 (pc' := 1381) (L' := [(0, .ref 0), (1, .ref 39), (2, .ref 143), (3, .int (6 : Int32))]) (st' := [.int (1 : Int32)]) rfl ?_
    refine w_ri h_m1000 (z_at.mk 1 rfl rfl) rfl rfl ?_
    exact hQ _ _ _ _ H (by decide) (by decide)
  · refine w_f1 (pc' := 4) (L' := [(0, .ref 65), (1, .int (xs 1))]) h_m108 (z_at.mk 3 rfl rfl) rfl (zc (a := (xs 1).toInt) (b := 0) rfl rfl (decide_eq_false (by omega))) rfl rfl ?_
    refine w_p h_m108 2 (pc' := 6) (L' := [(0, .ref 65), (1, .int (xs 1))]) (st' := [.ref 65, .int (xs 1)]) rfl ?_
    refine w_gf H (pc' := 9) (L' := [(0, .ref 65), (1, .int (xs 1))]) h_m108 (z_at.mk 3 rfl rfl) rfl (u := .int (0 : Int32)) rfl rfl rfl ?_
    refine w_t2 (pc' := 22) (L' := []) h_m108 (z_at.mk 3 rfl rfl) rfl (zc (a := (xs 1).toInt) (b := 0) rfl rfl (decide_eq_true (by omega))) rfl rfl ?_
    refine w_p h_m108 1 (pc' := 23) (L' := []) (st' := [.int (0 : Int32)]) rfl ?_
    refine w_ri h_m108 (z_at.mk 1 rfl rfl) rfl rfl ?_
    show z_W 999 149 11 [(0, .ref 39), (1, .int (xs 1))] [.int (0 : Int32)] m _
    refine w_p h_m149 2 (pc' := 30) (L' := []) (st' := [.int (-1 : Int32)]) rfl ?_
    refine w_ri h_m149 (z_at.mk 1 rfl rfl) rfl rfl ?_
    show z_W 1000 1000 1065 [(0, .ref 0), (1, .ref 39), (2, .ref 143), (3, .int (0 : Int32))] [.int (-1 : Int32)] m _
    refine w_p h_m1000 5 (pc' := 1070) (L' := [(0, .ref 0), (1, .ref 39), (2, .ref 143), (3, .int (0 : Int32))]) (st' := [.int (1 : Int32), .ref 0, .ref 143, .int (-1 : Int32)]) rfl ?_
    refine w_ae H (j := 1) (pc' := 1071) (L' := [(0, .ref 0), (1, .ref 39), (2, .ref 143), (3, .int (0 : Int32))]) h_m1000 (z_at.mk 1 rfl rfl) rfl rfl rfl (by decide) rfl (by decide) rfl rfl rfl ?_
    refine w_cv (H.t rfl) (pc' := 1074) (L' := [(0, .ref 0), (1, .ref 39), (2, .ref 143), (3, .int (0 : Int32))]) (rest := [.int (-1 : Int32)]) (Ps := [.int (xs 1)]) (L0 := [(0, .ref 143), (1, .int (xs 1))]) h_m1000 (z_at.mk 3 rfl rfl) (Or.inl ⟨rfl, rfl⟩) rfl rfl (by decide) (by decide) rfl rfl rfl rfl rfl rfl (by decide) rfl rfl rfl ?_
    refine w_p h_m261 2 (pc' := 2) (L' := [(0, .ref 143), (1, .int (xs 1))]) (st' := [.int (xs 1), .ref 143]) rfl ?_
    refine w_cv (H.t rfl) (pc' := 5) (L' := [(0, .ref 143), (1, .int (xs 1))]) (rest := []) (Ps := [.int (xs 1)]) (L0 := [(0, .ref 143), (1, .int (xs 1))]) h_m261 (z_at.mk 3 rfl rfl) (Or.inl ⟨rfl, rfl⟩) rfl rfl (by decide) (by decide) rfl rfl rfl rfl rfl rfl (by decide) rfl rfl rfl ?_
    refine w_p h_m259 3 (pc' := 3) (L' := [(0, .ref 143), (1, .int (xs 1))]) (st' := [.ref 143, .int (0 : Int32), .int (xs 1)]) rfl ?_
    refine w_gf H (pc' := 6) (L' := [(0, .ref 143), (1, .int (xs 1))]) h_m259 (z_at.mk 3 rfl rfl) rfl (u := .ref 144) rfl rfl rfl ?_
    refine w_p h_m259 1 (pc' := 8) (L' := [(0, .ref 143), (1, .int (xs 1))]) (st' := [.int (10 : Int32), .ref 144, .int (0 : Int32), .int (xs 1)]) rfl ?_
    refine w_al H (t := 0) (j := 10) (pc' := 9) (L' := [(0, .ref 143), (1, .int (xs 1))]) h_m259 (z_at.mk 1 rfl rfl) rfl rfl rfl (u := .int (0 : Int32)) rfl rfl rfl ?_
    refine w_p h_m259 2 (pc' := 11) (L' := [(0, .ref 143), (1, .int (xs 1))]) (st' := [.int (-1 : Int32), .int (0 : Int32), .int (xs 1)]) rfl ?_
    refine w_cs (As := [.int (xs 1), .int (0 : Int32), .int (-1 : Int32)]) (rest := []) (j := 159) (L0 := [(0, .int (xs 1)), (1, .int (0 : Int32)), (2, .int (-1 : Int32))]) (pc' := 14) (L' := [(0, .ref 143), (1, .int (xs 1))]) h_m259 (z_at.mk 3 rfl rfl) (Or.inl ⟨rfl, rfl⟩) rfl rfl rfl rfl rfl ?_
    refine w_p h_m159 2 (pc' := 2) (L' := [(0, .int (xs 1)), (1, .int (0 : Int32)), (2, .int (-1 : Int32))]) (st' := [.int (0 : Int32), .int (xs 1)]) rfl ?_
    refine w_f2 (pc' := 5) (L' := [(0, .int (xs 1)), (1, .int (0 : Int32)), (2, .int (-1 : Int32))]) h_m159 (z_at.mk 3 rfl rfl) rfl (zc (a := (xs 1).toInt) (b := 0) rfl rfl (decide_eq_false (by omega))) rfl rfl ?_
    refine w_p h_m159 2 (pc' := 7) (L' := [(0, .int (xs 1)), (1, .int (0 : Int32)), (2, .int (-1 : Int32))]) (st' := [.int (-1 : Int32), .int (xs 1)]) rfl ?_
    refine w_t2 (pc' := 14) (L' := []) h_m159 (z_at.mk 3 rfl rfl) rfl (zc (a := (xs 1).toInt) (b := (-1)) rfl rfl (decide_eq_true (by omega))) rfl rfl ?_
    refine w_p h_m159 1 (pc' := 15) (L' := []) (st' := [.int (0 : Int32)]) rfl ?_
    refine w_ri h_m159 (z_at.mk 1 rfl rfl) rfl rfl ?_
    show z_W 998 259 14 [(0, .ref 143), (1, .int (xs 1))] [.int (0 : Int32)] m _
    refine w_ri h_m259 (z_at.mk 1 rfl rfl) rfl rfl ?_
    show z_W 999 261 5 [(0, .ref 143), (1, .int (xs 1))] [.int (0 : Int32)] m _
    refine w_p h_m261 2 (pc' := 27) (L' := []) (st' := [.int (-1 : Int32)]) rfl ?_
    refine w_ri h_m261 (z_at.mk 1 rfl rfl) rfl rfl ?_
    show z_W 1000 1000 1074 [(0, .ref 0), (1, .ref 39), (2, .ref 143), (3, .int (0 : Int32))] [.int (-1 : Int32), .int (-1 : Int32)] m _
    refine w_p h_m1000 5 (pc' := 20) (L' := [(0, .ref 0), (1, .ref 39), (2, .ref 143), (3, .int (6 : Int32))]) (st' := [.ref 0, .int (6 : Int32)]) rfl ?_
    refine w_lene H (x := (6 : Int32)) (pc' := 21) (L' := [(0, .ref 0), (1, .ref 39), (2, .ref 143), (3, .int (6 : Int32))]) h_m1000 (z_at.mk 1 rfl rfl) (by decide) rfl (by decide) rfl rfl rfl ?_
    refine w_p h_m1000 4 (pc' := 1381) (L' := [(0, .ref 0), (1, .ref 39), (2, .ref 143), (3, .int (6 : Int32))]) (st' := [.int (1 : Int32)]) rfl ?_
    refine w_ri h_m1000 (z_at.mk 1 rfl rfl) rfl rfl ?_
    exact hQ _ _ _ _ H (by decide) (by decide)
