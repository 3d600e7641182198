/-! THE LAW'S ROAD on scripts of at most 6 ints (by wip/px_main.py) -/
set_option maxRecDepth 20000 in
theorem w_l0 {xs : Nat → Int32} {m : zM} {Q : Option Value → zM → Prop} (H : w_ok 0 xs 168 63950 w_T0 m) (hQ : ∀ N S T m, w_ok 0 xs N S T m → N ≤ 600039 → S ≤ 7302250 → Q (some (.int 1)) m) : z_W 1000 1000 18 [(0, .ref 0), (1, .ref 39), (2, .ref 143), (3, .int (0 : Int32))] [] m Q := by
  refine w_p h_m1000 2 (pc' := 20) (L' := [(0, .ref 0), (1, .ref 39), (2, .ref 143), (3, .int (0 : Int32))]) (st' := [.ref 0, .int (0 : Int32)]) rfl ?_
  refine w_lene H (x := (0 : Int32)) (pc' := 21) (L' := [(0, .ref 0), (1, .ref 39), (2, .ref 143), (3, .int (0 : Int32))]) h_m1000 (z_at.mk 1 rfl rfl) (by decide) rfl (by decide) rfl rfl rfl ?_
  refine w_p h_m1000 4 (pc' := 1381) (L' := [(0, .ref 0), (1, .ref 39), (2, .ref 143), (3, .int (0 : Int32))]) (st' := [.int (1 : Int32)]) rfl ?_
  refine w_ri h_m1000 (z_at.mk 1 rfl rfl) rfl rfl ?_
  exact hQ _ _ _ _ H (by decide) (by decide)
set_option maxRecDepth 20000 in
theorem w_l1 {xs : Nat → Int32} {m : zM} {Q : Option Value → zM → Prop} (H : w_ok 1 xs 168 63950 w_T0 m) (hQ : ∀ N S T m, w_ok 1 xs N S T m → N ≤ 600039 → S ≤ 7302250 → Q (some (.int 1)) m) : z_W 1000 1000 18 [(0, .ref 0), (1, .ref 39), (2, .ref 143), (3, .int (0 : Int32))] [] m Q := by
  refine w_p h_m1000 2 (pc' := 20) (L' := [(0, .ref 0), (1, .ref 39), (2, .ref 143), (3, .int (0 : Int32))]) (st' := [.ref 0, .int (0 : Int32)]) rfl ?_
  refine w_lene H (x := (1 : Int32)) (pc' := 21) (L' := [(0, .ref 0), (1, .ref 39), (2, .ref 143), (3, .int (0 : Int32))]) h_m1000 (z_at.mk 1 rfl rfl) (by decide) rfl (by decide) rfl rfl rfl ?_
  refine w_p h_m1000 4 (pc' := 1381) (L' := [(0, .ref 0), (1, .ref 39), (2, .ref 143), (3, .int (0 : Int32))]) (st' := [.int (1 : Int32)]) rfl ?_
  refine w_ri h_m1000 (z_at.mk 1 rfl rfl) rfl rfl ?_
  exact hQ _ _ _ _ H (by decide) (by decide)
set_option maxRecDepth 20000 in
theorem w_l2 {xs : Nat → Int32} {m : zM} {Q : Option Value → zM → Prop} (H : w_ok 2 xs 168 63950 w_T0 m) (hQ : ∀ N S T m, w_ok 2 xs N S T m → N ≤ 600039 → S ≤ 7302250 → Q (some (.int 1)) m) : z_W 1000 1000 18 [(0, .ref 0), (1, .ref 39), (2, .ref 143), (3, .int (0 : Int32))] [] m Q := by
  refine w_p h_m1000 2 (pc' := 20) (L' := [(0, .ref 0), (1, .ref 39), (2, .ref 143), (3, .int (0 : Int32))]) (st' := [.ref 0, .int (0 : Int32)]) rfl ?_
  refine w_lene H (x := (2 : Int32)) (pc' := 21) (L' := [(0, .ref 0), (1, .ref 39), (2, .ref 143), (3, .int (0 : Int32))]) h_m1000 (z_at.mk 1 rfl rfl) (by decide) rfl (by decide) rfl rfl rfl ?_
  refine w_p h_m1000 4 (pc' := 1381) (L' := [(0, .ref 0), (1, .ref 39), (2, .ref 143), (3, .int (0 : Int32))]) (st' := [.int (1 : Int32)]) rfl ?_
  refine w_ri h_m1000 (z_at.mk 1 rfl rfl) rfl rfl ?_
  exact hQ _ _ _ _ H (by decide) (by decide)
set_option maxRecDepth 20000 in
theorem w_l3 {xs : Nat → Int32} {m : zM} {Q : Option Value → zM → Prop} (H : w_ok 3 xs 168 63950 w_T0 m) (hQ : ∀ N S T m, w_ok 3 xs N S T m → N ≤ 600039 → S ≤ 7302250 → Q (some (.int 1)) m) : z_W 1000 1000 18 [(0, .ref 0), (1, .ref 39), (2, .ref 143), (3, .int (0 : Int32))] [] m Q := by
  refine w_p h_m1000 2 (pc' := 20) (L' := [(0, .ref 0), (1, .ref 39), (2, .ref 143), (3, .int (0 : Int32))]) (st' := [.ref 0, .int (0 : Int32)]) rfl ?_
  refine w_lene H (x := (3 : Int32)) (pc' := 21) (L' := [(0, .ref 0), (1, .ref 39), (2, .ref 143), (3, .int (0 : Int32))]) h_m1000 (z_at.mk 1 rfl rfl) (by decide) rfl (by decide) rfl rfl rfl ?_
  refine w_p h_m1000 4 (pc' := 1381) (L' := [(0, .ref 0), (1, .ref 39), (2, .ref 143), (3, .int (0 : Int32))]) (st' := [.int (1 : Int32)]) rfl ?_
  refine w_ri h_m1000 (z_at.mk 1 rfl rfl) rfl rfl ?_
  exact hQ _ _ _ _ H (by decide) (by decide)
set_option maxRecDepth 20000 in
theorem w_l4 {xs : Nat → Int32} {m : zM} {Q : Option Value → zM → Prop} (H : w_ok 4 xs 168 63950 w_T0 m) (hQ : ∀ N S T m, w_ok 4 xs N S T m → N ≤ 600039 → S ≤ 7302250 → Q (some (.int 1)) m) : z_W 1000 1000 18 [(0, .ref 0), (1, .ref 39), (2, .ref 143), (3, .int (0 : Int32))] [] m Q := by
  refine w_p h_m1000 2 (pc' := 20) (L' := [(0, .ref 0), (1, .ref 39), (2, .ref 143), (3, .int (0 : Int32))]) (st' := [.ref 0, .int (0 : Int32)]) rfl ?_
  refine w_lene H (x := (4 : Int32)) (pc' := 21) (L' := [(0, .ref 0), (1, .ref 39), (2, .ref 143), (3, .int (0 : Int32))]) h_m1000 (z_at.mk 1 rfl rfl) (by decide) rfl (by decide) rfl rfl rfl ?_
  refine w_p h_m1000 4 (pc' := 1381) (L' := [(0, .ref 0), (1, .ref 39), (2, .ref 143), (3, .int (0 : Int32))]) (st' := [.int (1 : Int32)]) rfl ?_
  refine w_ri h_m1000 (z_at.mk 1 rfl rfl) rfl rfl ?_
  exact hQ _ _ _ _ H (by decide) (by decide)
set_option maxRecDepth 20000 in
theorem w_l5 {xs : Nat → Int32} {m : zM} {Q : Option Value → zM → Prop} (H : w_ok 5 xs 168 63950 w_T0 m) (hQ : ∀ N S T m, w_ok 5 xs N S T m → N ≤ 600039 → S ≤ 7302250 → Q (some (.int 1)) m) : z_W 1000 1000 18 [(0, .ref 0), (1, .ref 39), (2, .ref 143), (3, .int (0 : Int32))] [] m Q := by
  refine w_p h_m1000 2 (pc' := 20) (L' := [(0, .ref 0), (1, .ref 39), (2, .ref 143), (3, .int (0 : Int32))]) (st' := [.ref 0, .int (0 : Int32)]) rfl ?_
  refine w_lene H (x := (5 : Int32)) (pc' := 21) (L' := [(0, .ref 0), (1, .ref 39), (2, .ref 143), (3, .int (0 : Int32))]) h_m1000 (z_at.mk 1 rfl rfl) (by decide) rfl (by decide) rfl rfl rfl ?_
  refine w_p h_m1000 4 (pc' := 1381) (L' := [(0, .ref 0), (1, .ref 39), (2, .ref 143), (3, .int (0 : Int32))]) (st' := [.int (1 : Int32)]) rfl ?_
  refine w_ri h_m1000 (z_at.mk 1 rfl rfl) rfl rfl ?_
  exact hQ _ _ _ _ H (by decide) (by decide)
set_option maxHeartbeats 4000000 in
set_option maxRecDepth 20000 in
theorem w_l6 {xs : Nat → Int32} {m : zM} {Q : Option Value → zM → Prop} (H : w_ok 6 xs 168 63950 w_T0 m) (hQ : ∀ N S T m, w_ok 6 xs N S T m → N ≤ 600039 → S ≤ 7302250 → Q (some (.int 1)) m) : z_W 1000 1000 18 [(0, .ref 0), (1, .ref 39), (2, .ref 143), (3, .int (0 : Int32))] [] m Q := by
  refine w_p h_m1000 2 (pc' := 20) (L' := [(0, .ref 0), (1, .ref 39), (2, .ref 143), (3, .int (0 : Int32))]) (st' := [.ref 0, .int (0 : Int32)]) rfl ?_
  refine w_lene H (x := (6 : Int32)) (pc' := 21) (L' := [(0, .ref 0), (1, .ref 39), (2, .ref 143), (3, .int (0 : Int32))]) h_m1000 (z_at.mk 1 rfl rfl) (by decide) rfl (by decide) rfl rfl rfl ?_
  refine w_p h_m1000 5 (pc' := 29) (L' := [(0, .ref 0), (1, .ref 39), (2, .ref 143), (3, .int (0 : Int32))]) (st' := [.int (0 : Int32), .ref 0]) rfl ?_
  refine w_ae H (j := 0) (pc' := 30) (L' := [(0, .ref 0), (1, .ref 39), (2, .ref 143), (3, .int (0 : Int32))]) h_m1000 (z_at.mk 1 rfl rfl) rfl rfl rfl (by decide) rfl (by decide) rfl rfl rfl ?_
  refine w_p h_m1000 2 (pc' := 33) (L' := [(0, .ref 0), (1, .ref 39), (2, .ref 143), (3, .int (0 : Int32))]) (st' := [.int ((xs 0) &&& (63 : Int32))]) rfl ?_
  by_cases c_1 : ((xs 0) &&& (63 : Int32)).toInt = 0
  · refine w_sw (off := 163) (pc' := 196) (L' := [(0, .ref 0), (1, .ref 39), (2, .ref 143), (3, .int (0 : Int32))]) h_m1000 (z_at.mk 163 rfl rfl) (z_off_v (v := 0) c_1 (by decide)) rfl rfl rfl ?_
    exact w_c0 H hQ
  by_cases c_2 : ((xs 0) &&& (63 : Int32)).toInt = 1
  · refine w_sw (off := 246) (pc' := 279) (L' := [(0, .ref 0), (1, .ref 39), (2, .ref 143), (3, .int (0 : Int32))]) h_m1000 (z_at.mk 163 rfl rfl) (z_off_v (v := 1) c_2 (by decide)) rfl rfl rfl ?_
    exact w_c1 H hQ
  by_cases c_3 : ((xs 0) &&& (63 : Int32)).toInt = 2
  · refine w_sw (off := 269) (pc' := 302) (L' := [(0, .ref 0), (1, .ref 39), (2, .ref 143), (3, .int (0 : Int32))]) h_m1000 (z_at.mk 163 rfl rfl) (z_off_v (v := 2) c_3 (by decide)) rfl rfl rfl ?_
    exact w_c2 H hQ
  by_cases c_4 : ((xs 0) &&& (63 : Int32)).toInt = 3
  · refine w_sw (off := 302) (pc' := 335) (L' := [(0, .ref 0), (1, .ref 39), (2, .ref 143), (3, .int (0 : Int32))]) h_m1000 (z_at.mk 163 rfl rfl) (z_off_v (v := 3) c_4 (by decide)) rfl rfl rfl ?_
    exact w_c3 H hQ
  by_cases c_5 : ((xs 0) &&& (63 : Int32)).toInt = 4
  · refine w_sw (off := 326) (pc' := 359) (L' := [(0, .ref 0), (1, .ref 39), (2, .ref 143), (3, .int (0 : Int32))]) h_m1000 (z_at.mk 163 rfl rfl) (z_off_v (v := 4) c_5 (by decide)) rfl rfl rfl ?_
    exact w_c4 H hQ
  by_cases c_6 : ((xs 0) &&& (63 : Int32)).toInt = 5
  · refine w_sw (off := 349) (pc' := 382) (L' := [(0, .ref 0), (1, .ref 39), (2, .ref 143), (3, .int (0 : Int32))]) h_m1000 (z_at.mk 163 rfl rfl) (z_off_v (v := 5) c_6 (by decide)) rfl rfl rfl ?_
    exact w_c5 H hQ
  by_cases c_7 : ((xs 0) &&& (63 : Int32)).toInt = 6
  · refine w_sw (off := 362) (pc' := 395) (L' := [(0, .ref 0), (1, .ref 39), (2, .ref 143), (3, .int (0 : Int32))]) h_m1000 (z_at.mk 163 rfl rfl) (z_off_v (v := 6) c_7 (by decide)) rfl rfl rfl ?_
    exact w_c6 H hQ
  by_cases c_8 : ((xs 0) &&& (63 : Int32)).toInt = 7
  · refine w_sw (off := 375) (pc' := 408) (L' := [(0, .ref 0), (1, .ref 39), (2, .ref 143), (3, .int (0 : Int32))]) h_m1000 (z_at.mk 163 rfl rfl) (z_off_v (v := 7) c_8 (by decide)) rfl rfl rfl ?_
    exact w_c7 H hQ
  by_cases c_9 : ((xs 0) &&& (63 : Int32)).toInt = 8
  · refine w_sw (off := 398) (pc' := 431) (L' := [(0, .ref 0), (1, .ref 39), (2, .ref 143), (3, .int (0 : Int32))]) h_m1000 (z_at.mk 163 rfl rfl) (z_off_v (v := 8) c_9 (by decide)) rfl rfl rfl ?_
    exact w_c8 H hQ
  by_cases c_10 : ((xs 0) &&& (63 : Int32)).toInt = 9
  · refine w_sw (off := 411) (pc' := 444) (L' := [(0, .ref 0), (1, .ref 39), (2, .ref 143), (3, .int (0 : Int32))]) h_m1000 (z_at.mk 163 rfl rfl) (z_off_v (v := 9) c_10 (by decide)) rfl rfl rfl ?_
    exact w_c9 H hQ
  by_cases c_11 : ((xs 0) &&& (63 : Int32)).toInt = 10
  · refine w_sw (off := 435) (pc' := 468) (L' := [(0, .ref 0), (1, .ref 39), (2, .ref 143), (3, .int (0 : Int32))]) h_m1000 (z_at.mk 163 rfl rfl) (z_off_v (v := 10) c_11 (by decide)) rfl rfl rfl ?_
    exact w_c10 H hQ
  by_cases c_12 : ((xs 0) &&& (63 : Int32)).toInt = 11
  · refine w_sw (off := 448) (pc' := 481) (L' := [(0, .ref 0), (1, .ref 39), (2, .ref 143), (3, .int (0 : Int32))]) h_m1000 (z_at.mk 163 rfl rfl) (z_off_v (v := 11) c_12 (by decide)) rfl rfl rfl ?_
    exact w_c11 H hQ
  by_cases c_13 : ((xs 0) &&& (63 : Int32)).toInt = 12
  · refine w_sw (off := 461) (pc' := 494) (L' := [(0, .ref 0), (1, .ref 39), (2, .ref 143), (3, .int (0 : Int32))]) h_m1000 (z_at.mk 163 rfl rfl) (z_off_v (v := 12) c_13 (by decide)) rfl rfl rfl ?_
    exact w_c12 H hQ
  by_cases c_14 : ((xs 0) &&& (63 : Int32)).toInt = 13
  · refine w_sw (off := 514) (pc' := 547) (L' := [(0, .ref 0), (1, .ref 39), (2, .ref 143), (3, .int (0 : Int32))]) h_m1000 (z_at.mk 163 rfl rfl) (z_off_v (v := 13) c_14 (by decide)) rfl rfl rfl ?_
    exact w_c13 H hQ
  by_cases c_15 : ((xs 0) &&& (63 : Int32)).toInt = 14
  · refine w_sw (off := 537) (pc' := 570) (L' := [(0, .ref 0), (1, .ref 39), (2, .ref 143), (3, .int (0 : Int32))]) h_m1000 (z_at.mk 163 rfl rfl) (z_off_v (v := 14) c_15 (by decide)) rfl rfl rfl ?_
    exact w_c14 H hQ
  by_cases c_16 : ((xs 0) &&& (63 : Int32)).toInt = 15
  · refine w_sw (off := 601) (pc' := 634) (L' := [(0, .ref 0), (1, .ref 39), (2, .ref 143), (3, .int (0 : Int32))]) h_m1000 (z_at.mk 163 rfl rfl) (z_off_v (v := 15) c_16 (by decide)) rfl rfl rfl ?_
    exact w_c15 H hQ
  by_cases c_17 : ((xs 0) &&& (63 : Int32)).toInt = 16
  · refine w_sw (off := 624) (pc' := 657) (L' := [(0, .ref 0), (1, .ref 39), (2, .ref 143), (3, .int (0 : Int32))]) h_m1000 (z_at.mk 163 rfl rfl) (z_off_v (v := 16) c_17 (by decide)) rfl rfl rfl ?_
    exact w_c16 H hQ
  by_cases c_18 : ((xs 0) &&& (63 : Int32)).toInt = 17
  · refine w_sw (off := 677) (pc' := 710) (L' := [(0, .ref 0), (1, .ref 39), (2, .ref 143), (3, .int (0 : Int32))]) h_m1000 (z_at.mk 163 rfl rfl) (z_off_v (v := 17) c_18 (by decide)) rfl rfl rfl ?_
    exact w_c17 H hQ
  by_cases c_19 : ((xs 0) &&& (63 : Int32)).toInt = 18
  · refine w_sw (off := 710) (pc' := 743) (L' := [(0, .ref 0), (1, .ref 39), (2, .ref 143), (3, .int (0 : Int32))]) h_m1000 (z_at.mk 163 rfl rfl) (z_off_v (v := 18) c_19 (by decide)) rfl rfl rfl ?_
    exact w_c18 H hQ
  by_cases c_20 : ((xs 0) &&& (63 : Int32)).toInt = 19
  · refine w_sw (off := 743) (pc' := 776) (L' := [(0, .ref 0), (1, .ref 39), (2, .ref 143), (3, .int (0 : Int32))]) h_m1000 (z_at.mk 163 rfl rfl) (z_off_v (v := 19) c_20 (by decide)) rfl rfl rfl ?_
    exact w_c19 H hQ
  by_cases c_21 : ((xs 0) &&& (63 : Int32)).toInt = 20
  · refine w_sw (off := 767) (pc' := 800) (L' := [(0, .ref 0), (1, .ref 39), (2, .ref 143), (3, .int (0 : Int32))]) h_m1000 (z_at.mk 163 rfl rfl) (z_off_v (v := 20) c_21 (by decide)) rfl rfl rfl ?_
    exact w_c20 H hQ
  by_cases c_22 : ((xs 0) &&& (63 : Int32)).toInt = 21
  · refine w_sw (off := 791) (pc' := 824) (L' := [(0, .ref 0), (1, .ref 39), (2, .ref 143), (3, .int (0 : Int32))]) h_m1000 (z_at.mk 163 rfl rfl) (z_off_v (v := 21) c_22 (by decide)) rfl rfl rfl ?_
    exact w_c21 H hQ
  by_cases c_23 : ((xs 0) &&& (63 : Int32)).toInt = 22
  · refine w_sw (off := 804) (pc' := 837) (L' := [(0, .ref 0), (1, .ref 39), (2, .ref 143), (3, .int (0 : Int32))]) h_m1000 (z_at.mk 163 rfl rfl) (z_off_v (v := 22) c_23 (by decide)) rfl rfl rfl ?_
    exact w_c22 H hQ
  by_cases c_24 : ((xs 0) &&& (63 : Int32)).toInt = 23
  · refine w_sw (off := 827) (pc' := 860) (L' := [(0, .ref 0), (1, .ref 39), (2, .ref 143), (3, .int (0 : Int32))]) h_m1000 (z_at.mk 163 rfl rfl) (z_off_v (v := 23) c_24 (by decide)) rfl rfl rfl ?_
    exact w_c23 H hQ
  by_cases c_25 : ((xs 0) &&& (63 : Int32)).toInt = 24
  · refine w_sw (off := 880) (pc' := 913) (L' := [(0, .ref 0), (1, .ref 39), (2, .ref 143), (3, .int (0 : Int32))]) h_m1000 (z_at.mk 163 rfl rfl) (z_off_v (v := 24) c_25 (by decide)) rfl rfl rfl ?_
    exact w_c24 H hQ
  by_cases c_26 : ((xs 0) &&& (63 : Int32)).toInt = 25
  · refine w_sw (off := 913) (pc' := 946) (L' := [(0, .ref 0), (1, .ref 39), (2, .ref 143), (3, .int (0 : Int32))]) h_m1000 (z_at.mk 163 rfl rfl) (z_off_v (v := 25) c_26 (by decide)) rfl rfl rfl ?_
    exact w_c25 H hQ
  by_cases c_27 : ((xs 0) &&& (63 : Int32)).toInt = 26
  · refine w_sw (off := 936) (pc' := 969) (L' := [(0, .ref 0), (1, .ref 39), (2, .ref 143), (3, .int (0 : Int32))]) h_m1000 (z_at.mk 163 rfl rfl) (z_off_v (v := 26) c_27 (by decide)) rfl rfl rfl ?_
    exact w_c26 H hQ
  by_cases c_28 : ((xs 0) &&& (63 : Int32)).toInt = 27
  · refine w_sw (off := 999) (pc' := 1032) (L' := [(0, .ref 0), (1, .ref 39), (2, .ref 143), (3, .int (0 : Int32))]) h_m1000 (z_at.mk 163 rfl rfl) (z_off_v (v := 27) c_28 (by decide)) rfl rfl rfl ?_
    exact w_c27 H hQ
  by_cases c_29 : ((xs 0) &&& (63 : Int32)).toInt = 28
  · refine w_sw (off := 1023) (pc' := 1056) (L' := [(0, .ref 0), (1, .ref 39), (2, .ref 143), (3, .int (0 : Int32))]) h_m1000 (z_at.mk 163 rfl rfl) (z_off_v (v := 28) c_29 (by decide)) rfl rfl rfl ?_
    exact w_c28 H hQ
  by_cases c_30 : ((xs 0) &&& (63 : Int32)).toInt = 29
  · refine w_sw (off := 1046) (pc' := 1079) (L' := [(0, .ref 0), (1, .ref 39), (2, .ref 143), (3, .int (0 : Int32))]) h_m1000 (z_at.mk 163 rfl rfl) (z_off_v (v := 29) c_30 (by decide)) rfl rfl rfl ?_
    exact w_c29 H hQ
  by_cases c_31 : ((xs 0) &&& (63 : Int32)).toInt = 30
  · refine w_sw (off := 1079) (pc' := 1112) (L' := [(0, .ref 0), (1, .ref 39), (2, .ref 143), (3, .int (0 : Int32))]) h_m1000 (z_at.mk 163 rfl rfl) (z_off_v (v := 30) c_31 (by decide)) rfl rfl rfl ?_
    exact w_c30 H hQ
  by_cases c_32 : ((xs 0) &&& (63 : Int32)).toInt = 31
  · refine w_sw (off := 1152) (pc' := 1185) (L' := [(0, .ref 0), (1, .ref 39), (2, .ref 143), (3, .int (0 : Int32))]) h_m1000 (z_at.mk 163 rfl rfl) (z_off_v (v := 31) c_32 (by decide)) rfl rfl rfl ?_
    exact w_c31 H hQ
  by_cases c_33 : ((xs 0) &&& (63 : Int32)).toInt = 32
  · refine w_sw (off := 1186) (pc' := 1219) (L' := [(0, .ref 0), (1, .ref 39), (2, .ref 143), (3, .int (0 : Int32))]) h_m1000 (z_at.mk 163 rfl rfl) (z_off_v (v := 32) c_33 (by decide)) rfl rfl rfl ?_
    exact w_c32 H hQ
  by_cases c_34 : ((xs 0) &&& (63 : Int32)).toInt = 33
  · refine w_sw (off := 1249) (pc' := 1282) (L' := [(0, .ref 0), (1, .ref 39), (2, .ref 143), (3, .int (0 : Int32))]) h_m1000 (z_at.mk 163 rfl rfl) (z_off_v (v := 33) c_34 (by decide)) rfl rfl rfl ?_
    exact w_c33 H hQ
  by_cases c_35 : ((xs 0) &&& (63 : Int32)).toInt = 34
  · refine w_sw (off := 1282) (pc' := 1315) (L' := [(0, .ref 0), (1, .ref 39), (2, .ref 143), (3, .int (0 : Int32))]) h_m1000 (z_at.mk 163 rfl rfl) (z_off_v (v := 34) c_35 (by decide)) rfl rfl rfl ?_
    exact w_c34 H hQ
  by_cases c_36 : ((xs 0) &&& (63 : Int32)).toInt = 35
  · refine w_sw (off := 1315) (pc' := 1348) (L' := [(0, .ref 0), (1, .ref 39), (2, .ref 143), (3, .int (0 : Int32))]) h_m1000 (z_at.mk 163 rfl rfl) (z_off_v (v := 35) c_36 (by decide)) rfl rfl rfl ?_
    exact w_c35 H hQ
  by_cases c_37 : ((xs 0) &&& (63 : Int32)).toInt = 36
  · refine w_sw (off := 1328) (pc' := 1361) (L' := [(0, .ref 0), (1, .ref 39), (2, .ref 143), (3, .int (0 : Int32))]) h_m1000 (z_at.mk 163 rfl rfl) (z_off_v (v := 36) c_37 (by decide)) rfl rfl rfl ?_
    exact w_c36 H hQ
  refine w_sw (off := 1341) (pc' := 1374) (L' := [(0, .ref 0), (1, .ref 39), (2, .ref 143), (3, .int (0 : Int32))]) h_m1000 (z_at.mk 163 rfl rfl) (z_off_out (by omega)) rfl rfl rfl ?_
  refine w_p h_m1000 4 (pc' := 20) (L' := [(0, .ref 0), (1, .ref 39), (2, .ref 143), (3, .int (6 : Int32))]) (st' := [.ref 0, .int (6 : Int32)]) rfl ?_
  refine w_lene H (x := (6 : Int32)) (pc' := 21) (L' := [(0, .ref 0), (1, .ref 39), (2, .ref 143), (3, .int (6 : Int32))]) h_m1000 (z_at.mk 1 rfl rfl) (by decide) rfl (by decide) rfl rfl rfl ?_
  refine w_p h_m1000 4 (pc' := 1381) (L' := [(0, .ref 0), (1, .ref 39), (2, .ref 143), (3, .int (6 : Int32))]) (st' := [.int (1 : Int32)]) rfl ?_
  refine w_ri h_m1000 (z_at.mk 1 rfl rfl) rfl rfl ?_
  exact hQ _ _ _ _ H (by decide) (by decide)
theorem z_p1 : z_goal 6 := by
  intro L xs hL
  have key : z_W 1000 1000 0 [(0, .ref 0)] [] (z_mu0 L xs) (fun v μ' => v = some (.int 1) ∧ μ'.1.length ≤ 600039 ∧ z_slt μ' ≤ 7302250 + z_slt (z_mu0 L xs)) := by
    refine w_ctor (fun m H => ?_)
    have hQ : ∀ N S T m, w_ok L xs N S T m → N ≤ 600039 → S ≤ 7302250 → (fun (v : Option Value) (μ' : zM) => v = some (.int 1) ∧ μ'.1.length ≤ 600039 ∧ z_slt μ' ≤ 7302250 + z_slt (z_mu0 L xs)) (some (.int 1)) m := fun N S T m H h1 h2 => ⟨rfl, by rw [H.1]; exact h1, by rw [H.2.1]; omega⟩
    rcases (show L = 0 ∨ L = 1 ∨ L = 2 ∨ L = 3 ∨ L = 4 ∨ L = 5 ∨ L = 6 by omega) with rfl | rfl | rfl | rfl | rfl | rfl | rfl
    · exact w_l0 H hQ
    · exact w_l1 H hQ
    · exact w_l2 H hQ
    · exact w_l3 H hQ
    · exact w_l4 H hQ
    · exact w_l5 H hQ
    · exact w_l6 H hQ
  obtain ⟨v, μ', ⟨n, hn⟩, rfl, h2, h3⟩ := key
  exact ⟨n, 1000, μ', Nat.le_refl _, hn, h2, h3⟩
