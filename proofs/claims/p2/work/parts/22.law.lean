/-! THE LAW over the typed memory, from its loop on (by wip/zg.py) -/
def g_jRangeAnswersLaw_law_L1367 (xl : Nat) (xs : Nat → Int32) (g18 : Int → zS → Option (Int × zS)) (x3 : Int) (σ : zS) : Option (Int × zS) :=
  g18 (w32 (x3 + 6)) σ
set_option maxHeartbeats 4000000 in
theorem g_jRangeAnswersLaw_law_L1367_ok {xl : Nat} {xs : Nat → Int32} (hxl : xl < 2147483648) {g18 : Int → zS → Option (Int × zS)} (hg18 : ∀ {X3 : Int32} {x3 : Int} {σ : zS} {p : Nat} {m : zM} {o : Int × zS}, X3.toInt = x3 → zRep xl xs p m σ → g18 x3 σ = some o → zGo xl xs (fun _ => True) 510 1000 18 [(0, .ref 0), (1, .ref 39), (2, .ref 143), (3, .int X3)] [] m (vI o.1) o.2) {X3 : Int32} {x3 : Int} (hx3 : X3.toInt = x3) {σ : zS} {p : Nat} {m : zM} {o : Int × zS} (H : zRep xl xs p m σ) (h : g_jRangeAnswersLaw_law_L1367 xl xs g18 x3 σ = some o) : zGo xl xs (fun _ => True) 510 1000 1367 [(0, .ref 0), (1, .ref 39), (2, .ref 143), (3, .int X3)] [] m (vI o.1) o.2 := by
  have hq : z_mth 1000 = some z_rL := rfl
  unfold g_jRangeAnswersLaw_law_L1367 at h
  refine r_p hq 2 (pc' := 18) (L' := [(0, .ref 0), (1, .ref 39), (2, .ref 143), (3, .int (X3 + (6 : Int32)))]) (st' := []) rfl ?_
  exact hg18 (tx_iadd hx3 (rfl : (6 : Int32).toInt = 6)) H h
def g_jRangeAnswersLaw_law_L18 (xl : Nat) (xs : Nat → Int32) : Nat → Int → zS → Option (Int × zS)
  | 0, _, _ => none
  | n + 1, x3, σ =>
    if w32 (((xl : Int)) - 6) < x3 then
      some (1, σ)
    else
      if 0 ≤ x3 ∧ x3 < (xl : Int) then
      let v_29 := (xs (x3).toNat).toInt
      if iAnd v_29 63 = 0 then
        if 0 ≤ w32 (x3 + 1) ∧ w32 (x3 + 1) < (xl : Int) then
        let v_201 := (xs (w32 (x3 + 1)).toNat).toInt
        if 0 ≤ w32 (x3 + 2) ∧ w32 (x3 + 2) < (xl : Int) then
        let v_206 := (xs (w32 (x3 + 2)).toNat).toInt
        if 0 ≤ w32 (x3 + 3) ∧ w32 (x3 + 3) < (xl : Int) then
        let v_211 := (xs (w32 (x3 + 3)).toNat).toInt
        if 0 ≤ w32 (x3 + 4) ∧ w32 (x3 + 4) < (xl : Int) then
        let v_216 := (xs (w32 (x3 + 4)).toNat).toInt
        if 0 ≤ w32 (x3 + 5) ∧ w32 (x3 + 5) < (xl : Int) then
        let v_225 := (xs (w32 (x3 + 5)).toNat).toInt
        (g_c_put v_201 v_206 v_211 (lOr (lShl v_216 32) (lAnd v_225 4294967295)) σ).bind fun o_232 =>
        if 0 ≤ w32 (x3 + 1) ∧ w32 (x3 + 1) < (xl : Int) then
        let v_240 := (xs (w32 (x3 + 1)).toNat).toInt
        if 0 ≤ w32 (x3 + 2) ∧ w32 (x3 + 2) < (xl : Int) then
        let v_245 := (xs (w32 (x3 + 2)).toNat).toInt
        if 0 ≤ w32 (x3 + 3) ∧ w32 (x3 + 3) < (xl : Int) then
        let v_250 := (xs (w32 (x3 + 3)).toNat).toInt
        if 0 ≤ w32 (x3 + 4) ∧ w32 (x3 + 4) < (xl : Int) then
        let v_255 := (xs (w32 (x3 + 4)).toNat).toInt
        if 0 ≤ w32 (x3 + 5) ∧ w32 (x3 + 5) < (xl : Int) then
        let v_264 := (xs (w32 (x3 + 5)).toNat).toInt
        (g_m_put v_240 v_245 v_250 (lOr (lShl v_255 32) (lAnd v_264 4294967295)) o_232.2).bind fun o_271 =>
        if o_232.1 = o_271.1 then
          g_jRangeAnswersLaw_law_L1367 xl xs ((g_jRangeAnswersLaw_law_L18 xl xs n)) x3 o_271.2
        else
          some (0, o_271.2)
        else none
        else none
        else none
        else none
        else none
        else none
        else none
        else none
        else none
        else none
      else
      if iAnd v_29 63 = 1 then
        if 0 ≤ w32 (x3 + 1) ∧ w32 (x3 + 1) < (xl : Int) then
        let v_284 := (xs (w32 (x3 + 1)).toNat).toInt
        (g_c_take v_284 σ).bind fun o_285 =>
        if 0 ≤ w32 (x3 + 1) ∧ w32 (x3 + 1) < (xl : Int) then
        let v_294 := (xs (w32 (x3 + 1)).toNat).toInt
        (g_m_take v_294 o_285.2).bind fun o_295 =>
        g_jRangeAnswersLaw_law_L1367 xl xs ((g_jRangeAnswersLaw_law_L18 xl xs n)) x3 o_295.2
        else none
        else none
      else
      if iAnd v_29 63 = 2 then
        if 0 ≤ w32 (x3 + 1) ∧ w32 (x3 + 1) < (xl : Int) then
        let v_307 := (xs (w32 (x3 + 1)).toNat).toInt
        if 0 ≤ w32 (x3 + 2) ∧ w32 (x3 + 2) < (xl : Int) then
        let v_312 := (xs (w32 (x3 + 2)).toNat).toInt
        (g_c_row v_307 v_312 σ).bind fun o_313 =>
        if 0 ≤ w32 (x3 + 1) ∧ w32 (x3 + 1) < (xl : Int) then
        let v_322 := (xs (w32 (x3 + 1)).toNat).toInt
        if 0 ≤ w32 (x3 + 2) ∧ w32 (x3 + 2) < (xl : Int) then
        let v_327 := (xs (w32 (x3 + 2)).toNat).toInt
        (g_m_row v_322 v_327 o_313.2).bind fun o_328 =>
        g_jRangeAnswersLaw_law_L1367 xl xs ((g_jRangeAnswersLaw_law_L18 xl xs n)) x3 o_328.2
        else none
        else none
        else none
        else none
      else
      if iAnd v_29 63 = 3 then
        if 0 ≤ w32 (x3 + 1) ∧ w32 (x3 + 1) < (xl : Int) then
        let v_340 := (xs (w32 (x3 + 1)).toNat).toInt
        (g_c_worth v_340 σ).bind fun o_341 =>
        if 0 ≤ w32 (x3 + 1) ∧ w32 (x3 + 1) < (xl : Int) then
        let v_350 := (xs (w32 (x3 + 1)).toNat).toInt
        (g_m_worth v_350 o_341.2).bind fun o_351 =>
        g_jRangeAnswersLaw_law_L1367 xl xs ((g_jRangeAnswersLaw_law_L18 xl xs n)) x3 o_351.2
        else none
        else none
      else
      if iAnd v_29 63 = 4 then
        if 0 ≤ w32 (x3 + 1) ∧ w32 (x3 + 1) < (xl : Int) then
        let v_363 := (xs (w32 (x3 + 1)).toNat).toInt
        (g_c_feed v_363 σ).bind fun o_364 =>
        if 0 ≤ w32 (x3 + 1) ∧ w32 (x3 + 1) < (xl : Int) then
        let v_373 := (xs (w32 (x3 + 1)).toNat).toInt
        (g_m_feed v_373 o_364.2).bind fun o_374 =>
        g_jRangeAnswersLaw_law_L1367 xl xs ((g_jRangeAnswersLaw_law_L18 xl xs n)) x3 o_374.2
        else none
        else none
      else
      if iAnd v_29 63 = 5 then
        (g_c_clear σ).bind fun o_382 =>
        (g_m_clear o_382.2).bind fun o_387 =>
        g_jRangeAnswersLaw_law_L1367 xl xs ((g_jRangeAnswersLaw_law_L18 xl xs n)) x3 o_387.2
      else
      if iAnd v_29 63 = 6 then
        (g_c_settings σ).bind fun o_395 =>
        (g_m_settings o_395.2).bind fun o_400 =>
        g_jRangeAnswersLaw_law_L1367 xl xs ((g_jRangeAnswersLaw_law_L18 xl xs n)) x3 o_400.2
      else
      if iAnd v_29 63 = 7 then
        if 0 ≤ w32 (x3 + 1) ∧ w32 (x3 + 1) < (xl : Int) then
        let v_412 := (xs (w32 (x3 + 1)).toNat).toInt
        (g_c_setting v_412 σ).bind fun o_413 =>
        if 0 ≤ w32 (x3 + 1) ∧ w32 (x3 + 1) < (xl : Int) then
        let v_422 := (xs (w32 (x3 + 1)).toNat).toInt
        (g_m_setting v_422 o_413.2).bind fun o_423 =>
        g_jRangeAnswersLaw_law_L1367 xl xs ((g_jRangeAnswersLaw_law_L18 xl xs n)) x3 o_423.2
        else none
        else none
      else
      if iAnd v_29 63 = 8 then
        (g_c_run σ).bind fun o_431 =>
        (g_m_run o_431.2).bind fun o_436 =>
        g_jRangeAnswersLaw_law_L1367 xl xs ((g_jRangeAnswersLaw_law_L18 xl xs n)) x3 o_436.2
      else
      if iAnd v_29 63 = 9 then
        if 0 ≤ w32 (x3 + 1) ∧ w32 (x3 + 1) < (xl : Int) then
        let v_448 := (xs (w32 (x3 + 1)).toNat).toInt
        (g_c_answer v_448 σ).bind fun o_449 =>
        if 0 ≤ w32 (x3 + 1) ∧ w32 (x3 + 1) < (xl : Int) then
        let v_458 := (xs (w32 (x3 + 1)).toNat).toInt
        (g_m_answer v_458 o_449.2).bind fun o_459 =>
        g_jRangeAnswersLaw_law_L1367 xl xs ((g_jRangeAnswersLaw_law_L18 xl xs n)) x3 o_459.2
        else none
        else none
      else
      if iAnd v_29 63 = 10 then
        (g_c_spell σ).bind fun o_467 =>
        (g_m_spell o_467.2).bind fun o_472 =>
        g_jRangeAnswersLaw_law_L1367 xl xs ((g_jRangeAnswersLaw_law_L18 xl xs n)) x3 o_472.2
      else
      if iAnd v_29 63 = 11 then
        (g_c_load σ).bind fun o_480 =>
        (g_m_load o_480.2).bind fun o_485 =>
        g_jRangeAnswersLaw_law_L1367 xl xs ((g_jRangeAnswersLaw_law_L18 xl xs n)) x3 o_485.2
      else
      if iAnd v_29 63 = 12 then
        if 0 ≤ w32 (x3 + 1) ∧ w32 (x3 + 1) < (xl : Int) then
        let v_497 := (xs (w32 (x3 + 1)).toNat).toInt
        if 0 ≤ w32 (x3 + 2) ∧ w32 (x3 + 2) < (xl : Int) then
        let v_502 := (xs (w32 (x3 + 2)).toNat).toInt
        if 0 ≤ w32 (x3 + 3) ∧ w32 (x3 + 3) < (xl : Int) then
        let v_507 := (xs (w32 (x3 + 3)).toNat).toInt
        if 0 ≤ w32 (x3 + 4) ∧ w32 (x3 + 4) < (xl : Int) then
        let v_512 := (xs (w32 (x3 + 4)).toNat).toInt
        (g_c_explain v_497 v_502 v_507 v_512 σ).bind fun o_513 =>
        if 0 ≤ w32 (x3 + 1) ∧ w32 (x3 + 1) < (xl : Int) then
        let v_522 := (xs (w32 (x3 + 1)).toNat).toInt
        if 0 ≤ w32 (x3 + 2) ∧ w32 (x3 + 2) < (xl : Int) then
        let v_527 := (xs (w32 (x3 + 2)).toNat).toInt
        if 0 ≤ w32 (x3 + 3) ∧ w32 (x3 + 3) < (xl : Int) then
        let v_532 := (xs (w32 (x3 + 3)).toNat).toInt
        if 0 ≤ w32 (x3 + 4) ∧ w32 (x3 + 4) < (xl : Int) then
        let v_537 := (xs (w32 (x3 + 4)).toNat).toInt
        (g_m_explain v_522 v_527 v_532 v_537 o_513.2).bind fun o_538 =>
        g_jRangeAnswersLaw_law_L1367 xl xs ((g_jRangeAnswersLaw_law_L18 xl xs n)) x3 o_538.2
        else none
        else none
        else none
        else none
        else none
        else none
        else none
        else none
      else
      if iAnd v_29 63 = 13 then
        if 0 ≤ w32 (x3 + 1) ∧ w32 (x3 + 1) < (xl : Int) then
        let v_550 := (xs (w32 (x3 + 1)).toNat).toInt
        (g_c_paper v_550 σ).bind fun o_551 =>
        if 0 ≤ w32 (x3 + 1) ∧ w32 (x3 + 1) < (xl : Int) then
        let v_560 := (xs (w32 (x3 + 1)).toNat).toInt
        (g_m_paper v_560 o_551.2).bind fun o_561 =>
        g_jRangeAnswersLaw_law_L1367 xl xs ((g_jRangeAnswersLaw_law_L18 xl xs n)) x3 o_561.2
        else none
        else none
      else
      if iAnd v_29 63 = 14 then
        if 0 ≤ w32 (x3 + 1) ∧ w32 (x3 + 1) < (xl : Int) then
        let v_573 := (xs (w32 (x3 + 1)).toNat).toInt
        if 0 ≤ w32 (x3 + 2) ∧ w32 (x3 + 2) < (xl : Int) then
        let v_578 := (xs (w32 (x3 + 2)).toNat).toInt
        if 0 ≤ w32 (x3 + 3) ∧ w32 (x3 + 3) < (xl : Int) then
        let v_583 := (xs (w32 (x3 + 3)).toNat).toInt
        if 0 ≤ w32 (x3 + 4) ∧ w32 (x3 + 4) < (xl : Int) then
        let v_588 := (xs (w32 (x3 + 4)).toNat).toInt
        if 0 ≤ w32 (x3 + 5) ∧ w32 (x3 + 5) < (xl : Int) then
        let v_593 := (xs (w32 (x3 + 5)).toNat).toInt
        (g_c_query v_573 v_578 v_583 v_588 v_593 σ).bind fun o_594 =>
        if 0 ≤ w32 (x3 + 1) ∧ w32 (x3 + 1) < (xl : Int) then
        let v_603 := (xs (w32 (x3 + 1)).toNat).toInt
        if 0 ≤ w32 (x3 + 2) ∧ w32 (x3 + 2) < (xl : Int) then
        let v_608 := (xs (w32 (x3 + 2)).toNat).toInt
        if 0 ≤ w32 (x3 + 3) ∧ w32 (x3 + 3) < (xl : Int) then
        let v_613 := (xs (w32 (x3 + 3)).toNat).toInt
        if 0 ≤ w32 (x3 + 4) ∧ w32 (x3 + 4) < (xl : Int) then
        let v_618 := (xs (w32 (x3 + 4)).toNat).toInt
        if 0 ≤ w32 (x3 + 5) ∧ w32 (x3 + 5) < (xl : Int) then
        let v_623 := (xs (w32 (x3 + 5)).toNat).toInt
        (g_m_query v_603 v_608 v_613 v_618 v_623 o_594.2).bind fun o_624 =>
        g_jRangeAnswersLaw_law_L1367 xl xs ((g_jRangeAnswersLaw_law_L18 xl xs n)) x3 o_624.2
        else none
        else none
        else none
        else none
        else none
        else none
        else none
        else none
        else none
        else none
      else
      if iAnd v_29 63 = 15 then
        if 0 ≤ w32 (x3 + 1) ∧ w32 (x3 + 1) < (xl : Int) then
        let v_636 := (xs (w32 (x3 + 1)).toNat).toInt
        (g_c_find v_636 σ).bind fun o_637 =>
        if 0 ≤ w32 (x3 + 1) ∧ w32 (x3 + 1) < (xl : Int) then
        let v_646 := (xs (w32 (x3 + 1)).toNat).toInt
        (g_m_find v_646 o_637.2).bind fun o_647 =>
        g_jRangeAnswersLaw_law_L1367 xl xs ((g_jRangeAnswersLaw_law_L18 xl xs n)) x3 o_647.2
        else none
        else none
      else
      if iAnd v_29 63 = 16 then
        if 0 ≤ w32 (x3 + 1) ∧ w32 (x3 + 1) < (xl : Int) then
        let v_659 := (xs (w32 (x3 + 1)).toNat).toInt
        if 0 ≤ w32 (x3 + 2) ∧ w32 (x3 + 2) < (xl : Int) then
        let v_664 := (xs (w32 (x3 + 2)).toNat).toInt
        if 0 ≤ w32 (x3 + 3) ∧ w32 (x3 + 3) < (xl : Int) then
        let v_669 := (xs (w32 (x3 + 3)).toNat).toInt
        if 0 ≤ w32 (x3 + 4) ∧ w32 (x3 + 4) < (xl : Int) then
        let v_674 := (xs (w32 (x3 + 4)).toNat).toInt
        (g_c_probe v_659 v_664 v_669 v_674 σ).bind fun o_675 =>
        if 0 ≤ w32 (x3 + 1) ∧ w32 (x3 + 1) < (xl : Int) then
        let v_684 := (xs (w32 (x3 + 1)).toNat).toInt
        if 0 ≤ w32 (x3 + 2) ∧ w32 (x3 + 2) < (xl : Int) then
        let v_689 := (xs (w32 (x3 + 2)).toNat).toInt
        if 0 ≤ w32 (x3 + 3) ∧ w32 (x3 + 3) < (xl : Int) then
        let v_694 := (xs (w32 (x3 + 3)).toNat).toInt
        if 0 ≤ w32 (x3 + 4) ∧ w32 (x3 + 4) < (xl : Int) then
        let v_699 := (xs (w32 (x3 + 4)).toNat).toInt
        (g_m_probe v_684 v_689 v_694 v_699 o_675.2).bind fun o_700 =>
        g_jRangeAnswersLaw_law_L1367 xl xs ((g_jRangeAnswersLaw_law_L18 xl xs n)) x3 o_700.2
        else none
        else none
        else none
        else none
        else none
        else none
        else none
        else none
      else
      if iAnd v_29 63 = 17 then
        if 0 ≤ w32 (x3 + 1) ∧ w32 (x3 + 1) < (xl : Int) then
        let v_712 := (xs (w32 (x3 + 1)).toNat).toInt
        if 0 ≤ w32 (x3 + 2) ∧ w32 (x3 + 2) < (xl : Int) then
        let v_717 := (xs (w32 (x3 + 2)).toNat).toInt
        (g_c_piece v_712 v_717 σ).bind fun o_718 =>
        if 0 ≤ w32 (x3 + 1) ∧ w32 (x3 + 1) < (xl : Int) then
        let v_727 := (xs (w32 (x3 + 1)).toNat).toInt
        if 0 ≤ w32 (x3 + 2) ∧ w32 (x3 + 2) < (xl : Int) then
        let v_732 := (xs (w32 (x3 + 2)).toNat).toInt
        (g_m_piece v_727 v_732 o_718.2).bind fun o_733 =>
        g_jRangeAnswersLaw_law_L1367 xl xs ((g_jRangeAnswersLaw_law_L18 xl xs n)) x3 o_733.2
        else none
        else none
        else none
        else none
      else
      if iAnd v_29 63 = 18 then
        if 0 ≤ w32 (x3 + 1) ∧ w32 (x3 + 1) < (xl : Int) then
        let v_745 := (xs (w32 (x3 + 1)).toNat).toInt
        if 0 ≤ w32 (x3 + 2) ∧ w32 (x3 + 2) < (xl : Int) then
        let v_750 := (xs (w32 (x3 + 2)).toNat).toInt
        (g_c_region v_745 v_750 σ).bind fun o_751 =>
        if 0 ≤ w32 (x3 + 1) ∧ w32 (x3 + 1) < (xl : Int) then
        let v_760 := (xs (w32 (x3 + 1)).toNat).toInt
        if 0 ≤ w32 (x3 + 2) ∧ w32 (x3 + 2) < (xl : Int) then
        let v_765 := (xs (w32 (x3 + 2)).toNat).toInt
        (g_m_region_248 v_760 v_765 o_751.2).bind fun o_766 =>
        g_jRangeAnswersLaw_law_L1367 xl xs ((g_jRangeAnswersLaw_law_L18 xl xs n)) x3 o_766.2
        else none
        else none
        else none
        else none
      else
      if iAnd v_29 63 = 19 then
        if 0 ≤ w32 (x3 + 1) ∧ w32 (x3 + 1) < (xl : Int) then
        let v_778 := (xs (w32 (x3 + 1)).toNat).toInt
        (g_c_weight v_778 σ).bind fun o_779 =>
        if 0 ≤ w32 (x3 + 1) ∧ w32 (x3 + 1) < (xl : Int) then
        let v_788 := (xs (w32 (x3 + 1)).toNat).toInt
        (g_m_weight v_788 o_779.2).bind fun o_789 =>
        g_jRangeAnswersLaw_law_L1367 xl xs ((g_jRangeAnswersLaw_law_L18 xl xs n)) x3 o_789.2
        else none
        else none
      else
      if iAnd v_29 63 = 20 then
        if 0 ≤ w32 (x3 + 1) ∧ w32 (x3 + 1) < (xl : Int) then
        let v_801 := (xs (w32 (x3 + 1)).toNat).toInt
        (g_c_told v_801 σ).bind fun o_802 =>
        if 0 ≤ w32 (x3 + 1) ∧ w32 (x3 + 1) < (xl : Int) then
        let v_811 := (xs (w32 (x3 + 1)).toNat).toInt
        (g_m_told v_811 o_802.2).bind fun o_812 =>
        g_jRangeAnswersLaw_law_L1367 xl xs ((g_jRangeAnswersLaw_law_L18 xl xs n)) x3 o_812.2
        else none
        else none
      else
      if iAnd v_29 63 = 21 then
        (g_c_flush σ).bind fun o_820 =>
        (g_m_flush o_820.2).bind fun o_825 =>
        g_jRangeAnswersLaw_law_L1367 xl xs ((g_jRangeAnswersLaw_law_L18 xl xs n)) x3 o_825.2
      else
      if iAnd v_29 63 = 22 then
        if 0 ≤ w32 (x3 + 1) ∧ w32 (x3 + 1) < (xl : Int) then
        let v_837 := (xs (w32 (x3 + 1)).toNat).toInt
        (g_c_keep v_837 σ).bind fun o_838 =>
        if 0 ≤ w32 (x3 + 1) ∧ w32 (x3 + 1) < (xl : Int) then
        let v_847 := (xs (w32 (x3 + 1)).toNat).toInt
        (g_m_keep v_847 o_838.2).bind fun o_848 =>
        g_jRangeAnswersLaw_law_L1367 xl xs ((g_jRangeAnswersLaw_law_L18 xl xs n)) x3 o_848.2
        else none
        else none
      else
      if iAnd v_29 63 = 23 then
        if 0 ≤ w32 (x3 + 1) ∧ w32 (x3 + 1) < (xl : Int) then
        let v_860 := (xs (w32 (x3 + 1)).toNat).toInt
        if 0 ≤ w32 (x3 + 2) ∧ w32 (x3 + 2) < (xl : Int) then
        let v_865 := (xs (w32 (x3 + 2)).toNat).toInt
        if 0 ≤ w32 (x3 + 3) ∧ w32 (x3 + 3) < (xl : Int) then
        let v_870 := (xs (w32 (x3 + 3)).toNat).toInt
        if 0 ≤ w32 (x3 + 4) ∧ w32 (x3 + 4) < (xl : Int) then
        let v_875 := (xs (w32 (x3 + 4)).toNat).toInt
        (g_c_trace v_860 v_865 v_870 v_875 σ).bind fun o_876 =>
        if 0 ≤ w32 (x3 + 1) ∧ w32 (x3 + 1) < (xl : Int) then
        let v_885 := (xs (w32 (x3 + 1)).toNat).toInt
        if 0 ≤ w32 (x3 + 2) ∧ w32 (x3 + 2) < (xl : Int) then
        let v_890 := (xs (w32 (x3 + 2)).toNat).toInt
        if 0 ≤ w32 (x3 + 3) ∧ w32 (x3 + 3) < (xl : Int) then
        let v_895 := (xs (w32 (x3 + 3)).toNat).toInt
        if 0 ≤ w32 (x3 + 4) ∧ w32 (x3 + 4) < (xl : Int) then
        let v_900 := (xs (w32 (x3 + 4)).toNat).toInt
        (g_m_trace v_885 v_890 v_895 v_900 o_876.2).bind fun o_901 =>
        g_jRangeAnswersLaw_law_L1367 xl xs ((g_jRangeAnswersLaw_law_L18 xl xs n)) x3 o_901.2
        else none
        else none
        else none
        else none
        else none
        else none
        else none
        else none
      else
      if iAnd v_29 63 = 24 then
        if 0 ≤ w32 (x3 + 1) ∧ w32 (x3 + 1) < (xl : Int) then
        let v_913 := (xs (w32 (x3 + 1)).toNat).toInt
        if 0 ≤ w32 (x3 + 2) ∧ w32 (x3 + 2) < (xl : Int) then
        let v_918 := (xs (w32 (x3 + 2)).toNat).toInt
        (g_c_again v_913 v_918 σ).bind fun o_919 =>
        if 0 ≤ w32 (x3 + 1) ∧ w32 (x3 + 1) < (xl : Int) then
        let v_928 := (xs (w32 (x3 + 1)).toNat).toInt
        if 0 ≤ w32 (x3 + 2) ∧ w32 (x3 + 2) < (xl : Int) then
        let v_933 := (xs (w32 (x3 + 2)).toNat).toInt
        (g_m_again v_928 v_933 o_919.2).bind fun o_934 =>
        g_jRangeAnswersLaw_law_L1367 xl xs ((g_jRangeAnswersLaw_law_L18 xl xs n)) x3 o_934.2
        else none
        else none
        else none
        else none
      else
      if iAnd v_29 63 = 25 then
        if 0 ≤ w32 (x3 + 1) ∧ w32 (x3 + 1) < (xl : Int) then
        let v_946 := (xs (w32 (x3 + 1)).toNat).toInt
        (g_c_least v_946 σ).bind fun o_947 =>
        if 0 ≤ w32 (x3 + 1) ∧ w32 (x3 + 1) < (xl : Int) then
        let v_956 := (xs (w32 (x3 + 1)).toNat).toInt
        (g_m_least v_956 o_947.2).bind fun o_957 =>
        g_jRangeAnswersLaw_law_L1367 xl xs ((g_jRangeAnswersLaw_law_L18 xl xs n)) x3 o_957.2
        else none
        else none
      else
      if iAnd v_29 63 = 26 then
        if 0 ≤ w32 (x3 + 1) ∧ w32 (x3 + 1) < (xl : Int) then
        let v_969 := (xs (w32 (x3 + 1)).toNat).toInt
        if 0 ≤ w32 (x3 + 2) ∧ w32 (x3 + 2) < (xl : Int) then
        let v_974 := (xs (w32 (x3 + 2)).toNat).toInt
        if 0 ≤ w32 (x3 + 3) ∧ w32 (x3 + 3) < (xl : Int) then
        let v_979 := (xs (w32 (x3 + 3)).toNat).toInt
        if 0 ≤ w32 (x3 + 4) ∧ w32 (x3 + 4) < (xl : Int) then
        let v_984 := (xs (w32 (x3 + 4)).toNat).toInt
        if 0 ≤ w32 (x3 + 5) ∧ w32 (x3 + 5) < (xl : Int) then
        let v_989 := (xs (w32 (x3 + 5)).toNat).toInt
        (g_c_watch v_969 v_974 v_979 v_984 v_989 σ).bind fun o_990 =>
        if 0 ≤ w32 (x3 + 1) ∧ w32 (x3 + 1) < (xl : Int) then
        let v_999 := (xs (w32 (x3 + 1)).toNat).toInt
        if 0 ≤ w32 (x3 + 2) ∧ w32 (x3 + 2) < (xl : Int) then
        let v_1004 := (xs (w32 (x3 + 2)).toNat).toInt
        if 0 ≤ w32 (x3 + 3) ∧ w32 (x3 + 3) < (xl : Int) then
        let v_1009 := (xs (w32 (x3 + 3)).toNat).toInt
        if 0 ≤ w32 (x3 + 4) ∧ w32 (x3 + 4) < (xl : Int) then
        let v_1014 := (xs (w32 (x3 + 4)).toNat).toInt
        if 0 ≤ w32 (x3 + 5) ∧ w32 (x3 + 5) < (xl : Int) then
        let v_1019 := (xs (w32 (x3 + 5)).toNat).toInt
        (g_m_watch v_999 v_1004 v_1009 v_1014 v_1019 o_990.2).bind fun o_1020 =>
        g_jRangeAnswersLaw_law_L1367 xl xs ((g_jRangeAnswersLaw_law_L18 xl xs n)) x3 o_1020.2
        else none
        else none
        else none
        else none
        else none
        else none
        else none
        else none
        else none
        else none
      else
      if iAnd v_29 63 = 27 then
        if 0 ≤ w32 (x3 + 1) ∧ w32 (x3 + 1) < (xl : Int) then
        let v_1032 := (xs (w32 (x3 + 1)).toNat).toInt
        (g_c_value v_1032 σ).bind fun o_1033 =>
        if 0 ≤ w32 (x3 + 1) ∧ w32 (x3 + 1) < (xl : Int) then
        let v_1042 := (xs (w32 (x3 + 1)).toNat).toInt
        (g_m_value v_1042 o_1033.2).bind fun o_1043 =>
        g_jRangeAnswersLaw_law_L1367 xl xs ((g_jRangeAnswersLaw_law_L18 xl xs n)) x3 o_1043.2
        else none
        else none
      else
      if iAnd v_29 63 = 28 then
        if 0 ≤ w32 (x3 + 1) ∧ w32 (x3 + 1) < (xl : Int) then
        let v_1055 := (xs (w32 (x3 + 1)).toNat).toInt
        (g_c_changes v_1055 σ).bind fun o_1056 =>
        if 0 ≤ w32 (x3 + 1) ∧ w32 (x3 + 1) < (xl : Int) then
        let v_1065 := (xs (w32 (x3 + 1)).toNat).toInt
        (g_m_changes v_1065 o_1056.2).bind fun o_1066 =>
        g_jRangeAnswersLaw_law_L1367 xl xs ((g_jRangeAnswersLaw_law_L18 xl xs n)) x3 o_1066.2
        else none
        else none
      else
      if iAnd v_29 63 = 29 then
        if 0 ≤ w32 (x3 + 1) ∧ w32 (x3 + 1) < (xl : Int) then
        let v_1078 := (xs (w32 (x3 + 1)).toNat).toInt
        if 0 ≤ w32 (x3 + 2) ∧ w32 (x3 + 2) < (xl : Int) then
        let v_1083 := (xs (w32 (x3 + 2)).toNat).toInt
        (g_c_list v_1078 v_1083 σ).bind fun o_1084 =>
        if 0 ≤ w32 (x3 + 1) ∧ w32 (x3 + 1) < (xl : Int) then
        let v_1093 := (xs (w32 (x3 + 1)).toNat).toInt
        if 0 ≤ w32 (x3 + 2) ∧ w32 (x3 + 2) < (xl : Int) then
        let v_1098 := (xs (w32 (x3 + 2)).toNat).toInt
        (g_m_list v_1093 v_1098 o_1084.2).bind fun o_1099 =>
        g_jRangeAnswersLaw_law_L1367 xl xs ((g_jRangeAnswersLaw_law_L18 xl xs n)) x3 o_1099.2
        else none
        else none
        else none
        else none
      else
      if iAnd v_29 63 = 30 then
        if 0 ≤ w32 (x3 + 1) ∧ w32 (x3 + 1) < (xl : Int) then
        let v_1111 := (xs (w32 (x3 + 1)).toNat).toInt
        if 0 ≤ w32 (x3 + 2) ∧ w32 (x3 + 2) < (xl : Int) then
        let v_1116 := (xs (w32 (x3 + 2)).toNat).toInt
        if 0 ≤ w32 (x3 + 3) ∧ w32 (x3 + 3) < (xl : Int) then
        let v_1121 := (xs (w32 (x3 + 3)).toNat).toInt
        if 0 ≤ w32 (x3 + 4) ∧ w32 (x3 + 4) < (xl : Int) then
        let v_1130 := (xs (w32 (x3 + 4)).toNat).toInt
        (g_c_set v_1111 v_1116 (lOr (lShl v_1121 32) (lAnd v_1130 4294967295)) σ).bind fun o_1137 =>
        if 0 ≤ w32 (x3 + 1) ∧ w32 (x3 + 1) < (xl : Int) then
        let v_1146 := (xs (w32 (x3 + 1)).toNat).toInt
        if 0 ≤ w32 (x3 + 2) ∧ w32 (x3 + 2) < (xl : Int) then
        let v_1151 := (xs (w32 (x3 + 2)).toNat).toInt
        if 0 ≤ w32 (x3 + 3) ∧ w32 (x3 + 3) < (xl : Int) then
        let v_1156 := (xs (w32 (x3 + 3)).toNat).toInt
        if 0 ≤ w32 (x3 + 4) ∧ w32 (x3 + 4) < (xl : Int) then
        let v_1165 := (xs (w32 (x3 + 4)).toNat).toInt
        (g_m_set v_1146 v_1151 (lOr (lShl v_1156 32) (lAnd v_1165 4294967295)) o_1137.2).bind fun o_1172 =>
        g_jRangeAnswersLaw_law_L1367 xl xs ((g_jRangeAnswersLaw_law_L18 xl xs n)) x3 o_1172.2
        else none
        else none
        else none
        else none
        else none
        else none
        else none
        else none
      else
      if iAnd v_29 63 = 31 then
        if 0 ≤ w32 (x3 + 1) ∧ w32 (x3 + 1) < (xl : Int) then
        let v_1184 := (xs (w32 (x3 + 1)).toNat).toInt
        if 0 ≤ w32 (x3 + 2) ∧ w32 (x3 + 2) < (xl : Int) then
        let v_1189 := (xs (w32 (x3 + 2)).toNat).toInt
        (g_c_get v_1184 v_1189 σ).bind fun o_1190 =>
        if 0 ≤ w32 (x3 + 1) ∧ w32 (x3 + 1) < (xl : Int) then
        let v_1199 := (xs (w32 (x3 + 1)).toNat).toInt
        if 0 ≤ w32 (x3 + 2) ∧ w32 (x3 + 2) < (xl : Int) then
        let v_1204 := (xs (w32 (x3 + 2)).toNat).toInt
        (g_m_get v_1199 v_1204 o_1190.2).bind fun o_1205 =>
        g_jRangeAnswersLaw_law_L1367 xl xs ((g_jRangeAnswersLaw_law_L18 xl xs n)) x3 o_1205.2
        else none
        else none
        else none
        else none
      else
      if iAnd v_29 63 = 32 then
        if 0 ≤ w32 (x3 + 1) ∧ w32 (x3 + 1) < (xl : Int) then
        let v_1217 := (xs (w32 (x3 + 1)).toNat).toInt
        if 0 ≤ w32 (x3 + 2) ∧ w32 (x3 + 2) < (xl : Int) then
        let v_1222 := (xs (w32 (x3 + 2)).toNat).toInt
        if 0 ≤ w32 (x3 + 3) ∧ w32 (x3 + 3) < (xl : Int) then
        let v_1227 := (xs (w32 (x3 + 3)).toNat).toInt
        if 0 ≤ w32 (x3 + 4) ∧ w32 (x3 + 4) < (xl : Int) then
        let v_1232 := (xs (w32 (x3 + 4)).toNat).toInt
        if 0 ≤ w32 (x3 + 5) ∧ w32 (x3 + 5) < (xl : Int) then
        let v_1237 := (xs (w32 (x3 + 5)).toNat).toInt
        (g_c_move v_1217 v_1222 v_1227 v_1232 v_1237 σ).bind fun o_1238 =>
        if 0 ≤ w32 (x3 + 1) ∧ w32 (x3 + 1) < (xl : Int) then
        let v_1247 := (xs (w32 (x3 + 1)).toNat).toInt
        if 0 ≤ w32 (x3 + 2) ∧ w32 (x3 + 2) < (xl : Int) then
        let v_1252 := (xs (w32 (x3 + 2)).toNat).toInt
        if 0 ≤ w32 (x3 + 3) ∧ w32 (x3 + 3) < (xl : Int) then
        let v_1257 := (xs (w32 (x3 + 3)).toNat).toInt
        if 0 ≤ w32 (x3 + 4) ∧ w32 (x3 + 4) < (xl : Int) then
        let v_1262 := (xs (w32 (x3 + 4)).toNat).toInt
        if 0 ≤ w32 (x3 + 5) ∧ w32 (x3 + 5) < (xl : Int) then
        let v_1267 := (xs (w32 (x3 + 5)).toNat).toInt
        (g_m_move v_1247 v_1252 v_1257 v_1262 v_1267 o_1238.2).bind fun o_1268 =>
        g_jRangeAnswersLaw_law_L1367 xl xs ((g_jRangeAnswersLaw_law_L18 xl xs n)) x3 o_1268.2
        else none
        else none
        else none
        else none
        else none
        else none
        else none
        else none
        else none
        else none
      else
      if iAnd v_29 63 = 33 then
        if 0 ≤ w32 (x3 + 1) ∧ w32 (x3 + 1) < (xl : Int) then
        let v_1280 := (xs (w32 (x3 + 1)).toNat).toInt
        if 0 ≤ w32 (x3 + 2) ∧ w32 (x3 + 2) < (xl : Int) then
        let v_1285 := (xs (w32 (x3 + 2)).toNat).toInt
        (g_c_lay v_1280 v_1285 σ).bind fun o_1286 =>
        if 0 ≤ w32 (x3 + 1) ∧ w32 (x3 + 1) < (xl : Int) then
        let v_1295 := (xs (w32 (x3 + 1)).toNat).toInt
        if 0 ≤ w32 (x3 + 2) ∧ w32 (x3 + 2) < (xl : Int) then
        let v_1300 := (xs (w32 (x3 + 2)).toNat).toInt
        (g_m_lay v_1295 v_1300 o_1286.2).bind fun o_1301 =>
        g_jRangeAnswersLaw_law_L1367 xl xs ((g_jRangeAnswersLaw_law_L18 xl xs n)) x3 o_1301.2
        else none
        else none
        else none
        else none
      else
      if iAnd v_29 63 = 34 then
        if 0 ≤ w32 (x3 + 1) ∧ w32 (x3 + 1) < (xl : Int) then
        let v_1313 := (xs (w32 (x3 + 1)).toNat).toInt
        if 0 ≤ w32 (x3 + 2) ∧ w32 (x3 + 2) < (xl : Int) then
        let v_1318 := (xs (w32 (x3 + 2)).toNat).toInt
        (g_c_judge v_1313 v_1318 σ).bind fun o_1319 =>
        if 0 ≤ w32 (x3 + 1) ∧ w32 (x3 + 1) < (xl : Int) then
        let v_1328 := (xs (w32 (x3 + 1)).toNat).toInt
        if 0 ≤ w32 (x3 + 2) ∧ w32 (x3 + 2) < (xl : Int) then
        let v_1333 := (xs (w32 (x3 + 2)).toNat).toInt
        (g_m_judge v_1328 v_1333 o_1319.2).bind fun o_1334 =>
        g_jRangeAnswersLaw_law_L1367 xl xs ((g_jRangeAnswersLaw_law_L18 xl xs n)) x3 o_1334.2
        else none
        else none
        else none
        else none
      else
      if iAnd v_29 63 = 35 then
        (g_c_image σ).bind fun o_1342 =>
        (g_m_image o_1342.2).bind fun o_1347 =>
        g_jRangeAnswersLaw_law_L1367 xl xs ((g_jRangeAnswersLaw_law_L18 xl xs n)) x3 o_1347.2
      else
      if iAnd v_29 63 = 36 then
        (g_c_undo σ).bind fun o_1355 =>
        (g_m_undo o_1355.2).bind fun o_1360 =>
        g_jRangeAnswersLaw_law_L1367 xl xs ((g_jRangeAnswersLaw_law_L18 xl xs n)) x3 o_1360.2
      else
      g_jRangeAnswersLaw_law_L1367 xl xs ((g_jRangeAnswersLaw_law_L18 xl xs n)) x3 σ
      else none
set_option maxHeartbeats 4000000 in
theorem g_jRangeAnswersLaw_law_L18_ok {xl : Nat} {xs : Nat → Int32} (hxl : xl < 2147483648) : ∀ (n : Nat) {X3 : Int32} {x3 : Int} {σ : zS} {p : Nat} {m : zM} {o : Int × zS}, X3.toInt = x3 → zRep xl xs p m σ → g_jRangeAnswersLaw_law_L18 xl xs n x3 σ = some o → zGo xl xs (fun _ => True) 510 1000 18 [(0, .ref 0), (1, .ref 39), (2, .ref 143), (3, .int X3)] [] m (vI o.1) o.2
  | 0, _, _, _, _, _, _, _, _, h => by cases h
  | n + 1, X3, x3, σ, p, m, o, hx3, H, h => by
    have hq : z_mth 1000 = some z_rL := rfl
    have ih := fun {X3 : Int32} {x3 : Int} {σ : zS} {p : Nat} {m : zM} {o : Int × zS} => g_jRangeAnswersLaw_law_L18_ok (xl := xl) (xs := xs) hxl n (X3 := X3) (x3 := x3) (σ := σ) (p := p) (m := m) (o := o)
    unfold g_jRangeAnswersLaw_law_L18 at h
    refine r_p hq 2 (pc' := 20) (L' := [(0, .ref 0), (1, .ref 39), (2, .ref 143), (3, .int X3)]) (st' := [.ref 0, .int X3]) rfl ?_
    refine r_leS (pc' := 21) (L' := [(0, .ref 0), (1, .ref 39), (2, .ref 143), (3, .int X3)]) hxl H hq (z_at.mk 1 rfl rfl) rfl rfl ?_
    intro V_20 hV_20
    refine r_p hq 2 (pc' := 24) (L' := [(0, .ref 0), (1, .ref 39), (2, .ref 143), (3, .int X3)]) (st' := [.int (V_20 - ((6 : Int32))), .int X3]) rfl ?_
    rcases z_ite h with ⟨c_24, h⟩ | ⟨c_24, h⟩
    · refine r_t2 (pc' := 1373) (L' := [(0, .ref 0), (1, .ref 39), (2, .ref 143), (3, .int X3)]) hq (z_at.mk 3 rfl rfl) rfl hx3 (tx_isub hV_20 (rfl : (6 : Int32).toInt = 6)) c_24 rfl rfl ?_
      refine r_p hq 1 (pc' := 1374) (L' := [(0, .ref 0), (1, .ref 39), (2, .ref 143), (3, .int X3)]) (st' := [.int ((1 : Int32))]) rfl ?_
      cases h
      exact r_ri hq (z_at.mk 1 rfl rfl) rfl rfl (rfl : (1 : Int32).toInt = 1) trivial H
    · refine r_f2 (pc' := 27) (L' := [(0, .ref 0), (1, .ref 39), (2, .ref 143), (3, .int X3)]) hq (z_at.mk 3 rfl rfl) rfl hx3 (tx_isub hV_20 (rfl : (6 : Int32).toInt = 6)) c_24 rfl rfl ?_
      refine r_p hq 2 (pc' := 29) (L' := [(0, .ref 0), (1, .ref 39), (2, .ref 143), (3, .int X3)]) (st' := [.int X3, .ref 0]) rfl ?_
      obtain ⟨g_29, h⟩ := z_ifo_some h
      refine r_iaS (pc' := 30) (L' := [(0, .ref 0), (1, .ref 39), (2, .ref 143), (3, .int X3)]) H hq (z_at.mk 1 rfl rfl) hx3 g_29 rfl rfl ?_
      intro V_29 hV_29
      refine r_p hq 2 (pc' := 33) (L' := [(0, .ref 0), (1, .ref 39), (2, .ref 143), (3, .int X3)]) (st' := [.int (V_29 &&& ((63 : Int32)))]) rfl ?_
      rcases z_ite h with ⟨c_33_0, h⟩ | ⟨c_33_0, h⟩
      · refine r_sw (off := 163) (pc' := 196) (L' := [(0, .ref 0), (1, .ref 39), (2, .ref 143), (3, .int X3)]) hq (z_at.mk 163 rfl rfl) (z_off_v ((tx_iand hV_29 (rfl : (63 : Int32).toInt = 63)).trans c_33_0) rfl) rfl rfl rfl ?_
        refine r_p hq 5 (pc' := 201) (L' := [(0, .ref 0), (1, .ref 39), (2, .ref 143), (3, .int X3)]) (st' := [.int (X3 + ((1 : Int32))), .ref 0, .ref 39]) rfl ?_
        obtain ⟨g_201, h⟩ := z_ifo_some h
        refine r_iaS (pc' := 202) (L' := [(0, .ref 0), (1, .ref 39), (2, .ref 143), (3, .int X3)]) H hq (z_at.mk 1 rfl rfl) (tx_iadd hx3 (rfl : (1 : Int32).toInt = 1)) g_201 rfl rfl ?_
        intro V_201 hV_201
        refine r_p hq 4 (pc' := 206) (L' := [(0, .ref 0), (1, .ref 39), (2, .ref 143), (3, .int X3)]) (st' := [.int (X3 + ((2 : Int32))), .ref 0, .int V_201, .ref 39]) rfl ?_
        obtain ⟨g_206, h⟩ := z_ifo_some h
        refine r_iaS (pc' := 207) (L' := [(0, .ref 0), (1, .ref 39), (2, .ref 143), (3, .int X3)]) H hq (z_at.mk 1 rfl rfl) (tx_iadd hx3 (rfl : (2 : Int32).toInt = 2)) g_206 rfl rfl ?_
        intro V_206 hV_206
        refine r_p hq 4 (pc' := 211) (L' := [(0, .ref 0), (1, .ref 39), (2, .ref 143), (3, .int X3)]) (st' := [.int (X3 + ((3 : Int32))), .ref 0, .int V_206, .int V_201, .ref 39]) rfl ?_
        obtain ⟨g_211, h⟩ := z_ifo_some h
        refine r_iaS (pc' := 212) (L' := [(0, .ref 0), (1, .ref 39), (2, .ref 143), (3, .int X3)]) H hq (z_at.mk 1 rfl rfl) (tx_iadd hx3 (rfl : (3 : Int32).toInt = 3)) g_211 rfl rfl ?_
        intro V_211 hV_211
        refine r_p hq 4 (pc' := 216) (L' := [(0, .ref 0), (1, .ref 39), (2, .ref 143), (3, .int X3)]) (st' := [.int (X3 + ((4 : Int32))), .ref 0, .int V_211, .int V_206, .int V_201, .ref 39]) rfl ?_
        obtain ⟨g_216, h⟩ := z_ifo_some h
        refine r_iaS (pc' := 217) (L' := [(0, .ref 0), (1, .ref 39), (2, .ref 143), (3, .int X3)]) H hq (z_at.mk 1 rfl rfl) (tx_iadd hx3 (rfl : (4 : Int32).toInt = 4)) g_216 rfl rfl ?_
        intro V_216 hV_216
        refine r_p hq 7 (pc' := 225) (L' := [(0, .ref 0), (1, .ref 39), (2, .ref 143), (3, .int X3)]) (st' := [.int (X3 + ((5 : Int32))), .ref 0, .long (V_216.toInt64 <<< (((32 : Int32)).toInt64 &&& 63)), .int V_211, .int V_206, .int V_201, .ref 39]) rfl ?_
        obtain ⟨g_225, h⟩ := z_ifo_some h
        refine r_iaS (pc' := 226) (L' := [(0, .ref 0), (1, .ref 39), (2, .ref 143), (3, .int X3)]) H hq (z_at.mk 1 rfl rfl) (tx_iadd hx3 (rfl : (5 : Int32).toInt = 5)) g_225 rfl rfl ?_
        intro V_225 hV_225
        refine r_p hq 4 (pc' := 232) (L' := [(0, .ref 0), (1, .ref 39), (2, .ref 143), (3, .int X3)]) (st' := [.long ((V_216.toInt64 <<< (((32 : Int32)).toInt64 &&& 63)) ||| (V_225.toInt64 &&& ((4294967295 : Int64)))), .int V_211, .int V_206, .int V_201, .ref 39]) rfl ?_
        obtain ⟨o_232, h_232, h⟩ := Option.bind_eq_some_iff.mp h
        refine r_cvI (pc' := 235) (L' := [(0, .ref 0), (1, .ref 39), (2, .ref 143), (3, .int X3)]) (Ps := [.int V_201, .int V_206, .int V_211, .long ((V_216.toInt64 <<< (((32 : Int32)).toInt64 &&& 63)) ||| (V_225.toInt64 &&& ((4294967295 : Int64))))]) (rest := []) hq (z_at.mk 3 rfl rfl) (Or.inl ⟨rfl, rfl⟩) rfl rfl (by decide) (by decide) rfl (Nat.not_lt.mpr (Nat.le_of_ble_eq_true rfl)) rfl rfl (z_cat_le 0 rfl (by decide)) (z_lgl_le 6 rfl (by decide)) (by decide) (H.tg rfl) (by omega) (g_c_put_ok hV_201 hV_206 hV_211 (tx_lor (tx_lshl (tx_i2l hV_216) (rfl : (32 : Int32).toInt = 32)) (tx_land (tx_i2l hV_225) (rfl : (4294967295 : Int64).toInt = 4294967295))) H h_232) rfl rfl ?_
        intro R_232 m_232 p_232 e_232 hR_232 H_232
        subst e_232
        refine r_p hq 5 (pc' := 240) (L' := [(0, .ref 0), (1, .ref 39), (2, .ref 143), (3, .int X3)]) (st' := [.int (X3 + ((1 : Int32))), .ref 0, .ref 143, .int R_232]) rfl ?_
        obtain ⟨g_240, h⟩ := z_ifo_some h
        refine r_iaS (pc' := 241) (L' := [(0, .ref 0), (1, .ref 39), (2, .ref 143), (3, .int X3)]) H_232 hq (z_at.mk 1 rfl rfl) (tx_iadd hx3 (rfl : (1 : Int32).toInt = 1)) g_240 rfl rfl ?_
        intro V_240 hV_240
        refine r_p hq 4 (pc' := 245) (L' := [(0, .ref 0), (1, .ref 39), (2, .ref 143), (3, .int X3)]) (st' := [.int (X3 + ((2 : Int32))), .ref 0, .int V_240, .ref 143, .int R_232]) rfl ?_
        obtain ⟨g_245, h⟩ := z_ifo_some h
        refine r_iaS (pc' := 246) (L' := [(0, .ref 0), (1, .ref 39), (2, .ref 143), (3, .int X3)]) H_232 hq (z_at.mk 1 rfl rfl) (tx_iadd hx3 (rfl : (2 : Int32).toInt = 2)) g_245 rfl rfl ?_
        intro V_245 hV_245
        refine r_p hq 4 (pc' := 250) (L' := [(0, .ref 0), (1, .ref 39), (2, .ref 143), (3, .int X3)]) (st' := [.int (X3 + ((3 : Int32))), .ref 0, .int V_245, .int V_240, .ref 143, .int R_232]) rfl ?_
        obtain ⟨g_250, h⟩ := z_ifo_some h
        refine r_iaS (pc' := 251) (L' := [(0, .ref 0), (1, .ref 39), (2, .ref 143), (3, .int X3)]) H_232 hq (z_at.mk 1 rfl rfl) (tx_iadd hx3 (rfl : (3 : Int32).toInt = 3)) g_250 rfl rfl ?_
        intro V_250 hV_250
        refine r_p hq 4 (pc' := 255) (L' := [(0, .ref 0), (1, .ref 39), (2, .ref 143), (3, .int X3)]) (st' := [.int (X3 + ((4 : Int32))), .ref 0, .int V_250, .int V_245, .int V_240, .ref 143, .int R_232]) rfl ?_
        obtain ⟨g_255, h⟩ := z_ifo_some h
        refine r_iaS (pc' := 256) (L' := [(0, .ref 0), (1, .ref 39), (2, .ref 143), (3, .int X3)]) H_232 hq (z_at.mk 1 rfl rfl) (tx_iadd hx3 (rfl : (4 : Int32).toInt = 4)) g_255 rfl rfl ?_
        intro V_255 hV_255
        refine r_p hq 7 (pc' := 264) (L' := [(0, .ref 0), (1, .ref 39), (2, .ref 143), (3, .int X3)]) (st' := [.int (X3 + ((5 : Int32))), .ref 0, .long (V_255.toInt64 <<< (((32 : Int32)).toInt64 &&& 63)), .int V_250, .int V_245, .int V_240, .ref 143, .int R_232]) rfl ?_
        obtain ⟨g_264, h⟩ := z_ifo_some h
        refine r_iaS (pc' := 265) (L' := [(0, .ref 0), (1, .ref 39), (2, .ref 143), (3, .int X3)]) H_232 hq (z_at.mk 1 rfl rfl) (tx_iadd hx3 (rfl : (5 : Int32).toInt = 5)) g_264 rfl rfl ?_
        intro V_264 hV_264
        refine r_p hq 4 (pc' := 271) (L' := [(0, .ref 0), (1, .ref 39), (2, .ref 143), (3, .int X3)]) (st' := [.long ((V_255.toInt64 <<< (((32 : Int32)).toInt64 &&& 63)) ||| (V_264.toInt64 &&& ((4294967295 : Int64)))), .int V_250, .int V_245, .int V_240, .ref 143, .int R_232]) rfl ?_
        obtain ⟨o_271, h_271, h⟩ := Option.bind_eq_some_iff.mp h
        refine r_cvI (pc' := 274) (L' := [(0, .ref 0), (1, .ref 39), (2, .ref 143), (3, .int X3)]) (Ps := [.int V_240, .int V_245, .int V_250, .long ((V_255.toInt64 <<< (((32 : Int32)).toInt64 &&& 63)) ||| (V_264.toInt64 &&& ((4294967295 : Int64))))]) (rest := [.int R_232]) hq (z_at.mk 3 rfl rfl) (Or.inl ⟨rfl, rfl⟩) rfl rfl (by decide) (by decide) rfl (Nat.not_lt.mpr (Nat.le_of_ble_eq_true rfl)) rfl rfl (z_cat_le 1 rfl (by decide)) (z_lgl_le 6 rfl (by decide)) (by decide) (H_232.tg rfl) (by omega) (g_m_put_ok hV_240 hV_245 hV_250 (tx_lor (tx_lshl (tx_i2l hV_255) (rfl : (32 : Int32).toInt = 32)) (tx_land (tx_i2l hV_264) (rfl : (4294967295 : Int64).toInt = 4294967295))) H_232 h_271) rfl rfl ?_
        intro R_271 m_271 p_271 e_271 hR_271 H_271
        subst e_271
        rcases z_ite h with ⟨c_274, h⟩ | ⟨c_274, h⟩
        · refine r_t2 (pc' := 1367) (L' := [(0, .ref 0), (1, .ref 39), (2, .ref 143), (3, .int X3)]) hq (z_at.mk 3 rfl rfl) rfl hR_232 hR_271 c_274 rfl rfl ?_
          exact g_jRangeAnswersLaw_law_L1367_ok hxl ih hx3 H_271 h
        · refine r_f2 (pc' := 277) (L' := [(0, .ref 0), (1, .ref 39), (2, .ref 143), (3, .int X3)]) hq (z_at.mk 3 rfl rfl) rfl hR_232 hR_271 c_274 rfl rfl ?_
          refine r_p hq 1 (pc' := 278) (L' := [(0, .ref 0), (1, .ref 39), (2, .ref 143), (3, .int X3)]) (st' := [.int ((0 : Int32))]) rfl ?_
          cases h
          exact r_ri hq (z_at.mk 1 rfl rfl) rfl rfl (rfl : (0 : Int32).toInt = 0) trivial H_271
      rcases z_ite h with ⟨c_33_1, h⟩ | ⟨c_33_1, h⟩
      · refine r_sw (off := 246) (pc' := 279) (L' := [(0, .ref 0), (1, .ref 39), (2, .ref 143), (3, .int X3)]) hq (z_at.mk 163 rfl rfl) (z_off_v ((tx_iand hV_29 (rfl : (63 : Int32).toInt = 63)).trans c_33_1) rfl) rfl rfl rfl ?_
        refine r_p hq 5 (pc' := 284) (L' := [(0, .ref 0), (1, .ref 39), (2, .ref 143), (3, .int X3)]) (st' := [.int (X3 + ((1 : Int32))), .ref 0, .ref 39]) rfl ?_
        obtain ⟨g_284, h⟩ := z_ifo_some h
        refine r_iaS (pc' := 285) (L' := [(0, .ref 0), (1, .ref 39), (2, .ref 143), (3, .int X3)]) H hq (z_at.mk 1 rfl rfl) (tx_iadd hx3 (rfl : (1 : Int32).toInt = 1)) g_284 rfl rfl ?_
        intro V_284 hV_284
        obtain ⟨o_285, h_285, h⟩ := Option.bind_eq_some_iff.mp h
        refine r_cvI (pc' := 288) (L' := [(0, .ref 0), (1, .ref 39), (2, .ref 143), (3, .int X3)]) (Ps := [.int V_284]) (rest := []) hq (z_at.mk 3 rfl rfl) (Or.inl ⟨rfl, rfl⟩) rfl rfl (by decide) (by decide) rfl (Nat.not_lt.mpr (Nat.le_of_ble_eq_true rfl)) rfl rfl (z_cat_le 0 rfl (by decide)) (z_lgl_le 2 rfl (by decide)) (by decide) (H.tg rfl) (by omega) (g_c_take_ok hV_284 H h_285) rfl rfl ?_
        intro R_285 m_285 p_285 e_285 hR_285 H_285
        subst e_285
        refine r_p hq 6 (pc' := 294) (L' := [(0, .ref 0), (1, .ref 39), (2, .ref 143), (3, .int X3)]) (st' := [.int (X3 + ((1 : Int32))), .ref 0, .ref 143]) rfl ?_
        obtain ⟨g_294, h⟩ := z_ifo_some h
        refine r_iaS (pc' := 295) (L' := [(0, .ref 0), (1, .ref 39), (2, .ref 143), (3, .int X3)]) H_285 hq (z_at.mk 1 rfl rfl) (tx_iadd hx3 (rfl : (1 : Int32).toInt = 1)) g_294 rfl rfl ?_
        intro V_294 hV_294
        obtain ⟨o_295, h_295, h⟩ := Option.bind_eq_some_iff.mp h
        refine r_cvI (pc' := 298) (L' := [(0, .ref 0), (1, .ref 39), (2, .ref 143), (3, .int X3)]) (Ps := [.int V_294]) (rest := []) hq (z_at.mk 3 rfl rfl) (Or.inl ⟨rfl, rfl⟩) rfl rfl (by decide) (by decide) rfl (Nat.not_lt.mpr (Nat.le_of_ble_eq_true rfl)) rfl rfl (z_cat_le 0 rfl (by decide)) (z_lgl_le 2 rfl (by decide)) (by decide) (H_285.tg rfl) (by omega) (g_m_take_ok hV_294 H_285 h_295) rfl rfl ?_
        intro R_295 m_295 p_295 e_295 hR_295 H_295
        subst e_295
        refine r_p hq 2 (pc' := 1367) (L' := [(0, .ref 0), (1, .ref 39), (2, .ref 143), (3, .int X3)]) (st' := []) rfl ?_
        exact g_jRangeAnswersLaw_law_L1367_ok hxl ih hx3 H_295 h
      rcases z_ite h with ⟨c_33_2, h⟩ | ⟨c_33_2, h⟩
      · refine r_sw (off := 269) (pc' := 302) (L' := [(0, .ref 0), (1, .ref 39), (2, .ref 143), (3, .int X3)]) hq (z_at.mk 163 rfl rfl) (z_off_v ((tx_iand hV_29 (rfl : (63 : Int32).toInt = 63)).trans c_33_2) rfl) rfl rfl rfl ?_
        refine r_p hq 5 (pc' := 307) (L' := [(0, .ref 0), (1, .ref 39), (2, .ref 143), (3, .int X3)]) (st' := [.int (X3 + ((1 : Int32))), .ref 0, .ref 39]) rfl ?_
        obtain ⟨g_307, h⟩ := z_ifo_some h
        refine r_iaS (pc' := 308) (L' := [(0, .ref 0), (1, .ref 39), (2, .ref 143), (3, .int X3)]) H hq (z_at.mk 1 rfl rfl) (tx_iadd hx3 (rfl : (1 : Int32).toInt = 1)) g_307 rfl rfl ?_
        intro V_307 hV_307
        refine r_p hq 4 (pc' := 312) (L' := [(0, .ref 0), (1, .ref 39), (2, .ref 143), (3, .int X3)]) (st' := [.int (X3 + ((2 : Int32))), .ref 0, .int V_307, .ref 39]) rfl ?_
        obtain ⟨g_312, h⟩ := z_ifo_some h
        refine r_iaS (pc' := 313) (L' := [(0, .ref 0), (1, .ref 39), (2, .ref 143), (3, .int X3)]) H hq (z_at.mk 1 rfl rfl) (tx_iadd hx3 (rfl : (2 : Int32).toInt = 2)) g_312 rfl rfl ?_
        intro V_312 hV_312
        obtain ⟨o_313, h_313, h⟩ := Option.bind_eq_some_iff.mp h
        refine r_cvI (pc' := 316) (L' := [(0, .ref 0), (1, .ref 39), (2, .ref 143), (3, .int X3)]) (Ps := [.int V_307, .int V_312]) (rest := []) hq (z_at.mk 3 rfl rfl) (Or.inl ⟨rfl, rfl⟩) rfl rfl (by decide) (by decide) rfl (Nat.not_lt.mpr (Nat.le_of_ble_eq_true rfl)) rfl rfl (z_cat_le 0 rfl (by decide)) (z_lgl_le 3 rfl (by decide)) (by decide) (H.tg rfl) (by omega) (g_c_row_ok hV_307 hV_312 H h_313) rfl rfl ?_
        intro R_313 m_313 p_313 e_313 hR_313 H_313
        subst e_313
        refine r_p hq 6 (pc' := 322) (L' := [(0, .ref 0), (1, .ref 39), (2, .ref 143), (3, .int X3)]) (st' := [.int (X3 + ((1 : Int32))), .ref 0, .ref 143]) rfl ?_
        obtain ⟨g_322, h⟩ := z_ifo_some h
        refine r_iaS (pc' := 323) (L' := [(0, .ref 0), (1, .ref 39), (2, .ref 143), (3, .int X3)]) H_313 hq (z_at.mk 1 rfl rfl) (tx_iadd hx3 (rfl : (1 : Int32).toInt = 1)) g_322 rfl rfl ?_
        intro V_322 hV_322
        refine r_p hq 4 (pc' := 327) (L' := [(0, .ref 0), (1, .ref 39), (2, .ref 143), (3, .int X3)]) (st' := [.int (X3 + ((2 : Int32))), .ref 0, .int V_322, .ref 143]) rfl ?_
        obtain ⟨g_327, h⟩ := z_ifo_some h
        refine r_iaS (pc' := 328) (L' := [(0, .ref 0), (1, .ref 39), (2, .ref 143), (3, .int X3)]) H_313 hq (z_at.mk 1 rfl rfl) (tx_iadd hx3 (rfl : (2 : Int32).toInt = 2)) g_327 rfl rfl ?_
        intro V_327 hV_327
        obtain ⟨o_328, h_328, h⟩ := Option.bind_eq_some_iff.mp h
        refine r_cvI (pc' := 331) (L' := [(0, .ref 0), (1, .ref 39), (2, .ref 143), (3, .int X3)]) (Ps := [.int V_322, .int V_327]) (rest := []) hq (z_at.mk 3 rfl rfl) (Or.inl ⟨rfl, rfl⟩) rfl rfl (by decide) (by decide) rfl (Nat.not_lt.mpr (Nat.le_of_ble_eq_true rfl)) rfl rfl (z_cat_le 0 rfl (by decide)) (z_lgl_le 3 rfl (by decide)) (by decide) (H_313.tg rfl) (by omega) (g_m_row_ok hV_322 hV_327 H_313 h_328) rfl rfl ?_
        intro R_328 m_328 p_328 e_328 hR_328 H_328
        subst e_328
        refine r_p hq 2 (pc' := 1367) (L' := [(0, .ref 0), (1, .ref 39), (2, .ref 143), (3, .int X3)]) (st' := []) rfl ?_
        exact g_jRangeAnswersLaw_law_L1367_ok hxl ih hx3 H_328 h
      rcases z_ite h with ⟨c_33_3, h⟩ | ⟨c_33_3, h⟩
      · refine r_sw (off := 302) (pc' := 335) (L' := [(0, .ref 0), (1, .ref 39), (2, .ref 143), (3, .int X3)]) hq (z_at.mk 163 rfl rfl) (z_off_v ((tx_iand hV_29 (rfl : (63 : Int32).toInt = 63)).trans c_33_3) rfl) rfl rfl rfl ?_
        refine r_p hq 5 (pc' := 340) (L' := [(0, .ref 0), (1, .ref 39), (2, .ref 143), (3, .int X3)]) (st' := [.int (X3 + ((1 : Int32))), .ref 0, .ref 39]) rfl ?_
        obtain ⟨g_340, h⟩ := z_ifo_some h
        refine r_iaS (pc' := 341) (L' := [(0, .ref 0), (1, .ref 39), (2, .ref 143), (3, .int X3)]) H hq (z_at.mk 1 rfl rfl) (tx_iadd hx3 (rfl : (1 : Int32).toInt = 1)) g_340 rfl rfl ?_
        intro V_340 hV_340
        obtain ⟨o_341, h_341, h⟩ := Option.bind_eq_some_iff.mp h
        refine r_cvL (pc' := 344) (L' := [(0, .ref 0), (1, .ref 39), (2, .ref 143), (3, .int X3)]) (Ps := [.int V_340]) (rest := []) hq (z_at.mk 3 rfl rfl) (Or.inl ⟨rfl, rfl⟩) rfl rfl (by decide) (by decide) rfl (Nat.not_lt.mpr (Nat.le_of_ble_eq_true rfl)) rfl rfl (z_cat_le 0 rfl (by decide)) (z_lgl_le 2 rfl (by decide)) (by decide) (H.tg rfl) (by omega) (g_c_worth_ok hV_340 H h_341) rfl rfl ?_
        intro R_341 m_341 p_341 e_341 hR_341 H_341
        subst e_341
        refine r_p hq 6 (pc' := 350) (L' := [(0, .ref 0), (1, .ref 39), (2, .ref 143), (3, .int X3)]) (st' := [.int (X3 + ((1 : Int32))), .ref 0, .ref 143]) rfl ?_
        obtain ⟨g_350, h⟩ := z_ifo_some h
        refine r_iaS (pc' := 351) (L' := [(0, .ref 0), (1, .ref 39), (2, .ref 143), (3, .int X3)]) H_341 hq (z_at.mk 1 rfl rfl) (tx_iadd hx3 (rfl : (1 : Int32).toInt = 1)) g_350 rfl rfl ?_
        intro V_350 hV_350
        obtain ⟨o_351, h_351, h⟩ := Option.bind_eq_some_iff.mp h
        refine r_cvL (pc' := 354) (L' := [(0, .ref 0), (1, .ref 39), (2, .ref 143), (3, .int X3)]) (Ps := [.int V_350]) (rest := []) hq (z_at.mk 3 rfl rfl) (Or.inl ⟨rfl, rfl⟩) rfl rfl (by decide) (by decide) rfl (Nat.not_lt.mpr (Nat.le_of_ble_eq_true rfl)) rfl rfl (z_cat_le 0 rfl (by decide)) (z_lgl_le 2 rfl (by decide)) (by decide) (H_341.tg rfl) (by omega) (g_m_worth_ok hV_350 H_341 h_351) rfl rfl ?_
        intro R_351 m_351 p_351 e_351 hR_351 H_351
        subst e_351
        refine r_p hq 2 (pc' := 1367) (L' := [(0, .ref 0), (1, .ref 39), (2, .ref 143), (3, .int X3)]) (st' := []) rfl ?_
        exact g_jRangeAnswersLaw_law_L1367_ok hxl ih hx3 H_351 h
      rcases z_ite h with ⟨c_33_4, h⟩ | ⟨c_33_4, h⟩
      · refine r_sw (off := 325) (pc' := 358) (L' := [(0, .ref 0), (1, .ref 39), (2, .ref 143), (3, .int X3)]) hq (z_at.mk 163 rfl rfl) (z_off_v ((tx_iand hV_29 (rfl : (63 : Int32).toInt = 63)).trans c_33_4) rfl) rfl rfl rfl ?_
        refine r_p hq 5 (pc' := 363) (L' := [(0, .ref 0), (1, .ref 39), (2, .ref 143), (3, .int X3)]) (st' := [.int (X3 + ((1 : Int32))), .ref 0, .ref 39]) rfl ?_
        obtain ⟨g_363, h⟩ := z_ifo_some h
        refine r_iaS (pc' := 364) (L' := [(0, .ref 0), (1, .ref 39), (2, .ref 143), (3, .int X3)]) H hq (z_at.mk 1 rfl rfl) (tx_iadd hx3 (rfl : (1 : Int32).toInt = 1)) g_363 rfl rfl ?_
        intro V_363 hV_363
        obtain ⟨o_364, h_364, h⟩ := Option.bind_eq_some_iff.mp h
        refine r_cvI (pc' := 367) (L' := [(0, .ref 0), (1, .ref 39), (2, .ref 143), (3, .int X3)]) (Ps := [.int V_363]) (rest := []) hq (z_at.mk 3 rfl rfl) (Or.inl ⟨rfl, rfl⟩) rfl rfl (by decide) (by decide) rfl (Nat.not_lt.mpr (Nat.le_of_ble_eq_true rfl)) rfl rfl (z_cat_le 0 rfl (by decide)) (z_lgl_le 2 rfl (by decide)) (by decide) (H.tg rfl) (by omega) (g_c_feed_ok hV_363 H h_364) rfl rfl ?_
        intro R_364 m_364 p_364 e_364 hR_364 H_364
        subst e_364
        refine r_p hq 6 (pc' := 373) (L' := [(0, .ref 0), (1, .ref 39), (2, .ref 143), (3, .int X3)]) (st' := [.int (X3 + ((1 : Int32))), .ref 0, .ref 143]) rfl ?_
        obtain ⟨g_373, h⟩ := z_ifo_some h
        refine r_iaS (pc' := 374) (L' := [(0, .ref 0), (1, .ref 39), (2, .ref 143), (3, .int X3)]) H_364 hq (z_at.mk 1 rfl rfl) (tx_iadd hx3 (rfl : (1 : Int32).toInt = 1)) g_373 rfl rfl ?_
        intro V_373 hV_373
        obtain ⟨o_374, h_374, h⟩ := Option.bind_eq_some_iff.mp h
        refine r_cvI (pc' := 377) (L' := [(0, .ref 0), (1, .ref 39), (2, .ref 143), (3, .int X3)]) (Ps := [.int V_373]) (rest := []) hq (z_at.mk 3 rfl rfl) (Or.inl ⟨rfl, rfl⟩) rfl rfl (by decide) (by decide) rfl (Nat.not_lt.mpr (Nat.le_of_ble_eq_true rfl)) rfl rfl (z_cat_le 0 rfl (by decide)) (z_lgl_le 2 rfl (by decide)) (by decide) (H_364.tg rfl) (by omega) (g_m_feed_ok hV_373 H_364 h_374) rfl rfl ?_
        intro R_374 m_374 p_374 e_374 hR_374 H_374
        subst e_374
        refine r_p hq 2 (pc' := 1367) (L' := [(0, .ref 0), (1, .ref 39), (2, .ref 143), (3, .int X3)]) (st' := []) rfl ?_
        exact g_jRangeAnswersLaw_law_L1367_ok hxl ih hx3 H_374 h
      rcases z_ite h with ⟨c_33_5, h⟩ | ⟨c_33_5, h⟩
      · refine r_sw (off := 348) (pc' := 381) (L' := [(0, .ref 0), (1, .ref 39), (2, .ref 143), (3, .int X3)]) hq (z_at.mk 163 rfl rfl) (z_off_v ((tx_iand hV_29 (rfl : (63 : Int32).toInt = 63)).trans c_33_5) rfl) rfl rfl rfl ?_
        refine r_p hq 1 (pc' := 382) (L' := [(0, .ref 0), (1, .ref 39), (2, .ref 143), (3, .int X3)]) (st' := [.ref 39]) rfl ?_
        obtain ⟨o_382, h_382, h⟩ := Option.bind_eq_some_iff.mp h
        refine r_cvI (pc' := 385) (L' := [(0, .ref 0), (1, .ref 39), (2, .ref 143), (3, .int X3)]) (Ps := []) (rest := []) hq (z_at.mk 3 rfl rfl) (Or.inl ⟨rfl, rfl⟩) rfl rfl (by decide) (by decide) rfl (Nat.not_lt.mpr (Nat.le_of_ble_eq_true rfl)) rfl rfl (z_cat_le 0 rfl (by decide)) (z_lgl_le 1 rfl (by decide)) (by decide) (H.tg rfl) (by omega) (g_c_clear_ok H h_382) rfl rfl ?_
        intro R_382 m_382 p_382 e_382 hR_382 H_382
        subst e_382
        refine r_p hq 2 (pc' := 387) (L' := [(0, .ref 0), (1, .ref 39), (2, .ref 143), (3, .int X3)]) (st' := [.ref 143]) rfl ?_
        obtain ⟨o_387, h_387, h⟩ := Option.bind_eq_some_iff.mp h
        refine r_cvI (pc' := 390) (L' := [(0, .ref 0), (1, .ref 39), (2, .ref 143), (3, .int X3)]) (Ps := []) (rest := []) hq (z_at.mk 3 rfl rfl) (Or.inl ⟨rfl, rfl⟩) rfl rfl (by decide) (by decide) rfl (Nat.not_lt.mpr (Nat.le_of_ble_eq_true rfl)) rfl rfl (z_cat_le 0 rfl (by decide)) (z_lgl_le 1 rfl (by decide)) (by decide) (H_382.tg rfl) (by omega) (g_m_clear_ok H_382 h_387) rfl rfl ?_
        intro R_387 m_387 p_387 e_387 hR_387 H_387
        subst e_387
        refine r_p hq 2 (pc' := 1367) (L' := [(0, .ref 0), (1, .ref 39), (2, .ref 143), (3, .int X3)]) (st' := []) rfl ?_
        exact g_jRangeAnswersLaw_law_L1367_ok hxl ih hx3 H_387 h
      rcases z_ite h with ⟨c_33_6, h⟩ | ⟨c_33_6, h⟩
      · refine r_sw (off := 361) (pc' := 394) (L' := [(0, .ref 0), (1, .ref 39), (2, .ref 143), (3, .int X3)]) hq (z_at.mk 163 rfl rfl) (z_off_v ((tx_iand hV_29 (rfl : (63 : Int32).toInt = 63)).trans c_33_6) rfl) rfl rfl rfl ?_
        refine r_p hq 1 (pc' := 395) (L' := [(0, .ref 0), (1, .ref 39), (2, .ref 143), (3, .int X3)]) (st' := [.ref 39]) rfl ?_
        obtain ⟨o_395, h_395, h⟩ := Option.bind_eq_some_iff.mp h
        refine r_cvI (pc' := 398) (L' := [(0, .ref 0), (1, .ref 39), (2, .ref 143), (3, .int X3)]) (Ps := []) (rest := []) hq (z_at.mk 3 rfl rfl) (Or.inl ⟨rfl, rfl⟩) rfl rfl (by decide) (by decide) rfl (Nat.not_lt.mpr (Nat.le_of_ble_eq_true rfl)) rfl rfl (z_cat_le 0 rfl (by decide)) (z_lgl_le 1 rfl (by decide)) (by decide) (H.tg rfl) (by omega) (g_c_settings_ok H h_395) rfl rfl ?_
        intro R_395 m_395 p_395 e_395 hR_395 H_395
        subst e_395
        refine r_p hq 2 (pc' := 400) (L' := [(0, .ref 0), (1, .ref 39), (2, .ref 143), (3, .int X3)]) (st' := [.ref 143]) rfl ?_
        obtain ⟨o_400, h_400, h⟩ := Option.bind_eq_some_iff.mp h
        refine r_cvI (pc' := 403) (L' := [(0, .ref 0), (1, .ref 39), (2, .ref 143), (3, .int X3)]) (Ps := []) (rest := []) hq (z_at.mk 3 rfl rfl) (Or.inl ⟨rfl, rfl⟩) rfl rfl (by decide) (by decide) rfl (Nat.not_lt.mpr (Nat.le_of_ble_eq_true rfl)) rfl rfl (z_cat_le 0 rfl (by decide)) (z_lgl_le 1 rfl (by decide)) (by decide) (H_395.tg rfl) (by omega) (g_m_settings_ok H_395 h_400) rfl rfl ?_
        intro R_400 m_400 p_400 e_400 hR_400 H_400
        subst e_400
        refine r_p hq 2 (pc' := 1367) (L' := [(0, .ref 0), (1, .ref 39), (2, .ref 143), (3, .int X3)]) (st' := []) rfl ?_
        exact g_jRangeAnswersLaw_law_L1367_ok hxl ih hx3 H_400 h
      rcases z_ite h with ⟨c_33_7, h⟩ | ⟨c_33_7, h⟩
      · refine r_sw (off := 374) (pc' := 407) (L' := [(0, .ref 0), (1, .ref 39), (2, .ref 143), (3, .int X3)]) hq (z_at.mk 163 rfl rfl) (z_off_v ((tx_iand hV_29 (rfl : (63 : Int32).toInt = 63)).trans c_33_7) rfl) rfl rfl rfl ?_
        refine r_p hq 5 (pc' := 412) (L' := [(0, .ref 0), (1, .ref 39), (2, .ref 143), (3, .int X3)]) (st' := [.int (X3 + ((1 : Int32))), .ref 0, .ref 39]) rfl ?_
        obtain ⟨g_412, h⟩ := z_ifo_some h
        refine r_iaS (pc' := 413) (L' := [(0, .ref 0), (1, .ref 39), (2, .ref 143), (3, .int X3)]) H hq (z_at.mk 1 rfl rfl) (tx_iadd hx3 (rfl : (1 : Int32).toInt = 1)) g_412 rfl rfl ?_
        intro V_412 hV_412
        obtain ⟨o_413, h_413, h⟩ := Option.bind_eq_some_iff.mp h
        refine r_cvI (pc' := 416) (L' := [(0, .ref 0), (1, .ref 39), (2, .ref 143), (3, .int X3)]) (Ps := [.int V_412]) (rest := []) hq (z_at.mk 3 rfl rfl) (Or.inl ⟨rfl, rfl⟩) rfl rfl (by decide) (by decide) rfl (Nat.not_lt.mpr (Nat.le_of_ble_eq_true rfl)) rfl rfl (z_cat_le 0 rfl (by decide)) (z_lgl_le 2 rfl (by decide)) (by decide) (H.tg rfl) (by omega) (g_c_setting_ok hV_412 H h_413) rfl rfl ?_
        intro R_413 m_413 p_413 e_413 hR_413 H_413
        subst e_413
        refine r_p hq 6 (pc' := 422) (L' := [(0, .ref 0), (1, .ref 39), (2, .ref 143), (3, .int X3)]) (st' := [.int (X3 + ((1 : Int32))), .ref 0, .ref 143]) rfl ?_
        obtain ⟨g_422, h⟩ := z_ifo_some h
        refine r_iaS (pc' := 423) (L' := [(0, .ref 0), (1, .ref 39), (2, .ref 143), (3, .int X3)]) H_413 hq (z_at.mk 1 rfl rfl) (tx_iadd hx3 (rfl : (1 : Int32).toInt = 1)) g_422 rfl rfl ?_
        intro V_422 hV_422
        obtain ⟨o_423, h_423, h⟩ := Option.bind_eq_some_iff.mp h
        refine r_cvI (pc' := 426) (L' := [(0, .ref 0), (1, .ref 39), (2, .ref 143), (3, .int X3)]) (Ps := [.int V_422]) (rest := []) hq (z_at.mk 3 rfl rfl) (Or.inl ⟨rfl, rfl⟩) rfl rfl (by decide) (by decide) rfl (Nat.not_lt.mpr (Nat.le_of_ble_eq_true rfl)) rfl rfl (z_cat_le 0 rfl (by decide)) (z_lgl_le 2 rfl (by decide)) (by decide) (H_413.tg rfl) (by omega) (g_m_setting_ok hV_422 H_413 h_423) rfl rfl ?_
        intro R_423 m_423 p_423 e_423 hR_423 H_423
        subst e_423
        refine r_p hq 2 (pc' := 1367) (L' := [(0, .ref 0), (1, .ref 39), (2, .ref 143), (3, .int X3)]) (st' := []) rfl ?_
        exact g_jRangeAnswersLaw_law_L1367_ok hxl ih hx3 H_423 h
      rcases z_ite h with ⟨c_33_8, h⟩ | ⟨c_33_8, h⟩
      · refine r_sw (off := 397) (pc' := 430) (L' := [(0, .ref 0), (1, .ref 39), (2, .ref 143), (3, .int X3)]) hq (z_at.mk 163 rfl rfl) (z_off_v ((tx_iand hV_29 (rfl : (63 : Int32).toInt = 63)).trans c_33_8) rfl) rfl rfl rfl ?_
        refine r_p hq 1 (pc' := 431) (L' := [(0, .ref 0), (1, .ref 39), (2, .ref 143), (3, .int X3)]) (st' := [.ref 39]) rfl ?_
        obtain ⟨o_431, h_431, h⟩ := Option.bind_eq_some_iff.mp h
        refine r_cvI (pc' := 434) (L' := [(0, .ref 0), (1, .ref 39), (2, .ref 143), (3, .int X3)]) (Ps := []) (rest := []) hq (z_at.mk 3 rfl rfl) (Or.inl ⟨rfl, rfl⟩) rfl rfl (by decide) (by decide) rfl (Nat.not_lt.mpr (Nat.le_of_ble_eq_true rfl)) rfl rfl (z_cat_le 0 rfl (by decide)) (z_lgl_le 1 rfl (by decide)) (by decide) (H.tg rfl) (by omega) (g_c_run_ok H h_431) rfl rfl ?_
        intro R_431 m_431 p_431 e_431 hR_431 H_431
        subst e_431
        refine r_p hq 2 (pc' := 436) (L' := [(0, .ref 0), (1, .ref 39), (2, .ref 143), (3, .int X3)]) (st' := [.ref 143]) rfl ?_
        obtain ⟨o_436, h_436, h⟩ := Option.bind_eq_some_iff.mp h
        refine r_cvI (pc' := 439) (L' := [(0, .ref 0), (1, .ref 39), (2, .ref 143), (3, .int X3)]) (Ps := []) (rest := []) hq (z_at.mk 3 rfl rfl) (Or.inl ⟨rfl, rfl⟩) rfl rfl (by decide) (by decide) rfl (Nat.not_lt.mpr (Nat.le_of_ble_eq_true rfl)) rfl rfl (z_cat_le 0 rfl (by decide)) (z_lgl_le 1 rfl (by decide)) (by decide) (H_431.tg rfl) (by omega) (g_m_run_ok H_431 h_436) rfl rfl ?_
        intro R_436 m_436 p_436 e_436 hR_436 H_436
        subst e_436
        refine r_p hq 2 (pc' := 1367) (L' := [(0, .ref 0), (1, .ref 39), (2, .ref 143), (3, .int X3)]) (st' := []) rfl ?_
        exact g_jRangeAnswersLaw_law_L1367_ok hxl ih hx3 H_436 h
      rcases z_ite h with ⟨c_33_9, h⟩ | ⟨c_33_9, h⟩
      · refine r_sw (off := 410) (pc' := 443) (L' := [(0, .ref 0), (1, .ref 39), (2, .ref 143), (3, .int X3)]) hq (z_at.mk 163 rfl rfl) (z_off_v ((tx_iand hV_29 (rfl : (63 : Int32).toInt = 63)).trans c_33_9) rfl) rfl rfl rfl ?_
        refine r_p hq 5 (pc' := 448) (L' := [(0, .ref 0), (1, .ref 39), (2, .ref 143), (3, .int X3)]) (st' := [.int (X3 + ((1 : Int32))), .ref 0, .ref 39]) rfl ?_
        obtain ⟨g_448, h⟩ := z_ifo_some h
        refine r_iaS (pc' := 449) (L' := [(0, .ref 0), (1, .ref 39), (2, .ref 143), (3, .int X3)]) H hq (z_at.mk 1 rfl rfl) (tx_iadd hx3 (rfl : (1 : Int32).toInt = 1)) g_448 rfl rfl ?_
        intro V_448 hV_448
        obtain ⟨o_449, h_449, h⟩ := Option.bind_eq_some_iff.mp h
        refine r_cvL (pc' := 452) (L' := [(0, .ref 0), (1, .ref 39), (2, .ref 143), (3, .int X3)]) (Ps := [.int V_448]) (rest := []) hq (z_at.mk 3 rfl rfl) (Or.inl ⟨rfl, rfl⟩) rfl rfl (by decide) (by decide) rfl (Nat.not_lt.mpr (Nat.le_of_ble_eq_true rfl)) rfl rfl (z_cat_le 0 rfl (by decide)) (z_lgl_le 2 rfl (by decide)) (by decide) (H.tg rfl) (by omega) (g_c_answer_ok hV_448 H h_449) rfl rfl ?_
        intro R_449 m_449 p_449 e_449 hR_449 H_449
        subst e_449
        refine r_p hq 6 (pc' := 458) (L' := [(0, .ref 0), (1, .ref 39), (2, .ref 143), (3, .int X3)]) (st' := [.int (X3 + ((1 : Int32))), .ref 0, .ref 143]) rfl ?_
        obtain ⟨g_458, h⟩ := z_ifo_some h
        refine r_iaS (pc' := 459) (L' := [(0, .ref 0), (1, .ref 39), (2, .ref 143), (3, .int X3)]) H_449 hq (z_at.mk 1 rfl rfl) (tx_iadd hx3 (rfl : (1 : Int32).toInt = 1)) g_458 rfl rfl ?_
        intro V_458 hV_458
        obtain ⟨o_459, h_459, h⟩ := Option.bind_eq_some_iff.mp h
        refine r_cvL (pc' := 462) (L' := [(0, .ref 0), (1, .ref 39), (2, .ref 143), (3, .int X3)]) (Ps := [.int V_458]) (rest := []) hq (z_at.mk 3 rfl rfl) (Or.inl ⟨rfl, rfl⟩) rfl rfl (by decide) (by decide) rfl (Nat.not_lt.mpr (Nat.le_of_ble_eq_true rfl)) rfl rfl (z_cat_le 0 rfl (by decide)) (z_lgl_le 2 rfl (by decide)) (by decide) (H_449.tg rfl) (by omega) (g_m_answer_ok hV_458 H_449 h_459) rfl rfl ?_
        intro R_459 m_459 p_459 e_459 hR_459 H_459
        subst e_459
        refine r_p hq 2 (pc' := 1367) (L' := [(0, .ref 0), (1, .ref 39), (2, .ref 143), (3, .int X3)]) (st' := []) rfl ?_
        exact g_jRangeAnswersLaw_law_L1367_ok hxl ih hx3 H_459 h
      rcases z_ite h with ⟨c_33_10, h⟩ | ⟨c_33_10, h⟩
      · refine r_sw (off := 433) (pc' := 466) (L' := [(0, .ref 0), (1, .ref 39), (2, .ref 143), (3, .int X3)]) hq (z_at.mk 163 rfl rfl) (z_off_v ((tx_iand hV_29 (rfl : (63 : Int32).toInt = 63)).trans c_33_10) rfl) rfl rfl rfl ?_
        refine r_p hq 1 (pc' := 467) (L' := [(0, .ref 0), (1, .ref 39), (2, .ref 143), (3, .int X3)]) (st' := [.ref 39]) rfl ?_
        obtain ⟨o_467, h_467, h⟩ := Option.bind_eq_some_iff.mp h
        refine r_cvI (pc' := 470) (L' := [(0, .ref 0), (1, .ref 39), (2, .ref 143), (3, .int X3)]) (Ps := []) (rest := []) hq (z_at.mk 3 rfl rfl) (Or.inl ⟨rfl, rfl⟩) rfl rfl (by decide) (by decide) rfl (Nat.not_lt.mpr (Nat.le_of_ble_eq_true rfl)) rfl rfl (z_cat_le 0 rfl (by decide)) (z_lgl_le 1 rfl (by decide)) (by decide) (H.tg rfl) (by omega) (g_c_spell_ok H h_467) rfl rfl ?_
        intro R_467 m_467 p_467 e_467 hR_467 H_467
        refine r_p hq 2 (pc' := 472) (L' := [(0, .ref 0), (1, .ref 39), (2, .ref 143), (3, .int X3)]) (st' := [.ref 143]) rfl ?_
        obtain ⟨o_472, h_472, h⟩ := Option.bind_eq_some_iff.mp h
        refine r_cvI (pc' := 475) (L' := [(0, .ref 0), (1, .ref 39), (2, .ref 143), (3, .int X3)]) (Ps := []) (rest := []) hq (z_at.mk 3 rfl rfl) (Or.inl ⟨rfl, rfl⟩) rfl rfl (by decide) (by decide) rfl (Nat.not_lt.mpr (Nat.le_of_ble_eq_true rfl)) rfl rfl (z_cat_le 0 rfl (by decide)) (z_lgl_le 1 rfl (by decide)) (by decide) (H_467.tg rfl) (by omega) (g_m_spell_ok H_467 h_472) rfl rfl ?_
        intro R_472 m_472 p_472 e_472 hR_472 H_472
        subst e_472
        refine r_p hq 2 (pc' := 1367) (L' := [(0, .ref 0), (1, .ref 39), (2, .ref 143), (3, .int X3)]) (st' := []) rfl ?_
        exact g_jRangeAnswersLaw_law_L1367_ok hxl ih hx3 H_472 h
      rcases z_ite h with ⟨c_33_11, h⟩ | ⟨c_33_11, h⟩
      · refine r_sw (off := 446) (pc' := 479) (L' := [(0, .ref 0), (1, .ref 39), (2, .ref 143), (3, .int X3)]) hq (z_at.mk 163 rfl rfl) (z_off_v ((tx_iand hV_29 (rfl : (63 : Int32).toInt = 63)).trans c_33_11) rfl) rfl rfl rfl ?_
        refine r_p hq 1 (pc' := 480) (L' := [(0, .ref 0), (1, .ref 39), (2, .ref 143), (3, .int X3)]) (st' := [.ref 39]) rfl ?_
        obtain ⟨o_480, h_480, h⟩ := Option.bind_eq_some_iff.mp h
        refine r_cvI (pc' := 483) (L' := [(0, .ref 0), (1, .ref 39), (2, .ref 143), (3, .int X3)]) (Ps := []) (rest := []) hq (z_at.mk 3 rfl rfl) (Or.inl ⟨rfl, rfl⟩) rfl rfl (by decide) (by decide) rfl (Nat.not_lt.mpr (Nat.le_of_ble_eq_true rfl)) rfl rfl (z_cat_le 0 rfl (by decide)) (z_lgl_le 1 rfl (by decide)) (by decide) (H.tg rfl) (by omega) (g_c_load_ok H h_480) rfl rfl ?_
        intro R_480 m_480 p_480 e_480 hR_480 H_480
        subst e_480
        refine r_p hq 2 (pc' := 485) (L' := [(0, .ref 0), (1, .ref 39), (2, .ref 143), (3, .int X3)]) (st' := [.ref 143]) rfl ?_
        obtain ⟨o_485, h_485, h⟩ := Option.bind_eq_some_iff.mp h
        refine r_cvI (pc' := 488) (L' := [(0, .ref 0), (1, .ref 39), (2, .ref 143), (3, .int X3)]) (Ps := []) (rest := []) hq (z_at.mk 3 rfl rfl) (Or.inl ⟨rfl, rfl⟩) rfl rfl (by decide) (by decide) rfl (Nat.not_lt.mpr (Nat.le_of_ble_eq_true rfl)) rfl rfl (z_cat_le 0 rfl (by decide)) (z_lgl_le 1 rfl (by decide)) (by decide) (H_480.tg rfl) (by omega) (g_m_load_ok H_480 h_485) rfl rfl ?_
        intro R_485 m_485 p_485 e_485 hR_485 H_485
        subst e_485
        refine r_p hq 2 (pc' := 1367) (L' := [(0, .ref 0), (1, .ref 39), (2, .ref 143), (3, .int X3)]) (st' := []) rfl ?_
        exact g_jRangeAnswersLaw_law_L1367_ok hxl ih hx3 H_485 h
      rcases z_ite h with ⟨c_33_12, h⟩ | ⟨c_33_12, h⟩
      · refine r_sw (off := 459) (pc' := 492) (L' := [(0, .ref 0), (1, .ref 39), (2, .ref 143), (3, .int X3)]) hq (z_at.mk 163 rfl rfl) (z_off_v ((tx_iand hV_29 (rfl : (63 : Int32).toInt = 63)).trans c_33_12) rfl) rfl rfl rfl ?_
        refine r_p hq 5 (pc' := 497) (L' := [(0, .ref 0), (1, .ref 39), (2, .ref 143), (3, .int X3)]) (st' := [.int (X3 + ((1 : Int32))), .ref 0, .ref 39]) rfl ?_
        obtain ⟨g_497, h⟩ := z_ifo_some h
        refine r_iaS (pc' := 498) (L' := [(0, .ref 0), (1, .ref 39), (2, .ref 143), (3, .int X3)]) H hq (z_at.mk 1 rfl rfl) (tx_iadd hx3 (rfl : (1 : Int32).toInt = 1)) g_497 rfl rfl ?_
        intro V_497 hV_497
        refine r_p hq 4 (pc' := 502) (L' := [(0, .ref 0), (1, .ref 39), (2, .ref 143), (3, .int X3)]) (st' := [.int (X3 + ((2 : Int32))), .ref 0, .int V_497, .ref 39]) rfl ?_
        obtain ⟨g_502, h⟩ := z_ifo_some h
        refine r_iaS (pc' := 503) (L' := [(0, .ref 0), (1, .ref 39), (2, .ref 143), (3, .int X3)]) H hq (z_at.mk 1 rfl rfl) (tx_iadd hx3 (rfl : (2 : Int32).toInt = 2)) g_502 rfl rfl ?_
        intro V_502 hV_502
        refine r_p hq 4 (pc' := 507) (L' := [(0, .ref 0), (1, .ref 39), (2, .ref 143), (3, .int X3)]) (st' := [.int (X3 + ((3 : Int32))), .ref 0, .int V_502, .int V_497, .ref 39]) rfl ?_
        obtain ⟨g_507, h⟩ := z_ifo_some h
        refine r_iaS (pc' := 508) (L' := [(0, .ref 0), (1, .ref 39), (2, .ref 143), (3, .int X3)]) H hq (z_at.mk 1 rfl rfl) (tx_iadd hx3 (rfl : (3 : Int32).toInt = 3)) g_507 rfl rfl ?_
        intro V_507 hV_507
        refine r_p hq 4 (pc' := 512) (L' := [(0, .ref 0), (1, .ref 39), (2, .ref 143), (3, .int X3)]) (st' := [.int (X3 + ((4 : Int32))), .ref 0, .int V_507, .int V_502, .int V_497, .ref 39]) rfl ?_
        obtain ⟨g_512, h⟩ := z_ifo_some h
        refine r_iaS (pc' := 513) (L' := [(0, .ref 0), (1, .ref 39), (2, .ref 143), (3, .int X3)]) H hq (z_at.mk 1 rfl rfl) (tx_iadd hx3 (rfl : (4 : Int32).toInt = 4)) g_512 rfl rfl ?_
        intro V_512 hV_512
        obtain ⟨o_513, h_513, h⟩ := Option.bind_eq_some_iff.mp h
        refine r_cvI (pc' := 516) (L' := [(0, .ref 0), (1, .ref 39), (2, .ref 143), (3, .int X3)]) (Ps := [.int V_497, .int V_502, .int V_507, .int V_512]) (rest := []) hq (z_at.mk 3 rfl rfl) (Or.inl ⟨rfl, rfl⟩) rfl rfl (by decide) (by decide) rfl (Nat.not_lt.mpr (Nat.le_of_ble_eq_true rfl)) rfl rfl (z_cat_le 0 rfl (by decide)) (z_lgl_le 5 rfl (by decide)) (by decide) (H.tg rfl) (by omega) (g_c_explain_ok hV_497 hV_502 hV_507 hV_512 H h_513) rfl rfl ?_
        intro R_513 m_513 p_513 e_513 hR_513 H_513
        refine r_p hq 6 (pc' := 522) (L' := [(0, .ref 0), (1, .ref 39), (2, .ref 143), (3, .int X3)]) (st' := [.int (X3 + ((1 : Int32))), .ref 0, .ref 143]) rfl ?_
        obtain ⟨g_522, h⟩ := z_ifo_some h
        refine r_iaS (pc' := 523) (L' := [(0, .ref 0), (1, .ref 39), (2, .ref 143), (3, .int X3)]) H_513 hq (z_at.mk 1 rfl rfl) (tx_iadd hx3 (rfl : (1 : Int32).toInt = 1)) g_522 rfl rfl ?_
        intro V_522 hV_522
        refine r_p hq 4 (pc' := 527) (L' := [(0, .ref 0), (1, .ref 39), (2, .ref 143), (3, .int X3)]) (st' := [.int (X3 + ((2 : Int32))), .ref 0, .int V_522, .ref 143]) rfl ?_
        obtain ⟨g_527, h⟩ := z_ifo_some h
        refine r_iaS (pc' := 528) (L' := [(0, .ref 0), (1, .ref 39), (2, .ref 143), (3, .int X3)]) H_513 hq (z_at.mk 1 rfl rfl) (tx_iadd hx3 (rfl : (2 : Int32).toInt = 2)) g_527 rfl rfl ?_
        intro V_527 hV_527
        refine r_p hq 4 (pc' := 532) (L' := [(0, .ref 0), (1, .ref 39), (2, .ref 143), (3, .int X3)]) (st' := [.int (X3 + ((3 : Int32))), .ref 0, .int V_527, .int V_522, .ref 143]) rfl ?_
        obtain ⟨g_532, h⟩ := z_ifo_some h
        refine r_iaS (pc' := 533) (L' := [(0, .ref 0), (1, .ref 39), (2, .ref 143), (3, .int X3)]) H_513 hq (z_at.mk 1 rfl rfl) (tx_iadd hx3 (rfl : (3 : Int32).toInt = 3)) g_532 rfl rfl ?_
        intro V_532 hV_532
        refine r_p hq 4 (pc' := 537) (L' := [(0, .ref 0), (1, .ref 39), (2, .ref 143), (3, .int X3)]) (st' := [.int (X3 + ((4 : Int32))), .ref 0, .int V_532, .int V_527, .int V_522, .ref 143]) rfl ?_
        obtain ⟨g_537, h⟩ := z_ifo_some h
        refine r_iaS (pc' := 538) (L' := [(0, .ref 0), (1, .ref 39), (2, .ref 143), (3, .int X3)]) H_513 hq (z_at.mk 1 rfl rfl) (tx_iadd hx3 (rfl : (4 : Int32).toInt = 4)) g_537 rfl rfl ?_
        intro V_537 hV_537
        obtain ⟨o_538, h_538, h⟩ := Option.bind_eq_some_iff.mp h
        refine r_cvI (pc' := 541) (L' := [(0, .ref 0), (1, .ref 39), (2, .ref 143), (3, .int X3)]) (Ps := [.int V_522, .int V_527, .int V_532, .int V_537]) (rest := []) hq (z_at.mk 3 rfl rfl) (Or.inl ⟨rfl, rfl⟩) rfl rfl (by decide) (by decide) rfl (Nat.not_lt.mpr (Nat.le_of_ble_eq_true rfl)) rfl rfl (z_cat_le 0 rfl (by decide)) (z_lgl_le 5 rfl (by decide)) (by decide) (H_513.tg rfl) (by omega) (g_m_explain_ok hV_522 hV_527 hV_532 hV_537 H_513 h_538) rfl rfl ?_
        intro R_538 m_538 p_538 e_538 hR_538 H_538
        subst e_538
        refine r_p hq 2 (pc' := 1367) (L' := [(0, .ref 0), (1, .ref 39), (2, .ref 143), (3, .int X3)]) (st' := []) rfl ?_
        exact g_jRangeAnswersLaw_law_L1367_ok hxl ih hx3 H_538 h
      rcases z_ite h with ⟨c_33_13, h⟩ | ⟨c_33_13, h⟩
      · refine r_sw (off := 512) (pc' := 545) (L' := [(0, .ref 0), (1, .ref 39), (2, .ref 143), (3, .int X3)]) hq (z_at.mk 163 rfl rfl) (z_off_v ((tx_iand hV_29 (rfl : (63 : Int32).toInt = 63)).trans c_33_13) rfl) rfl rfl rfl ?_
        refine r_p hq 5 (pc' := 550) (L' := [(0, .ref 0), (1, .ref 39), (2, .ref 143), (3, .int X3)]) (st' := [.int (X3 + ((1 : Int32))), .ref 0, .ref 39]) rfl ?_
        obtain ⟨g_550, h⟩ := z_ifo_some h
        refine r_iaS (pc' := 551) (L' := [(0, .ref 0), (1, .ref 39), (2, .ref 143), (3, .int X3)]) H hq (z_at.mk 1 rfl rfl) (tx_iadd hx3 (rfl : (1 : Int32).toInt = 1)) g_550 rfl rfl ?_
        intro V_550 hV_550
        obtain ⟨o_551, h_551, h⟩ := Option.bind_eq_some_iff.mp h
        refine r_cvI (pc' := 554) (L' := [(0, .ref 0), (1, .ref 39), (2, .ref 143), (3, .int X3)]) (Ps := [.int V_550]) (rest := []) hq (z_at.mk 3 rfl rfl) (Or.inl ⟨rfl, rfl⟩) rfl rfl (by decide) (by decide) rfl (Nat.not_lt.mpr (Nat.le_of_ble_eq_true rfl)) rfl rfl (z_cat_le 0 rfl (by decide)) (z_lgl_le 2 rfl (by decide)) (by decide) (H.tg rfl) (by omega) (g_c_paper_ok hV_550 H h_551) rfl rfl ?_
        intro R_551 m_551 p_551 e_551 hR_551 H_551
        subst e_551
        refine r_p hq 6 (pc' := 560) (L' := [(0, .ref 0), (1, .ref 39), (2, .ref 143), (3, .int X3)]) (st' := [.int (X3 + ((1 : Int32))), .ref 0, .ref 143]) rfl ?_
        obtain ⟨g_560, h⟩ := z_ifo_some h
        refine r_iaS (pc' := 561) (L' := [(0, .ref 0), (1, .ref 39), (2, .ref 143), (3, .int X3)]) H_551 hq (z_at.mk 1 rfl rfl) (tx_iadd hx3 (rfl : (1 : Int32).toInt = 1)) g_560 rfl rfl ?_
        intro V_560 hV_560
        obtain ⟨o_561, h_561, h⟩ := Option.bind_eq_some_iff.mp h
        refine r_cvI (pc' := 564) (L' := [(0, .ref 0), (1, .ref 39), (2, .ref 143), (3, .int X3)]) (Ps := [.int V_560]) (rest := []) hq (z_at.mk 3 rfl rfl) (Or.inl ⟨rfl, rfl⟩) rfl rfl (by decide) (by decide) rfl (Nat.not_lt.mpr (Nat.le_of_ble_eq_true rfl)) rfl rfl (z_cat_le 0 rfl (by decide)) (z_lgl_le 2 rfl (by decide)) (by decide) (H_551.tg rfl) (by omega) (g_m_paper_ok hV_560 H_551 h_561) rfl rfl ?_
        intro R_561 m_561 p_561 e_561 hR_561 H_561
        subst e_561
        refine r_p hq 2 (pc' := 1367) (L' := [(0, .ref 0), (1, .ref 39), (2, .ref 143), (3, .int X3)]) (st' := []) rfl ?_
        exact g_jRangeAnswersLaw_law_L1367_ok hxl ih hx3 H_561 h
      rcases z_ite h with ⟨c_33_14, h⟩ | ⟨c_33_14, h⟩
      · refine r_sw (off := 535) (pc' := 568) (L' := [(0, .ref 0), (1, .ref 39), (2, .ref 143), (3, .int X3)]) hq (z_at.mk 163 rfl rfl) (z_off_v ((tx_iand hV_29 (rfl : (63 : Int32).toInt = 63)).trans c_33_14) rfl) rfl rfl rfl ?_
        refine r_p hq 5 (pc' := 573) (L' := [(0, .ref 0), (1, .ref 39), (2, .ref 143), (3, .int X3)]) (st' := [.int (X3 + ((1 : Int32))), .ref 0, .ref 39]) rfl ?_
        obtain ⟨g_573, h⟩ := z_ifo_some h
        refine r_iaS (pc' := 574) (L' := [(0, .ref 0), (1, .ref 39), (2, .ref 143), (3, .int X3)]) H hq (z_at.mk 1 rfl rfl) (tx_iadd hx3 (rfl : (1 : Int32).toInt = 1)) g_573 rfl rfl ?_
        intro V_573 hV_573
        refine r_p hq 4 (pc' := 578) (L' := [(0, .ref 0), (1, .ref 39), (2, .ref 143), (3, .int X3)]) (st' := [.int (X3 + ((2 : Int32))), .ref 0, .int V_573, .ref 39]) rfl ?_
        obtain ⟨g_578, h⟩ := z_ifo_some h
        refine r_iaS (pc' := 579) (L' := [(0, .ref 0), (1, .ref 39), (2, .ref 143), (3, .int X3)]) H hq (z_at.mk 1 rfl rfl) (tx_iadd hx3 (rfl : (2 : Int32).toInt = 2)) g_578 rfl rfl ?_
        intro V_578 hV_578
        refine r_p hq 4 (pc' := 583) (L' := [(0, .ref 0), (1, .ref 39), (2, .ref 143), (3, .int X3)]) (st' := [.int (X3 + ((3 : Int32))), .ref 0, .int V_578, .int V_573, .ref 39]) rfl ?_
        obtain ⟨g_583, h⟩ := z_ifo_some h
        refine r_iaS (pc' := 584) (L' := [(0, .ref 0), (1, .ref 39), (2, .ref 143), (3, .int X3)]) H hq (z_at.mk 1 rfl rfl) (tx_iadd hx3 (rfl : (3 : Int32).toInt = 3)) g_583 rfl rfl ?_
        intro V_583 hV_583
        refine r_p hq 4 (pc' := 588) (L' := [(0, .ref 0), (1, .ref 39), (2, .ref 143), (3, .int X3)]) (st' := [.int (X3 + ((4 : Int32))), .ref 0, .int V_583, .int V_578, .int V_573, .ref 39]) rfl ?_
        obtain ⟨g_588, h⟩ := z_ifo_some h
        refine r_iaS (pc' := 589) (L' := [(0, .ref 0), (1, .ref 39), (2, .ref 143), (3, .int X3)]) H hq (z_at.mk 1 rfl rfl) (tx_iadd hx3 (rfl : (4 : Int32).toInt = 4)) g_588 rfl rfl ?_
        intro V_588 hV_588
        refine r_p hq 4 (pc' := 593) (L' := [(0, .ref 0), (1, .ref 39), (2, .ref 143), (3, .int X3)]) (st' := [.int (X3 + ((5 : Int32))), .ref 0, .int V_588, .int V_583, .int V_578, .int V_573, .ref 39]) rfl ?_
        obtain ⟨g_593, h⟩ := z_ifo_some h
        refine r_iaS (pc' := 594) (L' := [(0, .ref 0), (1, .ref 39), (2, .ref 143), (3, .int X3)]) H hq (z_at.mk 1 rfl rfl) (tx_iadd hx3 (rfl : (5 : Int32).toInt = 5)) g_593 rfl rfl ?_
        intro V_593 hV_593
        obtain ⟨o_594, h_594, h⟩ := Option.bind_eq_some_iff.mp h
        refine r_cvL (pc' := 597) (L' := [(0, .ref 0), (1, .ref 39), (2, .ref 143), (3, .int X3)]) (Ps := [.int V_573, .int V_578, .int V_583, .int V_588, .int V_593]) (rest := []) hq (z_at.mk 3 rfl rfl) (Or.inl ⟨rfl, rfl⟩) rfl rfl (by decide) (by decide) rfl (Nat.not_lt.mpr (Nat.le_of_ble_eq_true rfl)) rfl rfl (z_cat_le 0 rfl (by decide)) (z_lgl_le 6 rfl (by decide)) (by decide) (H.tg rfl) (by omega) (g_c_query_ok hV_573 hV_578 hV_583 hV_588 hV_593 H h_594) rfl rfl ?_
        intro R_594 m_594 p_594 e_594 hR_594 H_594
        subst e_594
        refine r_p hq 6 (pc' := 603) (L' := [(0, .ref 0), (1, .ref 39), (2, .ref 143), (3, .int X3)]) (st' := [.int (X3 + ((1 : Int32))), .ref 0, .ref 143]) rfl ?_
        obtain ⟨g_603, h⟩ := z_ifo_some h
        refine r_iaS (pc' := 604) (L' := [(0, .ref 0), (1, .ref 39), (2, .ref 143), (3, .int X3)]) H_594 hq (z_at.mk 1 rfl rfl) (tx_iadd hx3 (rfl : (1 : Int32).toInt = 1)) g_603 rfl rfl ?_
        intro V_603 hV_603
        refine r_p hq 4 (pc' := 608) (L' := [(0, .ref 0), (1, .ref 39), (2, .ref 143), (3, .int X3)]) (st' := [.int (X3 + ((2 : Int32))), .ref 0, .int V_603, .ref 143]) rfl ?_
        obtain ⟨g_608, h⟩ := z_ifo_some h
        refine r_iaS (pc' := 609) (L' := [(0, .ref 0), (1, .ref 39), (2, .ref 143), (3, .int X3)]) H_594 hq (z_at.mk 1 rfl rfl) (tx_iadd hx3 (rfl : (2 : Int32).toInt = 2)) g_608 rfl rfl ?_
        intro V_608 hV_608
        refine r_p hq 4 (pc' := 613) (L' := [(0, .ref 0), (1, .ref 39), (2, .ref 143), (3, .int X3)]) (st' := [.int (X3 + ((3 : Int32))), .ref 0, .int V_608, .int V_603, .ref 143]) rfl ?_
        obtain ⟨g_613, h⟩ := z_ifo_some h
        refine r_iaS (pc' := 614) (L' := [(0, .ref 0), (1, .ref 39), (2, .ref 143), (3, .int X3)]) H_594 hq (z_at.mk 1 rfl rfl) (tx_iadd hx3 (rfl : (3 : Int32).toInt = 3)) g_613 rfl rfl ?_
        intro V_613 hV_613
        refine r_p hq 4 (pc' := 618) (L' := [(0, .ref 0), (1, .ref 39), (2, .ref 143), (3, .int X3)]) (st' := [.int (X3 + ((4 : Int32))), .ref 0, .int V_613, .int V_608, .int V_603, .ref 143]) rfl ?_
        obtain ⟨g_618, h⟩ := z_ifo_some h
        refine r_iaS (pc' := 619) (L' := [(0, .ref 0), (1, .ref 39), (2, .ref 143), (3, .int X3)]) H_594 hq (z_at.mk 1 rfl rfl) (tx_iadd hx3 (rfl : (4 : Int32).toInt = 4)) g_618 rfl rfl ?_
        intro V_618 hV_618
        refine r_p hq 4 (pc' := 623) (L' := [(0, .ref 0), (1, .ref 39), (2, .ref 143), (3, .int X3)]) (st' := [.int (X3 + ((5 : Int32))), .ref 0, .int V_618, .int V_613, .int V_608, .int V_603, .ref 143]) rfl ?_
        obtain ⟨g_623, h⟩ := z_ifo_some h
        refine r_iaS (pc' := 624) (L' := [(0, .ref 0), (1, .ref 39), (2, .ref 143), (3, .int X3)]) H_594 hq (z_at.mk 1 rfl rfl) (tx_iadd hx3 (rfl : (5 : Int32).toInt = 5)) g_623 rfl rfl ?_
        intro V_623 hV_623
        obtain ⟨o_624, h_624, h⟩ := Option.bind_eq_some_iff.mp h
        refine r_cvL (pc' := 627) (L' := [(0, .ref 0), (1, .ref 39), (2, .ref 143), (3, .int X3)]) (Ps := [.int V_603, .int V_608, .int V_613, .int V_618, .int V_623]) (rest := []) hq (z_at.mk 3 rfl rfl) (Or.inl ⟨rfl, rfl⟩) rfl rfl (by decide) (by decide) rfl (Nat.not_lt.mpr (Nat.le_of_ble_eq_true rfl)) rfl rfl (z_cat_le 0 rfl (by decide)) (z_lgl_le 6 rfl (by decide)) (by decide) (H_594.tg rfl) (by omega) (g_m_query_ok hV_603 hV_608 hV_613 hV_618 hV_623 H_594 h_624) rfl rfl ?_
        intro R_624 m_624 p_624 e_624 hR_624 H_624
        subst e_624
        refine r_p hq 2 (pc' := 1367) (L' := [(0, .ref 0), (1, .ref 39), (2, .ref 143), (3, .int X3)]) (st' := []) rfl ?_
        exact g_jRangeAnswersLaw_law_L1367_ok hxl ih hx3 H_624 h
      rcases z_ite h with ⟨c_33_15, h⟩ | ⟨c_33_15, h⟩
      · refine r_sw (off := 598) (pc' := 631) (L' := [(0, .ref 0), (1, .ref 39), (2, .ref 143), (3, .int X3)]) hq (z_at.mk 163 rfl rfl) (z_off_v ((tx_iand hV_29 (rfl : (63 : Int32).toInt = 63)).trans c_33_15) rfl) rfl rfl rfl ?_
        refine r_p hq 5 (pc' := 636) (L' := [(0, .ref 0), (1, .ref 39), (2, .ref 143), (3, .int X3)]) (st' := [.int (X3 + ((1 : Int32))), .ref 0, .ref 39]) rfl ?_
        obtain ⟨g_636, h⟩ := z_ifo_some h
        refine r_iaS (pc' := 637) (L' := [(0, .ref 0), (1, .ref 39), (2, .ref 143), (3, .int X3)]) H hq (z_at.mk 1 rfl rfl) (tx_iadd hx3 (rfl : (1 : Int32).toInt = 1)) g_636 rfl rfl ?_
        intro V_636 hV_636
        obtain ⟨o_637, h_637, h⟩ := Option.bind_eq_some_iff.mp h
        refine r_cvI (pc' := 640) (L' := [(0, .ref 0), (1, .ref 39), (2, .ref 143), (3, .int X3)]) (Ps := [.int V_636]) (rest := []) hq (z_at.mk 3 rfl rfl) (Or.inl ⟨rfl, rfl⟩) rfl rfl (by decide) (by decide) rfl (Nat.not_lt.mpr (Nat.le_of_ble_eq_true rfl)) rfl rfl (z_cat_le 0 rfl (by decide)) (z_lgl_le 2 rfl (by decide)) (by decide) (H.tg rfl) (by omega) (g_c_find_ok hV_636 H h_637) rfl rfl ?_
        intro R_637 m_637 p_637 e_637 hR_637 H_637
        subst e_637
        refine r_p hq 6 (pc' := 646) (L' := [(0, .ref 0), (1, .ref 39), (2, .ref 143), (3, .int X3)]) (st' := [.int (X3 + ((1 : Int32))), .ref 0, .ref 143]) rfl ?_
        obtain ⟨g_646, h⟩ := z_ifo_some h
        refine r_iaS (pc' := 647) (L' := [(0, .ref 0), (1, .ref 39), (2, .ref 143), (3, .int X3)]) H_637 hq (z_at.mk 1 rfl rfl) (tx_iadd hx3 (rfl : (1 : Int32).toInt = 1)) g_646 rfl rfl ?_
        intro V_646 hV_646
        obtain ⟨o_647, h_647, h⟩ := Option.bind_eq_some_iff.mp h
        refine r_cvI (pc' := 650) (L' := [(0, .ref 0), (1, .ref 39), (2, .ref 143), (3, .int X3)]) (Ps := [.int V_646]) (rest := []) hq (z_at.mk 3 rfl rfl) (Or.inl ⟨rfl, rfl⟩) rfl rfl (by decide) (by decide) rfl (Nat.not_lt.mpr (Nat.le_of_ble_eq_true rfl)) rfl rfl (z_cat_le 0 rfl (by decide)) (z_lgl_le 2 rfl (by decide)) (by decide) (H_637.tg rfl) (by omega) (g_m_find_ok hV_646 H_637 h_647) rfl rfl ?_
        intro R_647 m_647 p_647 e_647 hR_647 H_647
        subst e_647
        refine r_p hq 2 (pc' := 1367) (L' := [(0, .ref 0), (1, .ref 39), (2, .ref 143), (3, .int X3)]) (st' := []) rfl ?_
        exact g_jRangeAnswersLaw_law_L1367_ok hxl ih hx3 H_647 h
      rcases z_ite h with ⟨c_33_16, h⟩ | ⟨c_33_16, h⟩
      · refine r_sw (off := 621) (pc' := 654) (L' := [(0, .ref 0), (1, .ref 39), (2, .ref 143), (3, .int X3)]) hq (z_at.mk 163 rfl rfl) (z_off_v ((tx_iand hV_29 (rfl : (63 : Int32).toInt = 63)).trans c_33_16) rfl) rfl rfl rfl ?_
        refine r_p hq 5 (pc' := 659) (L' := [(0, .ref 0), (1, .ref 39), (2, .ref 143), (3, .int X3)]) (st' := [.int (X3 + ((1 : Int32))), .ref 0, .ref 39]) rfl ?_
        obtain ⟨g_659, h⟩ := z_ifo_some h
        refine r_iaS (pc' := 660) (L' := [(0, .ref 0), (1, .ref 39), (2, .ref 143), (3, .int X3)]) H hq (z_at.mk 1 rfl rfl) (tx_iadd hx3 (rfl : (1 : Int32).toInt = 1)) g_659 rfl rfl ?_
        intro V_659 hV_659
        refine r_p hq 4 (pc' := 664) (L' := [(0, .ref 0), (1, .ref 39), (2, .ref 143), (3, .int X3)]) (st' := [.int (X3 + ((2 : Int32))), .ref 0, .int V_659, .ref 39]) rfl ?_
        obtain ⟨g_664, h⟩ := z_ifo_some h
        refine r_iaS (pc' := 665) (L' := [(0, .ref 0), (1, .ref 39), (2, .ref 143), (3, .int X3)]) H hq (z_at.mk 1 rfl rfl) (tx_iadd hx3 (rfl : (2 : Int32).toInt = 2)) g_664 rfl rfl ?_
        intro V_664 hV_664
        refine r_p hq 4 (pc' := 669) (L' := [(0, .ref 0), (1, .ref 39), (2, .ref 143), (3, .int X3)]) (st' := [.int (X3 + ((3 : Int32))), .ref 0, .int V_664, .int V_659, .ref 39]) rfl ?_
        obtain ⟨g_669, h⟩ := z_ifo_some h
        refine r_iaS (pc' := 670) (L' := [(0, .ref 0), (1, .ref 39), (2, .ref 143), (3, .int X3)]) H hq (z_at.mk 1 rfl rfl) (tx_iadd hx3 (rfl : (3 : Int32).toInt = 3)) g_669 rfl rfl ?_
        intro V_669 hV_669
        refine r_p hq 4 (pc' := 674) (L' := [(0, .ref 0), (1, .ref 39), (2, .ref 143), (3, .int X3)]) (st' := [.int (X3 + ((4 : Int32))), .ref 0, .int V_669, .int V_664, .int V_659, .ref 39]) rfl ?_
        obtain ⟨g_674, h⟩ := z_ifo_some h
        refine r_iaS (pc' := 675) (L' := [(0, .ref 0), (1, .ref 39), (2, .ref 143), (3, .int X3)]) H hq (z_at.mk 1 rfl rfl) (tx_iadd hx3 (rfl : (4 : Int32).toInt = 4)) g_674 rfl rfl ?_
        intro V_674 hV_674
        obtain ⟨o_675, h_675, h⟩ := Option.bind_eq_some_iff.mp h
        refine r_cvI (pc' := 678) (L' := [(0, .ref 0), (1, .ref 39), (2, .ref 143), (3, .int X3)]) (Ps := [.int V_659, .int V_664, .int V_669, .int V_674]) (rest := []) hq (z_at.mk 3 rfl rfl) (Or.inl ⟨rfl, rfl⟩) rfl rfl (by decide) (by decide) rfl (Nat.not_lt.mpr (Nat.le_of_ble_eq_true rfl)) rfl rfl (z_cat_le 0 rfl (by decide)) (z_lgl_le 5 rfl (by decide)) (by decide) (H.tg rfl) (by omega) (g_c_probe_ok hV_659 hV_664 hV_669 hV_674 H h_675) rfl rfl ?_
        intro R_675 m_675 p_675 e_675 hR_675 H_675
        subst e_675
        refine r_p hq 6 (pc' := 684) (L' := [(0, .ref 0), (1, .ref 39), (2, .ref 143), (3, .int X3)]) (st' := [.int (X3 + ((1 : Int32))), .ref 0, .ref 143]) rfl ?_
        obtain ⟨g_684, h⟩ := z_ifo_some h
        refine r_iaS (pc' := 685) (L' := [(0, .ref 0), (1, .ref 39), (2, .ref 143), (3, .int X3)]) H_675 hq (z_at.mk 1 rfl rfl) (tx_iadd hx3 (rfl : (1 : Int32).toInt = 1)) g_684 rfl rfl ?_
        intro V_684 hV_684
        refine r_p hq 4 (pc' := 689) (L' := [(0, .ref 0), (1, .ref 39), (2, .ref 143), (3, .int X3)]) (st' := [.int (X3 + ((2 : Int32))), .ref 0, .int V_684, .ref 143]) rfl ?_
        obtain ⟨g_689, h⟩ := z_ifo_some h
        refine r_iaS (pc' := 690) (L' := [(0, .ref 0), (1, .ref 39), (2, .ref 143), (3, .int X3)]) H_675 hq (z_at.mk 1 rfl rfl) (tx_iadd hx3 (rfl : (2 : Int32).toInt = 2)) g_689 rfl rfl ?_
        intro V_689 hV_689
        refine r_p hq 4 (pc' := 694) (L' := [(0, .ref 0), (1, .ref 39), (2, .ref 143), (3, .int X3)]) (st' := [.int (X3 + ((3 : Int32))), .ref 0, .int V_689, .int V_684, .ref 143]) rfl ?_
        obtain ⟨g_694, h⟩ := z_ifo_some h
        refine r_iaS (pc' := 695) (L' := [(0, .ref 0), (1, .ref 39), (2, .ref 143), (3, .int X3)]) H_675 hq (z_at.mk 1 rfl rfl) (tx_iadd hx3 (rfl : (3 : Int32).toInt = 3)) g_694 rfl rfl ?_
        intro V_694 hV_694
        refine r_p hq 4 (pc' := 699) (L' := [(0, .ref 0), (1, .ref 39), (2, .ref 143), (3, .int X3)]) (st' := [.int (X3 + ((4 : Int32))), .ref 0, .int V_694, .int V_689, .int V_684, .ref 143]) rfl ?_
        obtain ⟨g_699, h⟩ := z_ifo_some h
        refine r_iaS (pc' := 700) (L' := [(0, .ref 0), (1, .ref 39), (2, .ref 143), (3, .int X3)]) H_675 hq (z_at.mk 1 rfl rfl) (tx_iadd hx3 (rfl : (4 : Int32).toInt = 4)) g_699 rfl rfl ?_
        intro V_699 hV_699
        obtain ⟨o_700, h_700, h⟩ := Option.bind_eq_some_iff.mp h
        refine r_cvI (pc' := 703) (L' := [(0, .ref 0), (1, .ref 39), (2, .ref 143), (3, .int X3)]) (Ps := [.int V_684, .int V_689, .int V_694, .int V_699]) (rest := []) hq (z_at.mk 3 rfl rfl) (Or.inl ⟨rfl, rfl⟩) rfl rfl (by decide) (by decide) rfl (Nat.not_lt.mpr (Nat.le_of_ble_eq_true rfl)) rfl rfl (z_cat_le 0 rfl (by decide)) (z_lgl_le 5 rfl (by decide)) (by decide) (H_675.tg rfl) (by omega) (g_m_probe_ok hV_684 hV_689 hV_694 hV_699 H_675 h_700) rfl rfl ?_
        intro R_700 m_700 p_700 e_700 hR_700 H_700
        subst e_700
        refine r_p hq 2 (pc' := 1367) (L' := [(0, .ref 0), (1, .ref 39), (2, .ref 143), (3, .int X3)]) (st' := []) rfl ?_
        exact g_jRangeAnswersLaw_law_L1367_ok hxl ih hx3 H_700 h
      rcases z_ite h with ⟨c_33_17, h⟩ | ⟨c_33_17, h⟩
      · refine r_sw (off := 674) (pc' := 707) (L' := [(0, .ref 0), (1, .ref 39), (2, .ref 143), (3, .int X3)]) hq (z_at.mk 163 rfl rfl) (z_off_v ((tx_iand hV_29 (rfl : (63 : Int32).toInt = 63)).trans c_33_17) rfl) rfl rfl rfl ?_
        refine r_p hq 5 (pc' := 712) (L' := [(0, .ref 0), (1, .ref 39), (2, .ref 143), (3, .int X3)]) (st' := [.int (X3 + ((1 : Int32))), .ref 0, .ref 39]) rfl ?_
        obtain ⟨g_712, h⟩ := z_ifo_some h
        refine r_iaS (pc' := 713) (L' := [(0, .ref 0), (1, .ref 39), (2, .ref 143), (3, .int X3)]) H hq (z_at.mk 1 rfl rfl) (tx_iadd hx3 (rfl : (1 : Int32).toInt = 1)) g_712 rfl rfl ?_
        intro V_712 hV_712
        refine r_p hq 4 (pc' := 717) (L' := [(0, .ref 0), (1, .ref 39), (2, .ref 143), (3, .int X3)]) (st' := [.int (X3 + ((2 : Int32))), .ref 0, .int V_712, .ref 39]) rfl ?_
        obtain ⟨g_717, h⟩ := z_ifo_some h
        refine r_iaS (pc' := 718) (L' := [(0, .ref 0), (1, .ref 39), (2, .ref 143), (3, .int X3)]) H hq (z_at.mk 1 rfl rfl) (tx_iadd hx3 (rfl : (2 : Int32).toInt = 2)) g_717 rfl rfl ?_
        intro V_717 hV_717
        obtain ⟨o_718, h_718, h⟩ := Option.bind_eq_some_iff.mp h
        refine r_cvI (pc' := 721) (L' := [(0, .ref 0), (1, .ref 39), (2, .ref 143), (3, .int X3)]) (Ps := [.int V_712, .int V_717]) (rest := []) hq (z_at.mk 3 rfl rfl) (Or.inl ⟨rfl, rfl⟩) rfl rfl (by decide) (by decide) rfl (Nat.not_lt.mpr (Nat.le_of_ble_eq_true rfl)) rfl rfl (z_cat_le 0 rfl (by decide)) (z_lgl_le 3 rfl (by decide)) (by decide) (H.tg rfl) (by omega) (g_c_piece_ok hV_712 hV_717 H h_718) rfl rfl ?_
        intro R_718 m_718 p_718 e_718 hR_718 H_718
        subst e_718
        refine r_p hq 6 (pc' := 727) (L' := [(0, .ref 0), (1, .ref 39), (2, .ref 143), (3, .int X3)]) (st' := [.int (X3 + ((1 : Int32))), .ref 0, .ref 143]) rfl ?_
        obtain ⟨g_727, h⟩ := z_ifo_some h
        refine r_iaS (pc' := 728) (L' := [(0, .ref 0), (1, .ref 39), (2, .ref 143), (3, .int X3)]) H_718 hq (z_at.mk 1 rfl rfl) (tx_iadd hx3 (rfl : (1 : Int32).toInt = 1)) g_727 rfl rfl ?_
        intro V_727 hV_727
        refine r_p hq 4 (pc' := 732) (L' := [(0, .ref 0), (1, .ref 39), (2, .ref 143), (3, .int X3)]) (st' := [.int (X3 + ((2 : Int32))), .ref 0, .int V_727, .ref 143]) rfl ?_
        obtain ⟨g_732, h⟩ := z_ifo_some h
        refine r_iaS (pc' := 733) (L' := [(0, .ref 0), (1, .ref 39), (2, .ref 143), (3, .int X3)]) H_718 hq (z_at.mk 1 rfl rfl) (tx_iadd hx3 (rfl : (2 : Int32).toInt = 2)) g_732 rfl rfl ?_
        intro V_732 hV_732
        obtain ⟨o_733, h_733, h⟩ := Option.bind_eq_some_iff.mp h
        refine r_cvI (pc' := 736) (L' := [(0, .ref 0), (1, .ref 39), (2, .ref 143), (3, .int X3)]) (Ps := [.int V_727, .int V_732]) (rest := []) hq (z_at.mk 3 rfl rfl) (Or.inl ⟨rfl, rfl⟩) rfl rfl (by decide) (by decide) rfl (Nat.not_lt.mpr (Nat.le_of_ble_eq_true rfl)) rfl rfl (z_cat_le 0 rfl (by decide)) (z_lgl_le 3 rfl (by decide)) (by decide) (H_718.tg rfl) (by omega) (g_m_piece_ok hV_727 hV_732 H_718 h_733) rfl rfl ?_
        intro R_733 m_733 p_733 e_733 hR_733 H_733
        subst e_733
        refine r_p hq 2 (pc' := 1367) (L' := [(0, .ref 0), (1, .ref 39), (2, .ref 143), (3, .int X3)]) (st' := []) rfl ?_
        exact g_jRangeAnswersLaw_law_L1367_ok hxl ih hx3 H_733 h
      rcases z_ite h with ⟨c_33_18, h⟩ | ⟨c_33_18, h⟩
      · refine r_sw (off := 707) (pc' := 740) (L' := [(0, .ref 0), (1, .ref 39), (2, .ref 143), (3, .int X3)]) hq (z_at.mk 163 rfl rfl) (z_off_v ((tx_iand hV_29 (rfl : (63 : Int32).toInt = 63)).trans c_33_18) rfl) rfl rfl rfl ?_
        refine r_p hq 5 (pc' := 745) (L' := [(0, .ref 0), (1, .ref 39), (2, .ref 143), (3, .int X3)]) (st' := [.int (X3 + ((1 : Int32))), .ref 0, .ref 39]) rfl ?_
        obtain ⟨g_745, h⟩ := z_ifo_some h
        refine r_iaS (pc' := 746) (L' := [(0, .ref 0), (1, .ref 39), (2, .ref 143), (3, .int X3)]) H hq (z_at.mk 1 rfl rfl) (tx_iadd hx3 (rfl : (1 : Int32).toInt = 1)) g_745 rfl rfl ?_
        intro V_745 hV_745
        refine r_p hq 4 (pc' := 750) (L' := [(0, .ref 0), (1, .ref 39), (2, .ref 143), (3, .int X3)]) (st' := [.int (X3 + ((2 : Int32))), .ref 0, .int V_745, .ref 39]) rfl ?_
        obtain ⟨g_750, h⟩ := z_ifo_some h
        refine r_iaS (pc' := 751) (L' := [(0, .ref 0), (1, .ref 39), (2, .ref 143), (3, .int X3)]) H hq (z_at.mk 1 rfl rfl) (tx_iadd hx3 (rfl : (2 : Int32).toInt = 2)) g_750 rfl rfl ?_
        intro V_750 hV_750
        obtain ⟨o_751, h_751, h⟩ := Option.bind_eq_some_iff.mp h
        refine r_cvI (pc' := 754) (L' := [(0, .ref 0), (1, .ref 39), (2, .ref 143), (3, .int X3)]) (Ps := [.int V_745, .int V_750]) (rest := []) hq (z_at.mk 3 rfl rfl) (Or.inl ⟨rfl, rfl⟩) rfl rfl (by decide) (by decide) rfl (Nat.not_lt.mpr (Nat.le_of_ble_eq_true rfl)) rfl rfl (z_cat_le 0 rfl (by decide)) (z_lgl_le 3 rfl (by decide)) (by decide) (H.tg rfl) (by omega) (g_c_region_ok hV_745 hV_750 H h_751) rfl rfl ?_
        intro R_751 m_751 p_751 e_751 hR_751 H_751
        subst e_751
        refine r_p hq 6 (pc' := 760) (L' := [(0, .ref 0), (1, .ref 39), (2, .ref 143), (3, .int X3)]) (st' := [.int (X3 + ((1 : Int32))), .ref 0, .ref 143]) rfl ?_
        obtain ⟨g_760, h⟩ := z_ifo_some h
        refine r_iaS (pc' := 761) (L' := [(0, .ref 0), (1, .ref 39), (2, .ref 143), (3, .int X3)]) H_751 hq (z_at.mk 1 rfl rfl) (tx_iadd hx3 (rfl : (1 : Int32).toInt = 1)) g_760 rfl rfl ?_
        intro V_760 hV_760
        refine r_p hq 4 (pc' := 765) (L' := [(0, .ref 0), (1, .ref 39), (2, .ref 143), (3, .int X3)]) (st' := [.int (X3 + ((2 : Int32))), .ref 0, .int V_760, .ref 143]) rfl ?_
        obtain ⟨g_765, h⟩ := z_ifo_some h
        refine r_iaS (pc' := 766) (L' := [(0, .ref 0), (1, .ref 39), (2, .ref 143), (3, .int X3)]) H_751 hq (z_at.mk 1 rfl rfl) (tx_iadd hx3 (rfl : (2 : Int32).toInt = 2)) g_765 rfl rfl ?_
        intro V_765 hV_765
        obtain ⟨o_766, h_766, h⟩ := Option.bind_eq_some_iff.mp h
        refine r_cvI (pc' := 769) (L' := [(0, .ref 0), (1, .ref 39), (2, .ref 143), (3, .int X3)]) (Ps := [.int V_760, .int V_765]) (rest := []) hq (z_at.mk 3 rfl rfl) (Or.inl ⟨rfl, rfl⟩) rfl rfl (by decide) (by decide) rfl (Nat.not_lt.mpr (Nat.le_of_ble_eq_true rfl)) rfl rfl (z_cat_le 0 rfl (by decide)) (z_lgl_le 3 rfl (by decide)) (by decide) (H_751.tg rfl) (by omega) (g_m_region_248_ok hV_760 hV_765 H_751 h_766) rfl rfl ?_
        intro R_766 m_766 p_766 e_766 hR_766 H_766
        subst e_766
        refine r_p hq 2 (pc' := 1367) (L' := [(0, .ref 0), (1, .ref 39), (2, .ref 143), (3, .int X3)]) (st' := []) rfl ?_
        exact g_jRangeAnswersLaw_law_L1367_ok hxl ih hx3 H_766 h
      rcases z_ite h with ⟨c_33_19, h⟩ | ⟨c_33_19, h⟩
      · refine r_sw (off := 740) (pc' := 773) (L' := [(0, .ref 0), (1, .ref 39), (2, .ref 143), (3, .int X3)]) hq (z_at.mk 163 rfl rfl) (z_off_v ((tx_iand hV_29 (rfl : (63 : Int32).toInt = 63)).trans c_33_19) rfl) rfl rfl rfl ?_
        refine r_p hq 5 (pc' := 778) (L' := [(0, .ref 0), (1, .ref 39), (2, .ref 143), (3, .int X3)]) (st' := [.int (X3 + ((1 : Int32))), .ref 0, .ref 39]) rfl ?_
        obtain ⟨g_778, h⟩ := z_ifo_some h
        refine r_iaS (pc' := 779) (L' := [(0, .ref 0), (1, .ref 39), (2, .ref 143), (3, .int X3)]) H hq (z_at.mk 1 rfl rfl) (tx_iadd hx3 (rfl : (1 : Int32).toInt = 1)) g_778 rfl rfl ?_
        intro V_778 hV_778
        obtain ⟨o_779, h_779, h⟩ := Option.bind_eq_some_iff.mp h
        refine r_cvL (pc' := 782) (L' := [(0, .ref 0), (1, .ref 39), (2, .ref 143), (3, .int X3)]) (Ps := [.int V_778]) (rest := []) hq (z_at.mk 3 rfl rfl) (Or.inl ⟨rfl, rfl⟩) rfl rfl (by decide) (by decide) rfl (Nat.not_lt.mpr (Nat.le_of_ble_eq_true rfl)) rfl rfl (z_cat_le 0 rfl (by decide)) (z_lgl_le 2 rfl (by decide)) (by decide) (H.tg rfl) (by omega) (g_c_weight_ok hV_778 H h_779) rfl rfl ?_
        intro R_779 m_779 p_779 e_779 hR_779 H_779
        subst e_779
        refine r_p hq 6 (pc' := 788) (L' := [(0, .ref 0), (1, .ref 39), (2, .ref 143), (3, .int X3)]) (st' := [.int (X3 + ((1 : Int32))), .ref 0, .ref 143]) rfl ?_
        obtain ⟨g_788, h⟩ := z_ifo_some h
        refine r_iaS (pc' := 789) (L' := [(0, .ref 0), (1, .ref 39), (2, .ref 143), (3, .int X3)]) H_779 hq (z_at.mk 1 rfl rfl) (tx_iadd hx3 (rfl : (1 : Int32).toInt = 1)) g_788 rfl rfl ?_
        intro V_788 hV_788
        obtain ⟨o_789, h_789, h⟩ := Option.bind_eq_some_iff.mp h
        refine r_cvL (pc' := 792) (L' := [(0, .ref 0), (1, .ref 39), (2, .ref 143), (3, .int X3)]) (Ps := [.int V_788]) (rest := []) hq (z_at.mk 3 rfl rfl) (Or.inl ⟨rfl, rfl⟩) rfl rfl (by decide) (by decide) rfl (Nat.not_lt.mpr (Nat.le_of_ble_eq_true rfl)) rfl rfl (z_cat_le 0 rfl (by decide)) (z_lgl_le 2 rfl (by decide)) (by decide) (H_779.tg rfl) (by omega) (g_m_weight_ok hV_788 H_779 h_789) rfl rfl ?_
        intro R_789 m_789 p_789 e_789 hR_789 H_789
        subst e_789
        refine r_p hq 2 (pc' := 1367) (L' := [(0, .ref 0), (1, .ref 39), (2, .ref 143), (3, .int X3)]) (st' := []) rfl ?_
        exact g_jRangeAnswersLaw_law_L1367_ok hxl ih hx3 H_789 h
      rcases z_ite h with ⟨c_33_20, h⟩ | ⟨c_33_20, h⟩
      · refine r_sw (off := 763) (pc' := 796) (L' := [(0, .ref 0), (1, .ref 39), (2, .ref 143), (3, .int X3)]) hq (z_at.mk 163 rfl rfl) (z_off_v ((tx_iand hV_29 (rfl : (63 : Int32).toInt = 63)).trans c_33_20) rfl) rfl rfl rfl ?_
        refine r_p hq 5 (pc' := 801) (L' := [(0, .ref 0), (1, .ref 39), (2, .ref 143), (3, .int X3)]) (st' := [.int (X3 + ((1 : Int32))), .ref 0, .ref 39]) rfl ?_
        obtain ⟨g_801, h⟩ := z_ifo_some h
        refine r_iaS (pc' := 802) (L' := [(0, .ref 0), (1, .ref 39), (2, .ref 143), (3, .int X3)]) H hq (z_at.mk 1 rfl rfl) (tx_iadd hx3 (rfl : (1 : Int32).toInt = 1)) g_801 rfl rfl ?_
        intro V_801 hV_801
        obtain ⟨o_802, h_802, h⟩ := Option.bind_eq_some_iff.mp h
        refine r_cvL (pc' := 805) (L' := [(0, .ref 0), (1, .ref 39), (2, .ref 143), (3, .int X3)]) (Ps := [.int V_801]) (rest := []) hq (z_at.mk 3 rfl rfl) (Or.inl ⟨rfl, rfl⟩) rfl rfl (by decide) (by decide) rfl (Nat.not_lt.mpr (Nat.le_of_ble_eq_true rfl)) rfl rfl (z_cat_le 0 rfl (by decide)) (z_lgl_le 2 rfl (by decide)) (by decide) (H.tg rfl) (by omega) (g_c_told_ok hV_801 H h_802) rfl rfl ?_
        intro R_802 m_802 p_802 e_802 hR_802 H_802
        subst e_802
        refine r_p hq 6 (pc' := 811) (L' := [(0, .ref 0), (1, .ref 39), (2, .ref 143), (3, .int X3)]) (st' := [.int (X3 + ((1 : Int32))), .ref 0, .ref 143]) rfl ?_
        obtain ⟨g_811, h⟩ := z_ifo_some h
        refine r_iaS (pc' := 812) (L' := [(0, .ref 0), (1, .ref 39), (2, .ref 143), (3, .int X3)]) H_802 hq (z_at.mk 1 rfl rfl) (tx_iadd hx3 (rfl : (1 : Int32).toInt = 1)) g_811 rfl rfl ?_
        intro V_811 hV_811
        obtain ⟨o_812, h_812, h⟩ := Option.bind_eq_some_iff.mp h
        refine r_cvL (pc' := 815) (L' := [(0, .ref 0), (1, .ref 39), (2, .ref 143), (3, .int X3)]) (Ps := [.int V_811]) (rest := []) hq (z_at.mk 3 rfl rfl) (Or.inl ⟨rfl, rfl⟩) rfl rfl (by decide) (by decide) rfl (Nat.not_lt.mpr (Nat.le_of_ble_eq_true rfl)) rfl rfl (z_cat_le 0 rfl (by decide)) (z_lgl_le 2 rfl (by decide)) (by decide) (H_802.tg rfl) (by omega) (g_m_told_ok hV_811 H_802 h_812) rfl rfl ?_
        intro R_812 m_812 p_812 e_812 hR_812 H_812
        subst e_812
        refine r_p hq 2 (pc' := 1367) (L' := [(0, .ref 0), (1, .ref 39), (2, .ref 143), (3, .int X3)]) (st' := []) rfl ?_
        exact g_jRangeAnswersLaw_law_L1367_ok hxl ih hx3 H_812 h
      rcases z_ite h with ⟨c_33_21, h⟩ | ⟨c_33_21, h⟩
      · refine r_sw (off := 786) (pc' := 819) (L' := [(0, .ref 0), (1, .ref 39), (2, .ref 143), (3, .int X3)]) hq (z_at.mk 163 rfl rfl) (z_off_v ((tx_iand hV_29 (rfl : (63 : Int32).toInt = 63)).trans c_33_21) rfl) rfl rfl rfl ?_
        refine r_p hq 1 (pc' := 820) (L' := [(0, .ref 0), (1, .ref 39), (2, .ref 143), (3, .int X3)]) (st' := [.ref 39]) rfl ?_
        obtain ⟨o_820, h_820, h⟩ := Option.bind_eq_some_iff.mp h
        refine r_cvI (pc' := 823) (L' := [(0, .ref 0), (1, .ref 39), (2, .ref 143), (3, .int X3)]) (Ps := []) (rest := []) hq (z_at.mk 3 rfl rfl) (Or.inl ⟨rfl, rfl⟩) rfl rfl (by decide) (by decide) rfl (Nat.not_lt.mpr (Nat.le_of_ble_eq_true rfl)) rfl rfl (z_cat_le 0 rfl (by decide)) (z_lgl_le 1 rfl (by decide)) (by decide) (H.tg rfl) (by omega) (g_c_flush_ok H h_820) rfl rfl ?_
        intro R_820 m_820 p_820 e_820 hR_820 H_820
        subst e_820
        refine r_p hq 2 (pc' := 825) (L' := [(0, .ref 0), (1, .ref 39), (2, .ref 143), (3, .int X3)]) (st' := [.ref 143]) rfl ?_
        obtain ⟨o_825, h_825, h⟩ := Option.bind_eq_some_iff.mp h
        refine r_cvI (pc' := 828) (L' := [(0, .ref 0), (1, .ref 39), (2, .ref 143), (3, .int X3)]) (Ps := []) (rest := []) hq (z_at.mk 3 rfl rfl) (Or.inl ⟨rfl, rfl⟩) rfl rfl (by decide) (by decide) rfl (Nat.not_lt.mpr (Nat.le_of_ble_eq_true rfl)) rfl rfl (z_cat_le 0 rfl (by decide)) (z_lgl_le 1 rfl (by decide)) (by decide) (H_820.tg rfl) (by omega) (g_m_flush_ok H_820 h_825) rfl rfl ?_
        intro R_825 m_825 p_825 e_825 hR_825 H_825
        subst e_825
        refine r_p hq 2 (pc' := 1367) (L' := [(0, .ref 0), (1, .ref 39), (2, .ref 143), (3, .int X3)]) (st' := []) rfl ?_
        exact g_jRangeAnswersLaw_law_L1367_ok hxl ih hx3 H_825 h
      rcases z_ite h with ⟨c_33_22, h⟩ | ⟨c_33_22, h⟩
      · refine r_sw (off := 799) (pc' := 832) (L' := [(0, .ref 0), (1, .ref 39), (2, .ref 143), (3, .int X3)]) hq (z_at.mk 163 rfl rfl) (z_off_v ((tx_iand hV_29 (rfl : (63 : Int32).toInt = 63)).trans c_33_22) rfl) rfl rfl rfl ?_
        refine r_p hq 5 (pc' := 837) (L' := [(0, .ref 0), (1, .ref 39), (2, .ref 143), (3, .int X3)]) (st' := [.int (X3 + ((1 : Int32))), .ref 0, .ref 39]) rfl ?_
        obtain ⟨g_837, h⟩ := z_ifo_some h
        refine r_iaS (pc' := 838) (L' := [(0, .ref 0), (1, .ref 39), (2, .ref 143), (3, .int X3)]) H hq (z_at.mk 1 rfl rfl) (tx_iadd hx3 (rfl : (1 : Int32).toInt = 1)) g_837 rfl rfl ?_
        intro V_837 hV_837
        obtain ⟨o_838, h_838, h⟩ := Option.bind_eq_some_iff.mp h
        refine r_cvI (pc' := 841) (L' := [(0, .ref 0), (1, .ref 39), (2, .ref 143), (3, .int X3)]) (Ps := [.int V_837]) (rest := []) hq (z_at.mk 3 rfl rfl) (Or.inl ⟨rfl, rfl⟩) rfl rfl (by decide) (by decide) rfl (Nat.not_lt.mpr (Nat.le_of_ble_eq_true rfl)) rfl rfl (z_cat_le 0 rfl (by decide)) (z_lgl_le 2 rfl (by decide)) (by decide) (H.tg rfl) (by omega) (g_c_keep_ok hV_837 H h_838) rfl rfl ?_
        intro R_838 m_838 p_838 e_838 hR_838 H_838
        subst e_838
        refine r_p hq 6 (pc' := 847) (L' := [(0, .ref 0), (1, .ref 39), (2, .ref 143), (3, .int X3)]) (st' := [.int (X3 + ((1 : Int32))), .ref 0, .ref 143]) rfl ?_
        obtain ⟨g_847, h⟩ := z_ifo_some h
        refine r_iaS (pc' := 848) (L' := [(0, .ref 0), (1, .ref 39), (2, .ref 143), (3, .int X3)]) H_838 hq (z_at.mk 1 rfl rfl) (tx_iadd hx3 (rfl : (1 : Int32).toInt = 1)) g_847 rfl rfl ?_
        intro V_847 hV_847
        obtain ⟨o_848, h_848, h⟩ := Option.bind_eq_some_iff.mp h
        refine r_cvI (pc' := 851) (L' := [(0, .ref 0), (1, .ref 39), (2, .ref 143), (3, .int X3)]) (Ps := [.int V_847]) (rest := []) hq (z_at.mk 3 rfl rfl) (Or.inl ⟨rfl, rfl⟩) rfl rfl (by decide) (by decide) rfl (Nat.not_lt.mpr (Nat.le_of_ble_eq_true rfl)) rfl rfl (z_cat_le 0 rfl (by decide)) (z_lgl_le 2 rfl (by decide)) (by decide) (H_838.tg rfl) (by omega) (g_m_keep_ok hV_847 H_838 h_848) rfl rfl ?_
        intro R_848 m_848 p_848 e_848 hR_848 H_848
        subst e_848
        refine r_p hq 2 (pc' := 1367) (L' := [(0, .ref 0), (1, .ref 39), (2, .ref 143), (3, .int X3)]) (st' := []) rfl ?_
        exact g_jRangeAnswersLaw_law_L1367_ok hxl ih hx3 H_848 h
      rcases z_ite h with ⟨c_33_23, h⟩ | ⟨c_33_23, h⟩
      · refine r_sw (off := 822) (pc' := 855) (L' := [(0, .ref 0), (1, .ref 39), (2, .ref 143), (3, .int X3)]) hq (z_at.mk 163 rfl rfl) (z_off_v ((tx_iand hV_29 (rfl : (63 : Int32).toInt = 63)).trans c_33_23) rfl) rfl rfl rfl ?_
        refine r_p hq 5 (pc' := 860) (L' := [(0, .ref 0), (1, .ref 39), (2, .ref 143), (3, .int X3)]) (st' := [.int (X3 + ((1 : Int32))), .ref 0, .ref 39]) rfl ?_
        obtain ⟨g_860, h⟩ := z_ifo_some h
        refine r_iaS (pc' := 861) (L' := [(0, .ref 0), (1, .ref 39), (2, .ref 143), (3, .int X3)]) H hq (z_at.mk 1 rfl rfl) (tx_iadd hx3 (rfl : (1 : Int32).toInt = 1)) g_860 rfl rfl ?_
        intro V_860 hV_860
        refine r_p hq 4 (pc' := 865) (L' := [(0, .ref 0), (1, .ref 39), (2, .ref 143), (3, .int X3)]) (st' := [.int (X3 + ((2 : Int32))), .ref 0, .int V_860, .ref 39]) rfl ?_
        obtain ⟨g_865, h⟩ := z_ifo_some h
        refine r_iaS (pc' := 866) (L' := [(0, .ref 0), (1, .ref 39), (2, .ref 143), (3, .int X3)]) H hq (z_at.mk 1 rfl rfl) (tx_iadd hx3 (rfl : (2 : Int32).toInt = 2)) g_865 rfl rfl ?_
        intro V_865 hV_865
        refine r_p hq 4 (pc' := 870) (L' := [(0, .ref 0), (1, .ref 39), (2, .ref 143), (3, .int X3)]) (st' := [.int (X3 + ((3 : Int32))), .ref 0, .int V_865, .int V_860, .ref 39]) rfl ?_
        obtain ⟨g_870, h⟩ := z_ifo_some h
        refine r_iaS (pc' := 871) (L' := [(0, .ref 0), (1, .ref 39), (2, .ref 143), (3, .int X3)]) H hq (z_at.mk 1 rfl rfl) (tx_iadd hx3 (rfl : (3 : Int32).toInt = 3)) g_870 rfl rfl ?_
        intro V_870 hV_870
        refine r_p hq 4 (pc' := 875) (L' := [(0, .ref 0), (1, .ref 39), (2, .ref 143), (3, .int X3)]) (st' := [.int (X3 + ((4 : Int32))), .ref 0, .int V_870, .int V_865, .int V_860, .ref 39]) rfl ?_
        obtain ⟨g_875, h⟩ := z_ifo_some h
        refine r_iaS (pc' := 876) (L' := [(0, .ref 0), (1, .ref 39), (2, .ref 143), (3, .int X3)]) H hq (z_at.mk 1 rfl rfl) (tx_iadd hx3 (rfl : (4 : Int32).toInt = 4)) g_875 rfl rfl ?_
        intro V_875 hV_875
        obtain ⟨o_876, h_876, h⟩ := Option.bind_eq_some_iff.mp h
        refine r_cvI (pc' := 879) (L' := [(0, .ref 0), (1, .ref 39), (2, .ref 143), (3, .int X3)]) (Ps := [.int V_860, .int V_865, .int V_870, .int V_875]) (rest := []) hq (z_at.mk 3 rfl rfl) (Or.inl ⟨rfl, rfl⟩) rfl rfl (by decide) (by decide) rfl (Nat.not_lt.mpr (Nat.le_of_ble_eq_true rfl)) rfl rfl (z_cat_le 0 rfl (by decide)) (z_lgl_le 5 rfl (by decide)) (by decide) (H.tg rfl) (by omega) (g_c_trace_ok hV_860 hV_865 hV_870 hV_875 H h_876) rfl rfl ?_
        intro R_876 m_876 p_876 e_876 hR_876 H_876
        subst e_876
        refine r_p hq 6 (pc' := 885) (L' := [(0, .ref 0), (1, .ref 39), (2, .ref 143), (3, .int X3)]) (st' := [.int (X3 + ((1 : Int32))), .ref 0, .ref 143]) rfl ?_
        obtain ⟨g_885, h⟩ := z_ifo_some h
        refine r_iaS (pc' := 886) (L' := [(0, .ref 0), (1, .ref 39), (2, .ref 143), (3, .int X3)]) H_876 hq (z_at.mk 1 rfl rfl) (tx_iadd hx3 (rfl : (1 : Int32).toInt = 1)) g_885 rfl rfl ?_
        intro V_885 hV_885
        refine r_p hq 4 (pc' := 890) (L' := [(0, .ref 0), (1, .ref 39), (2, .ref 143), (3, .int X3)]) (st' := [.int (X3 + ((2 : Int32))), .ref 0, .int V_885, .ref 143]) rfl ?_
        obtain ⟨g_890, h⟩ := z_ifo_some h
        refine r_iaS (pc' := 891) (L' := [(0, .ref 0), (1, .ref 39), (2, .ref 143), (3, .int X3)]) H_876 hq (z_at.mk 1 rfl rfl) (tx_iadd hx3 (rfl : (2 : Int32).toInt = 2)) g_890 rfl rfl ?_
        intro V_890 hV_890
        refine r_p hq 4 (pc' := 895) (L' := [(0, .ref 0), (1, .ref 39), (2, .ref 143), (3, .int X3)]) (st' := [.int (X3 + ((3 : Int32))), .ref 0, .int V_890, .int V_885, .ref 143]) rfl ?_
        obtain ⟨g_895, h⟩ := z_ifo_some h
        refine r_iaS (pc' := 896) (L' := [(0, .ref 0), (1, .ref 39), (2, .ref 143), (3, .int X3)]) H_876 hq (z_at.mk 1 rfl rfl) (tx_iadd hx3 (rfl : (3 : Int32).toInt = 3)) g_895 rfl rfl ?_
        intro V_895 hV_895
        refine r_p hq 4 (pc' := 900) (L' := [(0, .ref 0), (1, .ref 39), (2, .ref 143), (3, .int X3)]) (st' := [.int (X3 + ((4 : Int32))), .ref 0, .int V_895, .int V_890, .int V_885, .ref 143]) rfl ?_
        obtain ⟨g_900, h⟩ := z_ifo_some h
        refine r_iaS (pc' := 901) (L' := [(0, .ref 0), (1, .ref 39), (2, .ref 143), (3, .int X3)]) H_876 hq (z_at.mk 1 rfl rfl) (tx_iadd hx3 (rfl : (4 : Int32).toInt = 4)) g_900 rfl rfl ?_
        intro V_900 hV_900
        obtain ⟨o_901, h_901, h⟩ := Option.bind_eq_some_iff.mp h
        refine r_cvI (pc' := 904) (L' := [(0, .ref 0), (1, .ref 39), (2, .ref 143), (3, .int X3)]) (Ps := [.int V_885, .int V_890, .int V_895, .int V_900]) (rest := []) hq (z_at.mk 3 rfl rfl) (Or.inl ⟨rfl, rfl⟩) rfl rfl (by decide) (by decide) rfl (Nat.not_lt.mpr (Nat.le_of_ble_eq_true rfl)) rfl rfl (z_cat_le 0 rfl (by decide)) (z_lgl_le 5 rfl (by decide)) (by decide) (H_876.tg rfl) (by omega) (g_m_trace_ok hV_885 hV_890 hV_895 hV_900 H_876 h_901) rfl rfl ?_
        intro R_901 m_901 p_901 e_901 hR_901 H_901
        subst e_901
        refine r_p hq 2 (pc' := 1367) (L' := [(0, .ref 0), (1, .ref 39), (2, .ref 143), (3, .int X3)]) (st' := []) rfl ?_
        exact g_jRangeAnswersLaw_law_L1367_ok hxl ih hx3 H_901 h
      rcases z_ite h with ⟨c_33_24, h⟩ | ⟨c_33_24, h⟩
      · refine r_sw (off := 875) (pc' := 908) (L' := [(0, .ref 0), (1, .ref 39), (2, .ref 143), (3, .int X3)]) hq (z_at.mk 163 rfl rfl) (z_off_v ((tx_iand hV_29 (rfl : (63 : Int32).toInt = 63)).trans c_33_24) rfl) rfl rfl rfl ?_
        refine r_p hq 5 (pc' := 913) (L' := [(0, .ref 0), (1, .ref 39), (2, .ref 143), (3, .int X3)]) (st' := [.int (X3 + ((1 : Int32))), .ref 0, .ref 39]) rfl ?_
        obtain ⟨g_913, h⟩ := z_ifo_some h
        refine r_iaS (pc' := 914) (L' := [(0, .ref 0), (1, .ref 39), (2, .ref 143), (3, .int X3)]) H hq (z_at.mk 1 rfl rfl) (tx_iadd hx3 (rfl : (1 : Int32).toInt = 1)) g_913 rfl rfl ?_
        intro V_913 hV_913
        refine r_p hq 4 (pc' := 918) (L' := [(0, .ref 0), (1, .ref 39), (2, .ref 143), (3, .int X3)]) (st' := [.int (X3 + ((2 : Int32))), .ref 0, .int V_913, .ref 39]) rfl ?_
        obtain ⟨g_918, h⟩ := z_ifo_some h
        refine r_iaS (pc' := 919) (L' := [(0, .ref 0), (1, .ref 39), (2, .ref 143), (3, .int X3)]) H hq (z_at.mk 1 rfl rfl) (tx_iadd hx3 (rfl : (2 : Int32).toInt = 2)) g_918 rfl rfl ?_
        intro V_918 hV_918
        obtain ⟨o_919, h_919, h⟩ := Option.bind_eq_some_iff.mp h
        refine r_cvI (pc' := 922) (L' := [(0, .ref 0), (1, .ref 39), (2, .ref 143), (3, .int X3)]) (Ps := [.int V_913, .int V_918]) (rest := []) hq (z_at.mk 3 rfl rfl) (Or.inl ⟨rfl, rfl⟩) rfl rfl (by decide) (by decide) rfl (Nat.not_lt.mpr (Nat.le_of_ble_eq_true rfl)) rfl rfl (z_cat_le 0 rfl (by decide)) (z_lgl_le 3 rfl (by decide)) (by decide) (H.tg rfl) (by omega) (g_c_again_ok hV_913 hV_918 H h_919) rfl rfl ?_
        intro R_919 m_919 p_919 e_919 hR_919 H_919
        subst e_919
        refine r_p hq 6 (pc' := 928) (L' := [(0, .ref 0), (1, .ref 39), (2, .ref 143), (3, .int X3)]) (st' := [.int (X3 + ((1 : Int32))), .ref 0, .ref 143]) rfl ?_
        obtain ⟨g_928, h⟩ := z_ifo_some h
        refine r_iaS (pc' := 929) (L' := [(0, .ref 0), (1, .ref 39), (2, .ref 143), (3, .int X3)]) H_919 hq (z_at.mk 1 rfl rfl) (tx_iadd hx3 (rfl : (1 : Int32).toInt = 1)) g_928 rfl rfl ?_
        intro V_928 hV_928
        refine r_p hq 4 (pc' := 933) (L' := [(0, .ref 0), (1, .ref 39), (2, .ref 143), (3, .int X3)]) (st' := [.int (X3 + ((2 : Int32))), .ref 0, .int V_928, .ref 143]) rfl ?_
        obtain ⟨g_933, h⟩ := z_ifo_some h
        refine r_iaS (pc' := 934) (L' := [(0, .ref 0), (1, .ref 39), (2, .ref 143), (3, .int X3)]) H_919 hq (z_at.mk 1 rfl rfl) (tx_iadd hx3 (rfl : (2 : Int32).toInt = 2)) g_933 rfl rfl ?_
        intro V_933 hV_933
        obtain ⟨o_934, h_934, h⟩ := Option.bind_eq_some_iff.mp h
        refine r_cvI (pc' := 937) (L' := [(0, .ref 0), (1, .ref 39), (2, .ref 143), (3, .int X3)]) (Ps := [.int V_928, .int V_933]) (rest := []) hq (z_at.mk 3 rfl rfl) (Or.inl ⟨rfl, rfl⟩) rfl rfl (by decide) (by decide) rfl (Nat.not_lt.mpr (Nat.le_of_ble_eq_true rfl)) rfl rfl (z_cat_le 0 rfl (by decide)) (z_lgl_le 3 rfl (by decide)) (by decide) (H_919.tg rfl) (by omega) (g_m_again_ok hV_928 hV_933 H_919 h_934) rfl rfl ?_
        intro R_934 m_934 p_934 e_934 hR_934 H_934
        subst e_934
        refine r_p hq 2 (pc' := 1367) (L' := [(0, .ref 0), (1, .ref 39), (2, .ref 143), (3, .int X3)]) (st' := []) rfl ?_
        exact g_jRangeAnswersLaw_law_L1367_ok hxl ih hx3 H_934 h
      rcases z_ite h with ⟨c_33_25, h⟩ | ⟨c_33_25, h⟩
      · refine r_sw (off := 908) (pc' := 941) (L' := [(0, .ref 0), (1, .ref 39), (2, .ref 143), (3, .int X3)]) hq (z_at.mk 163 rfl rfl) (z_off_v ((tx_iand hV_29 (rfl : (63 : Int32).toInt = 63)).trans c_33_25) rfl) rfl rfl rfl ?_
        refine r_p hq 5 (pc' := 946) (L' := [(0, .ref 0), (1, .ref 39), (2, .ref 143), (3, .int X3)]) (st' := [.int (X3 + ((1 : Int32))), .ref 0, .ref 39]) rfl ?_
        obtain ⟨g_946, h⟩ := z_ifo_some h
        refine r_iaS (pc' := 947) (L' := [(0, .ref 0), (1, .ref 39), (2, .ref 143), (3, .int X3)]) H hq (z_at.mk 1 rfl rfl) (tx_iadd hx3 (rfl : (1 : Int32).toInt = 1)) g_946 rfl rfl ?_
        intro V_946 hV_946
        obtain ⟨o_947, h_947, h⟩ := Option.bind_eq_some_iff.mp h
        refine r_cvI (pc' := 950) (L' := [(0, .ref 0), (1, .ref 39), (2, .ref 143), (3, .int X3)]) (Ps := [.int V_946]) (rest := []) hq (z_at.mk 3 rfl rfl) (Or.inl ⟨rfl, rfl⟩) rfl rfl (by decide) (by decide) rfl (Nat.not_lt.mpr (Nat.le_of_ble_eq_true rfl)) rfl rfl (z_cat_le 0 rfl (by decide)) (z_lgl_le 2 rfl (by decide)) (by decide) (H.tg rfl) (by omega) (g_c_least_ok hV_946 H h_947) rfl rfl ?_
        intro R_947 m_947 p_947 e_947 hR_947 H_947
        subst e_947
        refine r_p hq 6 (pc' := 956) (L' := [(0, .ref 0), (1, .ref 39), (2, .ref 143), (3, .int X3)]) (st' := [.int (X3 + ((1 : Int32))), .ref 0, .ref 143]) rfl ?_
        obtain ⟨g_956, h⟩ := z_ifo_some h
        refine r_iaS (pc' := 957) (L' := [(0, .ref 0), (1, .ref 39), (2, .ref 143), (3, .int X3)]) H_947 hq (z_at.mk 1 rfl rfl) (tx_iadd hx3 (rfl : (1 : Int32).toInt = 1)) g_956 rfl rfl ?_
        intro V_956 hV_956
        obtain ⟨o_957, h_957, h⟩ := Option.bind_eq_some_iff.mp h
        refine r_cvI (pc' := 960) (L' := [(0, .ref 0), (1, .ref 39), (2, .ref 143), (3, .int X3)]) (Ps := [.int V_956]) (rest := []) hq (z_at.mk 3 rfl rfl) (Or.inl ⟨rfl, rfl⟩) rfl rfl (by decide) (by decide) rfl (Nat.not_lt.mpr (Nat.le_of_ble_eq_true rfl)) rfl rfl (z_cat_le 0 rfl (by decide)) (z_lgl_le 2 rfl (by decide)) (by decide) (H_947.tg rfl) (by omega) (g_m_least_ok hV_956 H_947 h_957) rfl rfl ?_
        intro R_957 m_957 p_957 e_957 hR_957 H_957
        subst e_957
        refine r_p hq 2 (pc' := 1367) (L' := [(0, .ref 0), (1, .ref 39), (2, .ref 143), (3, .int X3)]) (st' := []) rfl ?_
        exact g_jRangeAnswersLaw_law_L1367_ok hxl ih hx3 H_957 h
      rcases z_ite h with ⟨c_33_26, h⟩ | ⟨c_33_26, h⟩
      · refine r_sw (off := 931) (pc' := 964) (L' := [(0, .ref 0), (1, .ref 39), (2, .ref 143), (3, .int X3)]) hq (z_at.mk 163 rfl rfl) (z_off_v ((tx_iand hV_29 (rfl : (63 : Int32).toInt = 63)).trans c_33_26) rfl) rfl rfl rfl ?_
        refine r_p hq 5 (pc' := 969) (L' := [(0, .ref 0), (1, .ref 39), (2, .ref 143), (3, .int X3)]) (st' := [.int (X3 + ((1 : Int32))), .ref 0, .ref 39]) rfl ?_
        obtain ⟨g_969, h⟩ := z_ifo_some h
        refine r_iaS (pc' := 970) (L' := [(0, .ref 0), (1, .ref 39), (2, .ref 143), (3, .int X3)]) H hq (z_at.mk 1 rfl rfl) (tx_iadd hx3 (rfl : (1 : Int32).toInt = 1)) g_969 rfl rfl ?_
        intro V_969 hV_969
        refine r_p hq 4 (pc' := 974) (L' := [(0, .ref 0), (1, .ref 39), (2, .ref 143), (3, .int X3)]) (st' := [.int (X3 + ((2 : Int32))), .ref 0, .int V_969, .ref 39]) rfl ?_
        obtain ⟨g_974, h⟩ := z_ifo_some h
        refine r_iaS (pc' := 975) (L' := [(0, .ref 0), (1, .ref 39), (2, .ref 143), (3, .int X3)]) H hq (z_at.mk 1 rfl rfl) (tx_iadd hx3 (rfl : (2 : Int32).toInt = 2)) g_974 rfl rfl ?_
        intro V_974 hV_974
        refine r_p hq 4 (pc' := 979) (L' := [(0, .ref 0), (1, .ref 39), (2, .ref 143), (3, .int X3)]) (st' := [.int (X3 + ((3 : Int32))), .ref 0, .int V_974, .int V_969, .ref 39]) rfl ?_
        obtain ⟨g_979, h⟩ := z_ifo_some h
        refine r_iaS (pc' := 980) (L' := [(0, .ref 0), (1, .ref 39), (2, .ref 143), (3, .int X3)]) H hq (z_at.mk 1 rfl rfl) (tx_iadd hx3 (rfl : (3 : Int32).toInt = 3)) g_979 rfl rfl ?_
        intro V_979 hV_979
        refine r_p hq 4 (pc' := 984) (L' := [(0, .ref 0), (1, .ref 39), (2, .ref 143), (3, .int X3)]) (st' := [.int (X3 + ((4 : Int32))), .ref 0, .int V_979, .int V_974, .int V_969, .ref 39]) rfl ?_
        obtain ⟨g_984, h⟩ := z_ifo_some h
        refine r_iaS (pc' := 985) (L' := [(0, .ref 0), (1, .ref 39), (2, .ref 143), (3, .int X3)]) H hq (z_at.mk 1 rfl rfl) (tx_iadd hx3 (rfl : (4 : Int32).toInt = 4)) g_984 rfl rfl ?_
        intro V_984 hV_984
        refine r_p hq 4 (pc' := 989) (L' := [(0, .ref 0), (1, .ref 39), (2, .ref 143), (3, .int X3)]) (st' := [.int (X3 + ((5 : Int32))), .ref 0, .int V_984, .int V_979, .int V_974, .int V_969, .ref 39]) rfl ?_
        obtain ⟨g_989, h⟩ := z_ifo_some h
        refine r_iaS (pc' := 990) (L' := [(0, .ref 0), (1, .ref 39), (2, .ref 143), (3, .int X3)]) H hq (z_at.mk 1 rfl rfl) (tx_iadd hx3 (rfl : (5 : Int32).toInt = 5)) g_989 rfl rfl ?_
        intro V_989 hV_989
        obtain ⟨o_990, h_990, h⟩ := Option.bind_eq_some_iff.mp h
        refine r_cvI (pc' := 993) (L' := [(0, .ref 0), (1, .ref 39), (2, .ref 143), (3, .int X3)]) (Ps := [.int V_969, .int V_974, .int V_979, .int V_984, .int V_989]) (rest := []) hq (z_at.mk 3 rfl rfl) (Or.inl ⟨rfl, rfl⟩) rfl rfl (by decide) (by decide) rfl (Nat.not_lt.mpr (Nat.le_of_ble_eq_true rfl)) rfl rfl (z_cat_le 0 rfl (by decide)) (z_lgl_le 6 rfl (by decide)) (by decide) (H.tg rfl) (by omega) (g_c_watch_ok hV_969 hV_974 hV_979 hV_984 hV_989 H h_990) rfl rfl ?_
        intro R_990 m_990 p_990 e_990 hR_990 H_990
        subst e_990
        refine r_p hq 6 (pc' := 999) (L' := [(0, .ref 0), (1, .ref 39), (2, .ref 143), (3, .int X3)]) (st' := [.int (X3 + ((1 : Int32))), .ref 0, .ref 143]) rfl ?_
        obtain ⟨g_999, h⟩ := z_ifo_some h
        refine r_iaS (pc' := 1000) (L' := [(0, .ref 0), (1, .ref 39), (2, .ref 143), (3, .int X3)]) H_990 hq (z_at.mk 1 rfl rfl) (tx_iadd hx3 (rfl : (1 : Int32).toInt = 1)) g_999 rfl rfl ?_
        intro V_999 hV_999
        refine r_p hq 4 (pc' := 1004) (L' := [(0, .ref 0), (1, .ref 39), (2, .ref 143), (3, .int X3)]) (st' := [.int (X3 + ((2 : Int32))), .ref 0, .int V_999, .ref 143]) rfl ?_
        obtain ⟨g_1004, h⟩ := z_ifo_some h
        refine r_iaS (pc' := 1005) (L' := [(0, .ref 0), (1, .ref 39), (2, .ref 143), (3, .int X3)]) H_990 hq (z_at.mk 1 rfl rfl) (tx_iadd hx3 (rfl : (2 : Int32).toInt = 2)) g_1004 rfl rfl ?_
        intro V_1004 hV_1004
        refine r_p hq 4 (pc' := 1009) (L' := [(0, .ref 0), (1, .ref 39), (2, .ref 143), (3, .int X3)]) (st' := [.int (X3 + ((3 : Int32))), .ref 0, .int V_1004, .int V_999, .ref 143]) rfl ?_
        obtain ⟨g_1009, h⟩ := z_ifo_some h
        refine r_iaS (pc' := 1010) (L' := [(0, .ref 0), (1, .ref 39), (2, .ref 143), (3, .int X3)]) H_990 hq (z_at.mk 1 rfl rfl) (tx_iadd hx3 (rfl : (3 : Int32).toInt = 3)) g_1009 rfl rfl ?_
        intro V_1009 hV_1009
        refine r_p hq 4 (pc' := 1014) (L' := [(0, .ref 0), (1, .ref 39), (2, .ref 143), (3, .int X3)]) (st' := [.int (X3 + ((4 : Int32))), .ref 0, .int V_1009, .int V_1004, .int V_999, .ref 143]) rfl ?_
        obtain ⟨g_1014, h⟩ := z_ifo_some h
        refine r_iaS (pc' := 1015) (L' := [(0, .ref 0), (1, .ref 39), (2, .ref 143), (3, .int X3)]) H_990 hq (z_at.mk 1 rfl rfl) (tx_iadd hx3 (rfl : (4 : Int32).toInt = 4)) g_1014 rfl rfl ?_
        intro V_1014 hV_1014
        refine r_p hq 4 (pc' := 1019) (L' := [(0, .ref 0), (1, .ref 39), (2, .ref 143), (3, .int X3)]) (st' := [.int (X3 + ((5 : Int32))), .ref 0, .int V_1014, .int V_1009, .int V_1004, .int V_999, .ref 143]) rfl ?_
        obtain ⟨g_1019, h⟩ := z_ifo_some h
        refine r_iaS (pc' := 1020) (L' := [(0, .ref 0), (1, .ref 39), (2, .ref 143), (3, .int X3)]) H_990 hq (z_at.mk 1 rfl rfl) (tx_iadd hx3 (rfl : (5 : Int32).toInt = 5)) g_1019 rfl rfl ?_
        intro V_1019 hV_1019
        obtain ⟨o_1020, h_1020, h⟩ := Option.bind_eq_some_iff.mp h
        refine r_cvI (pc' := 1023) (L' := [(0, .ref 0), (1, .ref 39), (2, .ref 143), (3, .int X3)]) (Ps := [.int V_999, .int V_1004, .int V_1009, .int V_1014, .int V_1019]) (rest := []) hq (z_at.mk 3 rfl rfl) (Or.inl ⟨rfl, rfl⟩) rfl rfl (by decide) (by decide) rfl (Nat.not_lt.mpr (Nat.le_of_ble_eq_true rfl)) rfl rfl (z_cat_le 0 rfl (by decide)) (z_lgl_le 6 rfl (by decide)) (by decide) (H_990.tg rfl) (by omega) (g_m_watch_ok hV_999 hV_1004 hV_1009 hV_1014 hV_1019 H_990 h_1020) rfl rfl ?_
        intro R_1020 m_1020 p_1020 e_1020 hR_1020 H_1020
        subst e_1020
        refine r_p hq 2 (pc' := 1367) (L' := [(0, .ref 0), (1, .ref 39), (2, .ref 143), (3, .int X3)]) (st' := []) rfl ?_
        exact g_jRangeAnswersLaw_law_L1367_ok hxl ih hx3 H_1020 h
      rcases z_ite h with ⟨c_33_27, h⟩ | ⟨c_33_27, h⟩
      · refine r_sw (off := 994) (pc' := 1027) (L' := [(0, .ref 0), (1, .ref 39), (2, .ref 143), (3, .int X3)]) hq (z_at.mk 163 rfl rfl) (z_off_v ((tx_iand hV_29 (rfl : (63 : Int32).toInt = 63)).trans c_33_27) rfl) rfl rfl rfl ?_
        refine r_p hq 5 (pc' := 1032) (L' := [(0, .ref 0), (1, .ref 39), (2, .ref 143), (3, .int X3)]) (st' := [.int (X3 + ((1 : Int32))), .ref 0, .ref 39]) rfl ?_
        obtain ⟨g_1032, h⟩ := z_ifo_some h
        refine r_iaS (pc' := 1033) (L' := [(0, .ref 0), (1, .ref 39), (2, .ref 143), (3, .int X3)]) H hq (z_at.mk 1 rfl rfl) (tx_iadd hx3 (rfl : (1 : Int32).toInt = 1)) g_1032 rfl rfl ?_
        intro V_1032 hV_1032
        obtain ⟨o_1033, h_1033, h⟩ := Option.bind_eq_some_iff.mp h
        refine r_cvL (pc' := 1036) (L' := [(0, .ref 0), (1, .ref 39), (2, .ref 143), (3, .int X3)]) (Ps := [.int V_1032]) (rest := []) hq (z_at.mk 3 rfl rfl) (Or.inl ⟨rfl, rfl⟩) rfl rfl (by decide) (by decide) rfl (Nat.not_lt.mpr (Nat.le_of_ble_eq_true rfl)) rfl rfl (z_cat_le 0 rfl (by decide)) (z_lgl_le 2 rfl (by decide)) (by decide) (H.tg rfl) (by omega) (g_c_value_ok hV_1032 H h_1033) rfl rfl ?_
        intro R_1033 m_1033 p_1033 e_1033 hR_1033 H_1033
        subst e_1033
        refine r_p hq 6 (pc' := 1042) (L' := [(0, .ref 0), (1, .ref 39), (2, .ref 143), (3, .int X3)]) (st' := [.int (X3 + ((1 : Int32))), .ref 0, .ref 143]) rfl ?_
        obtain ⟨g_1042, h⟩ := z_ifo_some h
        refine r_iaS (pc' := 1043) (L' := [(0, .ref 0), (1, .ref 39), (2, .ref 143), (3, .int X3)]) H_1033 hq (z_at.mk 1 rfl rfl) (tx_iadd hx3 (rfl : (1 : Int32).toInt = 1)) g_1042 rfl rfl ?_
        intro V_1042 hV_1042
        obtain ⟨o_1043, h_1043, h⟩ := Option.bind_eq_some_iff.mp h
        refine r_cvL (pc' := 1046) (L' := [(0, .ref 0), (1, .ref 39), (2, .ref 143), (3, .int X3)]) (Ps := [.int V_1042]) (rest := []) hq (z_at.mk 3 rfl rfl) (Or.inl ⟨rfl, rfl⟩) rfl rfl (by decide) (by decide) rfl (Nat.not_lt.mpr (Nat.le_of_ble_eq_true rfl)) rfl rfl (z_cat_le 0 rfl (by decide)) (z_lgl_le 2 rfl (by decide)) (by decide) (H_1033.tg rfl) (by omega) (g_m_value_ok hV_1042 H_1033 h_1043) rfl rfl ?_
        intro R_1043 m_1043 p_1043 e_1043 hR_1043 H_1043
        subst e_1043
        refine r_p hq 2 (pc' := 1367) (L' := [(0, .ref 0), (1, .ref 39), (2, .ref 143), (3, .int X3)]) (st' := []) rfl ?_
        exact g_jRangeAnswersLaw_law_L1367_ok hxl ih hx3 H_1043 h
      rcases z_ite h with ⟨c_33_28, h⟩ | ⟨c_33_28, h⟩
      · refine r_sw (off := 1017) (pc' := 1050) (L' := [(0, .ref 0), (1, .ref 39), (2, .ref 143), (3, .int X3)]) hq (z_at.mk 163 rfl rfl) (z_off_v ((tx_iand hV_29 (rfl : (63 : Int32).toInt = 63)).trans c_33_28) rfl) rfl rfl rfl ?_
        refine r_p hq 5 (pc' := 1055) (L' := [(0, .ref 0), (1, .ref 39), (2, .ref 143), (3, .int X3)]) (st' := [.int (X3 + ((1 : Int32))), .ref 0, .ref 39]) rfl ?_
        obtain ⟨g_1055, h⟩ := z_ifo_some h
        refine r_iaS (pc' := 1056) (L' := [(0, .ref 0), (1, .ref 39), (2, .ref 143), (3, .int X3)]) H hq (z_at.mk 1 rfl rfl) (tx_iadd hx3 (rfl : (1 : Int32).toInt = 1)) g_1055 rfl rfl ?_
        intro V_1055 hV_1055
        obtain ⟨o_1056, h_1056, h⟩ := Option.bind_eq_some_iff.mp h
        refine r_cvI (pc' := 1059) (L' := [(0, .ref 0), (1, .ref 39), (2, .ref 143), (3, .int X3)]) (Ps := [.int V_1055]) (rest := []) hq (z_at.mk 3 rfl rfl) (Or.inl ⟨rfl, rfl⟩) rfl rfl (by decide) (by decide) rfl (Nat.not_lt.mpr (Nat.le_of_ble_eq_true rfl)) rfl rfl (z_cat_le 0 rfl (by decide)) (z_lgl_le 2 rfl (by decide)) (by decide) (H.tg rfl) (by omega) (g_c_changes_ok hV_1055 H h_1056) rfl rfl ?_
        intro R_1056 m_1056 p_1056 e_1056 hR_1056 H_1056
        subst e_1056
        refine r_p hq 6 (pc' := 1065) (L' := [(0, .ref 0), (1, .ref 39), (2, .ref 143), (3, .int X3)]) (st' := [.int (X3 + ((1 : Int32))), .ref 0, .ref 143]) rfl ?_
        obtain ⟨g_1065, h⟩ := z_ifo_some h
        refine r_iaS (pc' := 1066) (L' := [(0, .ref 0), (1, .ref 39), (2, .ref 143), (3, .int X3)]) H_1056 hq (z_at.mk 1 rfl rfl) (tx_iadd hx3 (rfl : (1 : Int32).toInt = 1)) g_1065 rfl rfl ?_
        intro V_1065 hV_1065
        obtain ⟨o_1066, h_1066, h⟩ := Option.bind_eq_some_iff.mp h
        refine r_cvI (pc' := 1069) (L' := [(0, .ref 0), (1, .ref 39), (2, .ref 143), (3, .int X3)]) (Ps := [.int V_1065]) (rest := []) hq (z_at.mk 3 rfl rfl) (Or.inl ⟨rfl, rfl⟩) rfl rfl (by decide) (by decide) rfl (Nat.not_lt.mpr (Nat.le_of_ble_eq_true rfl)) rfl rfl (z_cat_le 0 rfl (by decide)) (z_lgl_le 2 rfl (by decide)) (by decide) (H_1056.tg rfl) (by omega) (g_m_changes_ok hV_1065 H_1056 h_1066) rfl rfl ?_
        intro R_1066 m_1066 p_1066 e_1066 hR_1066 H_1066
        subst e_1066
        refine r_p hq 2 (pc' := 1367) (L' := [(0, .ref 0), (1, .ref 39), (2, .ref 143), (3, .int X3)]) (st' := []) rfl ?_
        exact g_jRangeAnswersLaw_law_L1367_ok hxl ih hx3 H_1066 h
      rcases z_ite h with ⟨c_33_29, h⟩ | ⟨c_33_29, h⟩
      · refine r_sw (off := 1040) (pc' := 1073) (L' := [(0, .ref 0), (1, .ref 39), (2, .ref 143), (3, .int X3)]) hq (z_at.mk 163 rfl rfl) (z_off_v ((tx_iand hV_29 (rfl : (63 : Int32).toInt = 63)).trans c_33_29) rfl) rfl rfl rfl ?_
        refine r_p hq 5 (pc' := 1078) (L' := [(0, .ref 0), (1, .ref 39), (2, .ref 143), (3, .int X3)]) (st' := [.int (X3 + ((1 : Int32))), .ref 0, .ref 39]) rfl ?_
        obtain ⟨g_1078, h⟩ := z_ifo_some h
        refine r_iaS (pc' := 1079) (L' := [(0, .ref 0), (1, .ref 39), (2, .ref 143), (3, .int X3)]) H hq (z_at.mk 1 rfl rfl) (tx_iadd hx3 (rfl : (1 : Int32).toInt = 1)) g_1078 rfl rfl ?_
        intro V_1078 hV_1078
        refine r_p hq 4 (pc' := 1083) (L' := [(0, .ref 0), (1, .ref 39), (2, .ref 143), (3, .int X3)]) (st' := [.int (X3 + ((2 : Int32))), .ref 0, .int V_1078, .ref 39]) rfl ?_
        obtain ⟨g_1083, h⟩ := z_ifo_some h
        refine r_iaS (pc' := 1084) (L' := [(0, .ref 0), (1, .ref 39), (2, .ref 143), (3, .int X3)]) H hq (z_at.mk 1 rfl rfl) (tx_iadd hx3 (rfl : (2 : Int32).toInt = 2)) g_1083 rfl rfl ?_
        intro V_1083 hV_1083
        obtain ⟨o_1084, h_1084, h⟩ := Option.bind_eq_some_iff.mp h
        refine r_cvI (pc' := 1087) (L' := [(0, .ref 0), (1, .ref 39), (2, .ref 143), (3, .int X3)]) (Ps := [.int V_1078, .int V_1083]) (rest := []) hq (z_at.mk 3 rfl rfl) (Or.inl ⟨rfl, rfl⟩) rfl rfl (by decide) (by decide) rfl (Nat.not_lt.mpr (Nat.le_of_ble_eq_true rfl)) rfl rfl (z_cat_le 0 rfl (by decide)) (z_lgl_le 3 rfl (by decide)) (by decide) (H.tg rfl) (by omega) (g_c_list_ok hV_1078 hV_1083 H h_1084) rfl rfl ?_
        intro R_1084 m_1084 p_1084 e_1084 hR_1084 H_1084
        subst e_1084
        refine r_p hq 6 (pc' := 1093) (L' := [(0, .ref 0), (1, .ref 39), (2, .ref 143), (3, .int X3)]) (st' := [.int (X3 + ((1 : Int32))), .ref 0, .ref 143]) rfl ?_
        obtain ⟨g_1093, h⟩ := z_ifo_some h
        refine r_iaS (pc' := 1094) (L' := [(0, .ref 0), (1, .ref 39), (2, .ref 143), (3, .int X3)]) H_1084 hq (z_at.mk 1 rfl rfl) (tx_iadd hx3 (rfl : (1 : Int32).toInt = 1)) g_1093 rfl rfl ?_
        intro V_1093 hV_1093
        refine r_p hq 4 (pc' := 1098) (L' := [(0, .ref 0), (1, .ref 39), (2, .ref 143), (3, .int X3)]) (st' := [.int (X3 + ((2 : Int32))), .ref 0, .int V_1093, .ref 143]) rfl ?_
        obtain ⟨g_1098, h⟩ := z_ifo_some h
        refine r_iaS (pc' := 1099) (L' := [(0, .ref 0), (1, .ref 39), (2, .ref 143), (3, .int X3)]) H_1084 hq (z_at.mk 1 rfl rfl) (tx_iadd hx3 (rfl : (2 : Int32).toInt = 2)) g_1098 rfl rfl ?_
        intro V_1098 hV_1098
        obtain ⟨o_1099, h_1099, h⟩ := Option.bind_eq_some_iff.mp h
        refine r_cvI (pc' := 1102) (L' := [(0, .ref 0), (1, .ref 39), (2, .ref 143), (3, .int X3)]) (Ps := [.int V_1093, .int V_1098]) (rest := []) hq (z_at.mk 3 rfl rfl) (Or.inl ⟨rfl, rfl⟩) rfl rfl (by decide) (by decide) rfl (Nat.not_lt.mpr (Nat.le_of_ble_eq_true rfl)) rfl rfl (z_cat_le 0 rfl (by decide)) (z_lgl_le 3 rfl (by decide)) (by decide) (H_1084.tg rfl) (by omega) (g_m_list_ok hV_1093 hV_1098 H_1084 h_1099) rfl rfl ?_
        intro R_1099 m_1099 p_1099 e_1099 hR_1099 H_1099
        subst e_1099
        refine r_p hq 2 (pc' := 1367) (L' := [(0, .ref 0), (1, .ref 39), (2, .ref 143), (3, .int X3)]) (st' := []) rfl ?_
        exact g_jRangeAnswersLaw_law_L1367_ok hxl ih hx3 H_1099 h
      rcases z_ite h with ⟨c_33_30, h⟩ | ⟨c_33_30, h⟩
      · refine r_sw (off := 1073) (pc' := 1106) (L' := [(0, .ref 0), (1, .ref 39), (2, .ref 143), (3, .int X3)]) hq (z_at.mk 163 rfl rfl) (z_off_v ((tx_iand hV_29 (rfl : (63 : Int32).toInt = 63)).trans c_33_30) rfl) rfl rfl rfl ?_
        refine r_p hq 5 (pc' := 1111) (L' := [(0, .ref 0), (1, .ref 39), (2, .ref 143), (3, .int X3)]) (st' := [.int (X3 + ((1 : Int32))), .ref 0, .ref 39]) rfl ?_
        obtain ⟨g_1111, h⟩ := z_ifo_some h
        refine r_iaS (pc' := 1112) (L' := [(0, .ref 0), (1, .ref 39), (2, .ref 143), (3, .int X3)]) H hq (z_at.mk 1 rfl rfl) (tx_iadd hx3 (rfl : (1 : Int32).toInt = 1)) g_1111 rfl rfl ?_
        intro V_1111 hV_1111
        refine r_p hq 4 (pc' := 1116) (L' := [(0, .ref 0), (1, .ref 39), (2, .ref 143), (3, .int X3)]) (st' := [.int (X3 + ((2 : Int32))), .ref 0, .int V_1111, .ref 39]) rfl ?_
        obtain ⟨g_1116, h⟩ := z_ifo_some h
        refine r_iaS (pc' := 1117) (L' := [(0, .ref 0), (1, .ref 39), (2, .ref 143), (3, .int X3)]) H hq (z_at.mk 1 rfl rfl) (tx_iadd hx3 (rfl : (2 : Int32).toInt = 2)) g_1116 rfl rfl ?_
        intro V_1116 hV_1116
        refine r_p hq 4 (pc' := 1121) (L' := [(0, .ref 0), (1, .ref 39), (2, .ref 143), (3, .int X3)]) (st' := [.int (X3 + ((3 : Int32))), .ref 0, .int V_1116, .int V_1111, .ref 39]) rfl ?_
        obtain ⟨g_1121, h⟩ := z_ifo_some h
        refine r_iaS (pc' := 1122) (L' := [(0, .ref 0), (1, .ref 39), (2, .ref 143), (3, .int X3)]) H hq (z_at.mk 1 rfl rfl) (tx_iadd hx3 (rfl : (3 : Int32).toInt = 3)) g_1121 rfl rfl ?_
        intro V_1121 hV_1121
        refine r_p hq 7 (pc' := 1130) (L' := [(0, .ref 0), (1, .ref 39), (2, .ref 143), (3, .int X3)]) (st' := [.int (X3 + ((4 : Int32))), .ref 0, .long (V_1121.toInt64 <<< (((32 : Int32)).toInt64 &&& 63)), .int V_1116, .int V_1111, .ref 39]) rfl ?_
        obtain ⟨g_1130, h⟩ := z_ifo_some h
        refine r_iaS (pc' := 1131) (L' := [(0, .ref 0), (1, .ref 39), (2, .ref 143), (3, .int X3)]) H hq (z_at.mk 1 rfl rfl) (tx_iadd hx3 (rfl : (4 : Int32).toInt = 4)) g_1130 rfl rfl ?_
        intro V_1130 hV_1130
        refine r_p hq 4 (pc' := 1137) (L' := [(0, .ref 0), (1, .ref 39), (2, .ref 143), (3, .int X3)]) (st' := [.long ((V_1121.toInt64 <<< (((32 : Int32)).toInt64 &&& 63)) ||| (V_1130.toInt64 &&& ((4294967295 : Int64)))), .int V_1116, .int V_1111, .ref 39]) rfl ?_
        obtain ⟨o_1137, h_1137, h⟩ := Option.bind_eq_some_iff.mp h
        refine r_cvI (pc' := 1140) (L' := [(0, .ref 0), (1, .ref 39), (2, .ref 143), (3, .int X3)]) (Ps := [.int V_1111, .int V_1116, .long ((V_1121.toInt64 <<< (((32 : Int32)).toInt64 &&& 63)) ||| (V_1130.toInt64 &&& ((4294967295 : Int64))))]) (rest := []) hq (z_at.mk 3 rfl rfl) (Or.inl ⟨rfl, rfl⟩) rfl rfl (by decide) (by decide) rfl (Nat.not_lt.mpr (Nat.le_of_ble_eq_true rfl)) rfl rfl (z_cat_le 0 rfl (by decide)) (z_lgl_le 5 rfl (by decide)) (by decide) (H.tg rfl) (by omega) (g_c_set_ok hV_1111 hV_1116 (tx_lor (tx_lshl (tx_i2l hV_1121) (rfl : (32 : Int32).toInt = 32)) (tx_land (tx_i2l hV_1130) (rfl : (4294967295 : Int64).toInt = 4294967295))) H h_1137) rfl rfl ?_
        intro R_1137 m_1137 p_1137 e_1137 hR_1137 H_1137
        subst e_1137
        refine r_p hq 6 (pc' := 1146) (L' := [(0, .ref 0), (1, .ref 39), (2, .ref 143), (3, .int X3)]) (st' := [.int (X3 + ((1 : Int32))), .ref 0, .ref 143]) rfl ?_
        obtain ⟨g_1146, h⟩ := z_ifo_some h
        refine r_iaS (pc' := 1147) (L' := [(0, .ref 0), (1, .ref 39), (2, .ref 143), (3, .int X3)]) H_1137 hq (z_at.mk 1 rfl rfl) (tx_iadd hx3 (rfl : (1 : Int32).toInt = 1)) g_1146 rfl rfl ?_
        intro V_1146 hV_1146
        refine r_p hq 4 (pc' := 1151) (L' := [(0, .ref 0), (1, .ref 39), (2, .ref 143), (3, .int X3)]) (st' := [.int (X3 + ((2 : Int32))), .ref 0, .int V_1146, .ref 143]) rfl ?_
        obtain ⟨g_1151, h⟩ := z_ifo_some h
        refine r_iaS (pc' := 1152) (L' := [(0, .ref 0), (1, .ref 39), (2, .ref 143), (3, .int X3)]) H_1137 hq (z_at.mk 1 rfl rfl) (tx_iadd hx3 (rfl : (2 : Int32).toInt = 2)) g_1151 rfl rfl ?_
        intro V_1151 hV_1151
        refine r_p hq 4 (pc' := 1156) (L' := [(0, .ref 0), (1, .ref 39), (2, .ref 143), (3, .int X3)]) (st' := [.int (X3 + ((3 : Int32))), .ref 0, .int V_1151, .int V_1146, .ref 143]) rfl ?_
        obtain ⟨g_1156, h⟩ := z_ifo_some h
        refine r_iaS (pc' := 1157) (L' := [(0, .ref 0), (1, .ref 39), (2, .ref 143), (3, .int X3)]) H_1137 hq (z_at.mk 1 rfl rfl) (tx_iadd hx3 (rfl : (3 : Int32).toInt = 3)) g_1156 rfl rfl ?_
        intro V_1156 hV_1156
        refine r_p hq 7 (pc' := 1165) (L' := [(0, .ref 0), (1, .ref 39), (2, .ref 143), (3, .int X3)]) (st' := [.int (X3 + ((4 : Int32))), .ref 0, .long (V_1156.toInt64 <<< (((32 : Int32)).toInt64 &&& 63)), .int V_1151, .int V_1146, .ref 143]) rfl ?_
        obtain ⟨g_1165, h⟩ := z_ifo_some h
        refine r_iaS (pc' := 1166) (L' := [(0, .ref 0), (1, .ref 39), (2, .ref 143), (3, .int X3)]) H_1137 hq (z_at.mk 1 rfl rfl) (tx_iadd hx3 (rfl : (4 : Int32).toInt = 4)) g_1165 rfl rfl ?_
        intro V_1165 hV_1165
        refine r_p hq 4 (pc' := 1172) (L' := [(0, .ref 0), (1, .ref 39), (2, .ref 143), (3, .int X3)]) (st' := [.long ((V_1156.toInt64 <<< (((32 : Int32)).toInt64 &&& 63)) ||| (V_1165.toInt64 &&& ((4294967295 : Int64)))), .int V_1151, .int V_1146, .ref 143]) rfl ?_
        obtain ⟨o_1172, h_1172, h⟩ := Option.bind_eq_some_iff.mp h
        refine r_cvI (pc' := 1175) (L' := [(0, .ref 0), (1, .ref 39), (2, .ref 143), (3, .int X3)]) (Ps := [.int V_1146, .int V_1151, .long ((V_1156.toInt64 <<< (((32 : Int32)).toInt64 &&& 63)) ||| (V_1165.toInt64 &&& ((4294967295 : Int64))))]) (rest := []) hq (z_at.mk 3 rfl rfl) (Or.inl ⟨rfl, rfl⟩) rfl rfl (by decide) (by decide) rfl (Nat.not_lt.mpr (Nat.le_of_ble_eq_true rfl)) rfl rfl (z_cat_le 0 rfl (by decide)) (z_lgl_le 5 rfl (by decide)) (by decide) (H_1137.tg rfl) (by omega) (g_m_set_ok hV_1146 hV_1151 (tx_lor (tx_lshl (tx_i2l hV_1156) (rfl : (32 : Int32).toInt = 32)) (tx_land (tx_i2l hV_1165) (rfl : (4294967295 : Int64).toInt = 4294967295))) H_1137 h_1172) rfl rfl ?_
        intro R_1172 m_1172 p_1172 e_1172 hR_1172 H_1172
        subst e_1172
        refine r_p hq 2 (pc' := 1367) (L' := [(0, .ref 0), (1, .ref 39), (2, .ref 143), (3, .int X3)]) (st' := []) rfl ?_
        exact g_jRangeAnswersLaw_law_L1367_ok hxl ih hx3 H_1172 h
      rcases z_ite h with ⟨c_33_31, h⟩ | ⟨c_33_31, h⟩
      · refine r_sw (off := 1146) (pc' := 1179) (L' := [(0, .ref 0), (1, .ref 39), (2, .ref 143), (3, .int X3)]) hq (z_at.mk 163 rfl rfl) (z_off_v ((tx_iand hV_29 (rfl : (63 : Int32).toInt = 63)).trans c_33_31) rfl) rfl rfl rfl ?_
        refine r_p hq 5 (pc' := 1184) (L' := [(0, .ref 0), (1, .ref 39), (2, .ref 143), (3, .int X3)]) (st' := [.int (X3 + ((1 : Int32))), .ref 0, .ref 39]) rfl ?_
        obtain ⟨g_1184, h⟩ := z_ifo_some h
        refine r_iaS (pc' := 1185) (L' := [(0, .ref 0), (1, .ref 39), (2, .ref 143), (3, .int X3)]) H hq (z_at.mk 1 rfl rfl) (tx_iadd hx3 (rfl : (1 : Int32).toInt = 1)) g_1184 rfl rfl ?_
        intro V_1184 hV_1184
        refine r_p hq 4 (pc' := 1189) (L' := [(0, .ref 0), (1, .ref 39), (2, .ref 143), (3, .int X3)]) (st' := [.int (X3 + ((2 : Int32))), .ref 0, .int V_1184, .ref 39]) rfl ?_
        obtain ⟨g_1189, h⟩ := z_ifo_some h
        refine r_iaS (pc' := 1190) (L' := [(0, .ref 0), (1, .ref 39), (2, .ref 143), (3, .int X3)]) H hq (z_at.mk 1 rfl rfl) (tx_iadd hx3 (rfl : (2 : Int32).toInt = 2)) g_1189 rfl rfl ?_
        intro V_1189 hV_1189
        obtain ⟨o_1190, h_1190, h⟩ := Option.bind_eq_some_iff.mp h
        refine r_cvL (pc' := 1193) (L' := [(0, .ref 0), (1, .ref 39), (2, .ref 143), (3, .int X3)]) (Ps := [.int V_1184, .int V_1189]) (rest := []) hq (z_at.mk 3 rfl rfl) (Or.inl ⟨rfl, rfl⟩) rfl rfl (by decide) (by decide) rfl (Nat.not_lt.mpr (Nat.le_of_ble_eq_true rfl)) rfl rfl (z_cat_le 0 rfl (by decide)) (z_lgl_le 3 rfl (by decide)) (by decide) (H.tg rfl) (by omega) (g_c_get_ok hV_1184 hV_1189 H h_1190) rfl rfl ?_
        intro R_1190 m_1190 p_1190 e_1190 hR_1190 H_1190
        subst e_1190
        refine r_p hq 6 (pc' := 1199) (L' := [(0, .ref 0), (1, .ref 39), (2, .ref 143), (3, .int X3)]) (st' := [.int (X3 + ((1 : Int32))), .ref 0, .ref 143]) rfl ?_
        obtain ⟨g_1199, h⟩ := z_ifo_some h
        refine r_iaS (pc' := 1200) (L' := [(0, .ref 0), (1, .ref 39), (2, .ref 143), (3, .int X3)]) H_1190 hq (z_at.mk 1 rfl rfl) (tx_iadd hx3 (rfl : (1 : Int32).toInt = 1)) g_1199 rfl rfl ?_
        intro V_1199 hV_1199
        refine r_p hq 4 (pc' := 1204) (L' := [(0, .ref 0), (1, .ref 39), (2, .ref 143), (3, .int X3)]) (st' := [.int (X3 + ((2 : Int32))), .ref 0, .int V_1199, .ref 143]) rfl ?_
        obtain ⟨g_1204, h⟩ := z_ifo_some h
        refine r_iaS (pc' := 1205) (L' := [(0, .ref 0), (1, .ref 39), (2, .ref 143), (3, .int X3)]) H_1190 hq (z_at.mk 1 rfl rfl) (tx_iadd hx3 (rfl : (2 : Int32).toInt = 2)) g_1204 rfl rfl ?_
        intro V_1204 hV_1204
        obtain ⟨o_1205, h_1205, h⟩ := Option.bind_eq_some_iff.mp h
        refine r_cvL (pc' := 1208) (L' := [(0, .ref 0), (1, .ref 39), (2, .ref 143), (3, .int X3)]) (Ps := [.int V_1199, .int V_1204]) (rest := []) hq (z_at.mk 3 rfl rfl) (Or.inl ⟨rfl, rfl⟩) rfl rfl (by decide) (by decide) rfl (Nat.not_lt.mpr (Nat.le_of_ble_eq_true rfl)) rfl rfl (z_cat_le 0 rfl (by decide)) (z_lgl_le 3 rfl (by decide)) (by decide) (H_1190.tg rfl) (by omega) (g_m_get_ok hV_1199 hV_1204 H_1190 h_1205) rfl rfl ?_
        intro R_1205 m_1205 p_1205 e_1205 hR_1205 H_1205
        subst e_1205
        refine r_p hq 2 (pc' := 1367) (L' := [(0, .ref 0), (1, .ref 39), (2, .ref 143), (3, .int X3)]) (st' := []) rfl ?_
        exact g_jRangeAnswersLaw_law_L1367_ok hxl ih hx3 H_1205 h
      rcases z_ite h with ⟨c_33_32, h⟩ | ⟨c_33_32, h⟩
      · refine r_sw (off := 1179) (pc' := 1212) (L' := [(0, .ref 0), (1, .ref 39), (2, .ref 143), (3, .int X3)]) hq (z_at.mk 163 rfl rfl) (z_off_v ((tx_iand hV_29 (rfl : (63 : Int32).toInt = 63)).trans c_33_32) rfl) rfl rfl rfl ?_
        refine r_p hq 5 (pc' := 1217) (L' := [(0, .ref 0), (1, .ref 39), (2, .ref 143), (3, .int X3)]) (st' := [.int (X3 + ((1 : Int32))), .ref 0, .ref 39]) rfl ?_
        obtain ⟨g_1217, h⟩ := z_ifo_some h
        refine r_iaS (pc' := 1218) (L' := [(0, .ref 0), (1, .ref 39), (2, .ref 143), (3, .int X3)]) H hq (z_at.mk 1 rfl rfl) (tx_iadd hx3 (rfl : (1 : Int32).toInt = 1)) g_1217 rfl rfl ?_
        intro V_1217 hV_1217
        refine r_p hq 4 (pc' := 1222) (L' := [(0, .ref 0), (1, .ref 39), (2, .ref 143), (3, .int X3)]) (st' := [.int (X3 + ((2 : Int32))), .ref 0, .int V_1217, .ref 39]) rfl ?_
        obtain ⟨g_1222, h⟩ := z_ifo_some h
        refine r_iaS (pc' := 1223) (L' := [(0, .ref 0), (1, .ref 39), (2, .ref 143), (3, .int X3)]) H hq (z_at.mk 1 rfl rfl) (tx_iadd hx3 (rfl : (2 : Int32).toInt = 2)) g_1222 rfl rfl ?_
        intro V_1222 hV_1222
        refine r_p hq 4 (pc' := 1227) (L' := [(0, .ref 0), (1, .ref 39), (2, .ref 143), (3, .int X3)]) (st' := [.int (X3 + ((3 : Int32))), .ref 0, .int V_1222, .int V_1217, .ref 39]) rfl ?_
        obtain ⟨g_1227, h⟩ := z_ifo_some h
        refine r_iaS (pc' := 1228) (L' := [(0, .ref 0), (1, .ref 39), (2, .ref 143), (3, .int X3)]) H hq (z_at.mk 1 rfl rfl) (tx_iadd hx3 (rfl : (3 : Int32).toInt = 3)) g_1227 rfl rfl ?_
        intro V_1227 hV_1227
        refine r_p hq 4 (pc' := 1232) (L' := [(0, .ref 0), (1, .ref 39), (2, .ref 143), (3, .int X3)]) (st' := [.int (X3 + ((4 : Int32))), .ref 0, .int V_1227, .int V_1222, .int V_1217, .ref 39]) rfl ?_
        obtain ⟨g_1232, h⟩ := z_ifo_some h
        refine r_iaS (pc' := 1233) (L' := [(0, .ref 0), (1, .ref 39), (2, .ref 143), (3, .int X3)]) H hq (z_at.mk 1 rfl rfl) (tx_iadd hx3 (rfl : (4 : Int32).toInt = 4)) g_1232 rfl rfl ?_
        intro V_1232 hV_1232
        refine r_p hq 4 (pc' := 1237) (L' := [(0, .ref 0), (1, .ref 39), (2, .ref 143), (3, .int X3)]) (st' := [.int (X3 + ((5 : Int32))), .ref 0, .int V_1232, .int V_1227, .int V_1222, .int V_1217, .ref 39]) rfl ?_
        obtain ⟨g_1237, h⟩ := z_ifo_some h
        refine r_iaS (pc' := 1238) (L' := [(0, .ref 0), (1, .ref 39), (2, .ref 143), (3, .int X3)]) H hq (z_at.mk 1 rfl rfl) (tx_iadd hx3 (rfl : (5 : Int32).toInt = 5)) g_1237 rfl rfl ?_
        intro V_1237 hV_1237
        obtain ⟨o_1238, h_1238, h⟩ := Option.bind_eq_some_iff.mp h
        refine r_cvI (pc' := 1241) (L' := [(0, .ref 0), (1, .ref 39), (2, .ref 143), (3, .int X3)]) (Ps := [.int V_1217, .int V_1222, .int V_1227, .int V_1232, .int V_1237]) (rest := []) hq (z_at.mk 3 rfl rfl) (Or.inl ⟨rfl, rfl⟩) rfl rfl (by decide) (by decide) rfl (Nat.not_lt.mpr (Nat.le_of_ble_eq_true rfl)) rfl rfl (z_cat_le 0 rfl (by decide)) (z_lgl_le 6 rfl (by decide)) (by decide) (H.tg rfl) (by omega) (g_c_move_ok hV_1217 hV_1222 hV_1227 hV_1232 hV_1237 H h_1238) rfl rfl ?_
        intro R_1238 m_1238 p_1238 e_1238 hR_1238 H_1238
        subst e_1238
        refine r_p hq 6 (pc' := 1247) (L' := [(0, .ref 0), (1, .ref 39), (2, .ref 143), (3, .int X3)]) (st' := [.int (X3 + ((1 : Int32))), .ref 0, .ref 143]) rfl ?_
        obtain ⟨g_1247, h⟩ := z_ifo_some h
        refine r_iaS (pc' := 1248) (L' := [(0, .ref 0), (1, .ref 39), (2, .ref 143), (3, .int X3)]) H_1238 hq (z_at.mk 1 rfl rfl) (tx_iadd hx3 (rfl : (1 : Int32).toInt = 1)) g_1247 rfl rfl ?_
        intro V_1247 hV_1247
        refine r_p hq 4 (pc' := 1252) (L' := [(0, .ref 0), (1, .ref 39), (2, .ref 143), (3, .int X3)]) (st' := [.int (X3 + ((2 : Int32))), .ref 0, .int V_1247, .ref 143]) rfl ?_
        obtain ⟨g_1252, h⟩ := z_ifo_some h
        refine r_iaS (pc' := 1253) (L' := [(0, .ref 0), (1, .ref 39), (2, .ref 143), (3, .int X3)]) H_1238 hq (z_at.mk 1 rfl rfl) (tx_iadd hx3 (rfl : (2 : Int32).toInt = 2)) g_1252 rfl rfl ?_
        intro V_1252 hV_1252
        refine r_p hq 4 (pc' := 1257) (L' := [(0, .ref 0), (1, .ref 39), (2, .ref 143), (3, .int X3)]) (st' := [.int (X3 + ((3 : Int32))), .ref 0, .int V_1252, .int V_1247, .ref 143]) rfl ?_
        obtain ⟨g_1257, h⟩ := z_ifo_some h
        refine r_iaS (pc' := 1258) (L' := [(0, .ref 0), (1, .ref 39), (2, .ref 143), (3, .int X3)]) H_1238 hq (z_at.mk 1 rfl rfl) (tx_iadd hx3 (rfl : (3 : Int32).toInt = 3)) g_1257 rfl rfl ?_
        intro V_1257 hV_1257
        refine r_p hq 4 (pc' := 1262) (L' := [(0, .ref 0), (1, .ref 39), (2, .ref 143), (3, .int X3)]) (st' := [.int (X3 + ((4 : Int32))), .ref 0, .int V_1257, .int V_1252, .int V_1247, .ref 143]) rfl ?_
        obtain ⟨g_1262, h⟩ := z_ifo_some h
        refine r_iaS (pc' := 1263) (L' := [(0, .ref 0), (1, .ref 39), (2, .ref 143), (3, .int X3)]) H_1238 hq (z_at.mk 1 rfl rfl) (tx_iadd hx3 (rfl : (4 : Int32).toInt = 4)) g_1262 rfl rfl ?_
        intro V_1262 hV_1262
        refine r_p hq 4 (pc' := 1267) (L' := [(0, .ref 0), (1, .ref 39), (2, .ref 143), (3, .int X3)]) (st' := [.int (X3 + ((5 : Int32))), .ref 0, .int V_1262, .int V_1257, .int V_1252, .int V_1247, .ref 143]) rfl ?_
        obtain ⟨g_1267, h⟩ := z_ifo_some h
        refine r_iaS (pc' := 1268) (L' := [(0, .ref 0), (1, .ref 39), (2, .ref 143), (3, .int X3)]) H_1238 hq (z_at.mk 1 rfl rfl) (tx_iadd hx3 (rfl : (5 : Int32).toInt = 5)) g_1267 rfl rfl ?_
        intro V_1267 hV_1267
        obtain ⟨o_1268, h_1268, h⟩ := Option.bind_eq_some_iff.mp h
        refine r_cvI (pc' := 1271) (L' := [(0, .ref 0), (1, .ref 39), (2, .ref 143), (3, .int X3)]) (Ps := [.int V_1247, .int V_1252, .int V_1257, .int V_1262, .int V_1267]) (rest := []) hq (z_at.mk 3 rfl rfl) (Or.inl ⟨rfl, rfl⟩) rfl rfl (by decide) (by decide) rfl (Nat.not_lt.mpr (Nat.le_of_ble_eq_true rfl)) rfl rfl (z_cat_le 0 rfl (by decide)) (z_lgl_le 6 rfl (by decide)) (by decide) (H_1238.tg rfl) (by omega) (g_m_move_ok hV_1247 hV_1252 hV_1257 hV_1262 hV_1267 H_1238 h_1268) rfl rfl ?_
        intro R_1268 m_1268 p_1268 e_1268 hR_1268 H_1268
        subst e_1268
        refine r_p hq 2 (pc' := 1367) (L' := [(0, .ref 0), (1, .ref 39), (2, .ref 143), (3, .int X3)]) (st' := []) rfl ?_
        exact g_jRangeAnswersLaw_law_L1367_ok hxl ih hx3 H_1268 h
      rcases z_ite h with ⟨c_33_33, h⟩ | ⟨c_33_33, h⟩
      · refine r_sw (off := 1242) (pc' := 1275) (L' := [(0, .ref 0), (1, .ref 39), (2, .ref 143), (3, .int X3)]) hq (z_at.mk 163 rfl rfl) (z_off_v ((tx_iand hV_29 (rfl : (63 : Int32).toInt = 63)).trans c_33_33) rfl) rfl rfl rfl ?_
        refine r_p hq 5 (pc' := 1280) (L' := [(0, .ref 0), (1, .ref 39), (2, .ref 143), (3, .int X3)]) (st' := [.int (X3 + ((1 : Int32))), .ref 0, .ref 39]) rfl ?_
        obtain ⟨g_1280, h⟩ := z_ifo_some h
        refine r_iaS (pc' := 1281) (L' := [(0, .ref 0), (1, .ref 39), (2, .ref 143), (3, .int X3)]) H hq (z_at.mk 1 rfl rfl) (tx_iadd hx3 (rfl : (1 : Int32).toInt = 1)) g_1280 rfl rfl ?_
        intro V_1280 hV_1280
        refine r_p hq 4 (pc' := 1285) (L' := [(0, .ref 0), (1, .ref 39), (2, .ref 143), (3, .int X3)]) (st' := [.int (X3 + ((2 : Int32))), .ref 0, .int V_1280, .ref 39]) rfl ?_
        obtain ⟨g_1285, h⟩ := z_ifo_some h
        refine r_iaS (pc' := 1286) (L' := [(0, .ref 0), (1, .ref 39), (2, .ref 143), (3, .int X3)]) H hq (z_at.mk 1 rfl rfl) (tx_iadd hx3 (rfl : (2 : Int32).toInt = 2)) g_1285 rfl rfl ?_
        intro V_1285 hV_1285
        obtain ⟨o_1286, h_1286, h⟩ := Option.bind_eq_some_iff.mp h
        refine r_cvI (pc' := 1289) (L' := [(0, .ref 0), (1, .ref 39), (2, .ref 143), (3, .int X3)]) (Ps := [.int V_1280, .int V_1285]) (rest := []) hq (z_at.mk 3 rfl rfl) (Or.inl ⟨rfl, rfl⟩) rfl rfl (by decide) (by decide) rfl (Nat.not_lt.mpr (Nat.le_of_ble_eq_true rfl)) rfl rfl (z_cat_le 0 rfl (by decide)) (z_lgl_le 3 rfl (by decide)) (by decide) (H.tg rfl) (by omega) (g_c_lay_ok hV_1280 hV_1285 H h_1286) rfl rfl ?_
        intro R_1286 m_1286 p_1286 e_1286 hR_1286 H_1286
        subst e_1286
        refine r_p hq 6 (pc' := 1295) (L' := [(0, .ref 0), (1, .ref 39), (2, .ref 143), (3, .int X3)]) (st' := [.int (X3 + ((1 : Int32))), .ref 0, .ref 143]) rfl ?_
        obtain ⟨g_1295, h⟩ := z_ifo_some h
        refine r_iaS (pc' := 1296) (L' := [(0, .ref 0), (1, .ref 39), (2, .ref 143), (3, .int X3)]) H_1286 hq (z_at.mk 1 rfl rfl) (tx_iadd hx3 (rfl : (1 : Int32).toInt = 1)) g_1295 rfl rfl ?_
        intro V_1295 hV_1295
        refine r_p hq 4 (pc' := 1300) (L' := [(0, .ref 0), (1, .ref 39), (2, .ref 143), (3, .int X3)]) (st' := [.int (X3 + ((2 : Int32))), .ref 0, .int V_1295, .ref 143]) rfl ?_
        obtain ⟨g_1300, h⟩ := z_ifo_some h
        refine r_iaS (pc' := 1301) (L' := [(0, .ref 0), (1, .ref 39), (2, .ref 143), (3, .int X3)]) H_1286 hq (z_at.mk 1 rfl rfl) (tx_iadd hx3 (rfl : (2 : Int32).toInt = 2)) g_1300 rfl rfl ?_
        intro V_1300 hV_1300
        obtain ⟨o_1301, h_1301, h⟩ := Option.bind_eq_some_iff.mp h
        refine r_cvI (pc' := 1304) (L' := [(0, .ref 0), (1, .ref 39), (2, .ref 143), (3, .int X3)]) (Ps := [.int V_1295, .int V_1300]) (rest := []) hq (z_at.mk 3 rfl rfl) (Or.inl ⟨rfl, rfl⟩) rfl rfl (by decide) (by decide) rfl (Nat.not_lt.mpr (Nat.le_of_ble_eq_true rfl)) rfl rfl (z_cat_le 0 rfl (by decide)) (z_lgl_le 3 rfl (by decide)) (by decide) (H_1286.tg rfl) (by omega) (g_m_lay_ok hV_1295 hV_1300 H_1286 h_1301) rfl rfl ?_
        intro R_1301 m_1301 p_1301 e_1301 hR_1301 H_1301
        subst e_1301
        refine r_p hq 2 (pc' := 1367) (L' := [(0, .ref 0), (1, .ref 39), (2, .ref 143), (3, .int X3)]) (st' := []) rfl ?_
        exact g_jRangeAnswersLaw_law_L1367_ok hxl ih hx3 H_1301 h
      rcases z_ite h with ⟨c_33_34, h⟩ | ⟨c_33_34, h⟩
      · refine r_sw (off := 1275) (pc' := 1308) (L' := [(0, .ref 0), (1, .ref 39), (2, .ref 143), (3, .int X3)]) hq (z_at.mk 163 rfl rfl) (z_off_v ((tx_iand hV_29 (rfl : (63 : Int32).toInt = 63)).trans c_33_34) rfl) rfl rfl rfl ?_
        refine r_p hq 5 (pc' := 1313) (L' := [(0, .ref 0), (1, .ref 39), (2, .ref 143), (3, .int X3)]) (st' := [.int (X3 + ((1 : Int32))), .ref 0, .ref 39]) rfl ?_
        obtain ⟨g_1313, h⟩ := z_ifo_some h
        refine r_iaS (pc' := 1314) (L' := [(0, .ref 0), (1, .ref 39), (2, .ref 143), (3, .int X3)]) H hq (z_at.mk 1 rfl rfl) (tx_iadd hx3 (rfl : (1 : Int32).toInt = 1)) g_1313 rfl rfl ?_
        intro V_1313 hV_1313
        refine r_p hq 4 (pc' := 1318) (L' := [(0, .ref 0), (1, .ref 39), (2, .ref 143), (3, .int X3)]) (st' := [.int (X3 + ((2 : Int32))), .ref 0, .int V_1313, .ref 39]) rfl ?_
        obtain ⟨g_1318, h⟩ := z_ifo_some h
        refine r_iaS (pc' := 1319) (L' := [(0, .ref 0), (1, .ref 39), (2, .ref 143), (3, .int X3)]) H hq (z_at.mk 1 rfl rfl) (tx_iadd hx3 (rfl : (2 : Int32).toInt = 2)) g_1318 rfl rfl ?_
        intro V_1318 hV_1318
        obtain ⟨o_1319, h_1319, h⟩ := Option.bind_eq_some_iff.mp h
        refine r_cvI (pc' := 1322) (L' := [(0, .ref 0), (1, .ref 39), (2, .ref 143), (3, .int X3)]) (Ps := [.int V_1313, .int V_1318]) (rest := []) hq (z_at.mk 3 rfl rfl) (Or.inl ⟨rfl, rfl⟩) rfl rfl (by decide) (by decide) rfl (Nat.not_lt.mpr (Nat.le_of_ble_eq_true rfl)) rfl rfl (z_cat_le 0 rfl (by decide)) (z_lgl_le 3 rfl (by decide)) (by decide) (H.tg rfl) (by omega) (g_c_judge_ok hV_1313 hV_1318 H h_1319) rfl rfl ?_
        intro R_1319 m_1319 p_1319 e_1319 hR_1319 H_1319
        subst e_1319
        refine r_p hq 6 (pc' := 1328) (L' := [(0, .ref 0), (1, .ref 39), (2, .ref 143), (3, .int X3)]) (st' := [.int (X3 + ((1 : Int32))), .ref 0, .ref 143]) rfl ?_
        obtain ⟨g_1328, h⟩ := z_ifo_some h
        refine r_iaS (pc' := 1329) (L' := [(0, .ref 0), (1, .ref 39), (2, .ref 143), (3, .int X3)]) H_1319 hq (z_at.mk 1 rfl rfl) (tx_iadd hx3 (rfl : (1 : Int32).toInt = 1)) g_1328 rfl rfl ?_
        intro V_1328 hV_1328
        refine r_p hq 4 (pc' := 1333) (L' := [(0, .ref 0), (1, .ref 39), (2, .ref 143), (3, .int X3)]) (st' := [.int (X3 + ((2 : Int32))), .ref 0, .int V_1328, .ref 143]) rfl ?_
        obtain ⟨g_1333, h⟩ := z_ifo_some h
        refine r_iaS (pc' := 1334) (L' := [(0, .ref 0), (1, .ref 39), (2, .ref 143), (3, .int X3)]) H_1319 hq (z_at.mk 1 rfl rfl) (tx_iadd hx3 (rfl : (2 : Int32).toInt = 2)) g_1333 rfl rfl ?_
        intro V_1333 hV_1333
        obtain ⟨o_1334, h_1334, h⟩ := Option.bind_eq_some_iff.mp h
        refine r_cvI (pc' := 1337) (L' := [(0, .ref 0), (1, .ref 39), (2, .ref 143), (3, .int X3)]) (Ps := [.int V_1328, .int V_1333]) (rest := []) hq (z_at.mk 3 rfl rfl) (Or.inl ⟨rfl, rfl⟩) rfl rfl (by decide) (by decide) rfl (Nat.not_lt.mpr (Nat.le_of_ble_eq_true rfl)) rfl rfl (z_cat_le 0 rfl (by decide)) (z_lgl_le 3 rfl (by decide)) (by decide) (H_1319.tg rfl) (by omega) (g_m_judge_ok hV_1328 hV_1333 H_1319 h_1334) rfl rfl ?_
        intro R_1334 m_1334 p_1334 e_1334 hR_1334 H_1334
        subst e_1334
        refine r_p hq 2 (pc' := 1367) (L' := [(0, .ref 0), (1, .ref 39), (2, .ref 143), (3, .int X3)]) (st' := []) rfl ?_
        exact g_jRangeAnswersLaw_law_L1367_ok hxl ih hx3 H_1334 h
      rcases z_ite h with ⟨c_33_35, h⟩ | ⟨c_33_35, h⟩
      · refine r_sw (off := 1308) (pc' := 1341) (L' := [(0, .ref 0), (1, .ref 39), (2, .ref 143), (3, .int X3)]) hq (z_at.mk 163 rfl rfl) (z_off_v ((tx_iand hV_29 (rfl : (63 : Int32).toInt = 63)).trans c_33_35) rfl) rfl rfl rfl ?_
        refine r_p hq 1 (pc' := 1342) (L' := [(0, .ref 0), (1, .ref 39), (2, .ref 143), (3, .int X3)]) (st' := [.ref 39]) rfl ?_
        obtain ⟨o_1342, h_1342, h⟩ := Option.bind_eq_some_iff.mp h
        refine r_cvI (pc' := 1345) (L' := [(0, .ref 0), (1, .ref 39), (2, .ref 143), (3, .int X3)]) (Ps := []) (rest := []) hq (z_at.mk 3 rfl rfl) (Or.inl ⟨rfl, rfl⟩) rfl rfl (by decide) (by decide) rfl (Nat.not_lt.mpr (Nat.le_of_ble_eq_true rfl)) rfl rfl (z_cat_le 0 rfl (by decide)) (z_lgl_le 1 rfl (by decide)) (by decide) (H.tg rfl) (by omega) (g_c_image_ok H h_1342) rfl rfl ?_
        intro R_1342 m_1342 p_1342 e_1342 hR_1342 H_1342
        subst e_1342
        refine r_p hq 2 (pc' := 1347) (L' := [(0, .ref 0), (1, .ref 39), (2, .ref 143), (3, .int X3)]) (st' := [.ref 143]) rfl ?_
        obtain ⟨o_1347, h_1347, h⟩ := Option.bind_eq_some_iff.mp h
        refine r_cvI (pc' := 1350) (L' := [(0, .ref 0), (1, .ref 39), (2, .ref 143), (3, .int X3)]) (Ps := []) (rest := []) hq (z_at.mk 3 rfl rfl) (Or.inl ⟨rfl, rfl⟩) rfl rfl (by decide) (by decide) rfl (Nat.not_lt.mpr (Nat.le_of_ble_eq_true rfl)) rfl rfl (z_cat_le 0 rfl (by decide)) (z_lgl_le 1 rfl (by decide)) (by decide) (H_1342.tg rfl) (by omega) (g_m_image_ok H_1342 h_1347) rfl rfl ?_
        intro R_1347 m_1347 p_1347 e_1347 hR_1347 H_1347
        subst e_1347
        refine r_p hq 2 (pc' := 1367) (L' := [(0, .ref 0), (1, .ref 39), (2, .ref 143), (3, .int X3)]) (st' := []) rfl ?_
        exact g_jRangeAnswersLaw_law_L1367_ok hxl ih hx3 H_1347 h
      rcases z_ite h with ⟨c_33_36, h⟩ | ⟨c_33_36, h⟩
      · refine r_sw (off := 1321) (pc' := 1354) (L' := [(0, .ref 0), (1, .ref 39), (2, .ref 143), (3, .int X3)]) hq (z_at.mk 163 rfl rfl) (z_off_v ((tx_iand hV_29 (rfl : (63 : Int32).toInt = 63)).trans c_33_36) rfl) rfl rfl rfl ?_
        refine r_p hq 1 (pc' := 1355) (L' := [(0, .ref 0), (1, .ref 39), (2, .ref 143), (3, .int X3)]) (st' := [.ref 39]) rfl ?_
        obtain ⟨o_1355, h_1355, h⟩ := Option.bind_eq_some_iff.mp h
        refine r_cvI (pc' := 1358) (L' := [(0, .ref 0), (1, .ref 39), (2, .ref 143), (3, .int X3)]) (Ps := []) (rest := []) hq (z_at.mk 3 rfl rfl) (Or.inl ⟨rfl, rfl⟩) rfl rfl (by decide) (by decide) rfl (Nat.not_lt.mpr (Nat.le_of_ble_eq_true rfl)) rfl rfl (z_cat_le 0 rfl (by decide)) (z_lgl_le 1 rfl (by decide)) (by decide) (H.tg rfl) (by omega) (g_c_undo_ok H h_1355) rfl rfl ?_
        intro R_1355 m_1355 p_1355 e_1355 hR_1355 H_1355
        subst e_1355
        refine r_p hq 2 (pc' := 1360) (L' := [(0, .ref 0), (1, .ref 39), (2, .ref 143), (3, .int X3)]) (st' := [.ref 143]) rfl ?_
        obtain ⟨o_1360, h_1360, h⟩ := Option.bind_eq_some_iff.mp h
        refine r_cvI (pc' := 1363) (L' := [(0, .ref 0), (1, .ref 39), (2, .ref 143), (3, .int X3)]) (Ps := []) (rest := []) hq (z_at.mk 3 rfl rfl) (Or.inl ⟨rfl, rfl⟩) rfl rfl (by decide) (by decide) rfl (Nat.not_lt.mpr (Nat.le_of_ble_eq_true rfl)) rfl rfl (z_cat_le 0 rfl (by decide)) (z_lgl_le 1 rfl (by decide)) (by decide) (H_1355.tg rfl) (by omega) (g_m_undo_ok H_1355 h_1360) rfl rfl ?_
        intro R_1360 m_1360 p_1360 e_1360 hR_1360 H_1360
        subst e_1360
        refine r_p hq 2 (pc' := 1367) (L' := [(0, .ref 0), (1, .ref 39), (2, .ref 143), (3, .int X3)]) (st' := []) rfl ?_
        exact g_jRangeAnswersLaw_law_L1367_ok hxl ih hx3 H_1360 h
      have hx_33 := (tx_iand hV_29 (rfl : (63 : Int32).toInt = 63))
      rw [show (63 : Int32).toInt = 63 from rfl] at hx_33
      refine r_sw (off := 1334) (pc' := 1367) (L' := [(0, .ref 0), (1, .ref 39), (2, .ref 143), (3, .int X3)]) hq (z_at.mk 163 rfl rfl) (z_off_out (by omega)) rfl rfl rfl ?_
      exact g_jRangeAnswersLaw_law_L1367_ok hxl ih hx3 H h
