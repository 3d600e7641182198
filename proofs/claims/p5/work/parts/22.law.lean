/-! THE LAW over the typed memory, from its loop on (by wip/zg.py) -/
def g_jRangeAnswersLaw_law_L1368 (xl : Nat) (xs : Nat → Int32) (g18 : Int → zS → Option (Int × zS)) (x3 : Int) (σ : zS) : Option (Int × zS) :=
  g18 (w32 (x3 + 6)) σ
set_option maxHeartbeats 4000000 in
theorem g_jRangeAnswersLaw_law_L1368_ok {xl : Nat} {xs : Nat → Int32} (hxl : xl < 2147483648) {g18 : Int → zS → Option (Int × zS)} (hg18 : ∀ {X3 : Int32} {x3 : Int} {σ : zS} {p : Nat} {m : zM} {o : Int × zS}, X3.toInt = x3 → zRep xl xs p m σ → g18 x3 σ = some o → zGo xl xs (fun _ => True) 510 1000 18 [(0, .ref 0), (1, .ref 39), (2, .ref 143), (3, .int X3)] [] m (vI o.1) o.2) {X3 : Int32} {x3 : Int} (hx3 : X3.toInt = x3) {σ : zS} {p : Nat} {m : zM} {o : Int × zS} (H : zRep xl xs p m σ) (h : g_jRangeAnswersLaw_law_L1368 xl xs g18 x3 σ = some o) : zGo xl xs (fun _ => True) 510 1000 1368 [(0, .ref 0), (1, .ref 39), (2, .ref 143), (3, .int X3)] [] m (vI o.1) o.2 := by
  have hq : z_mth 1000 = some z_rL := rfl
  unfold g_jRangeAnswersLaw_law_L1368 at h
  refine r_p hq 2 (pc' := 18) (L' := [(0, .ref 0), (1, .ref 39), (2, .ref 143), (3, .int (X3 + (6 : Int32)))]) (st' := []) rfl ?_
  exact hg18 (tx_iadd hx3 (rfl : (6 : Int32).toInt = 6)) H h
def g_jRangeAnswersLaw_law_L18 (xl : Nat) (xs : Nat → Int32) : Nat → Int → zS → Option (Int × zS)
  | 0, _, _ => none
  | n + 1, x3, σ =>
    if w32 (((xl : Int)) - 6) < x3 then
      some (1, σ)
    else
      if 0 ≤ x3 ∧ x3 < (xl : Int) then
      let v_29 := (xs (x3).toNat).toInt
      if iAnd v_29 63 = 0 then
        if 0 ≤ w32 (x3 + 1) ∧ w32 (x3 + 1) < (xl : Int) then
        let v_201 := (xs (w32 (x3 + 1)).toNat).toInt
        if 0 ≤ w32 (x3 + 2) ∧ w32 (x3 + 2) < (xl : Int) then
        let v_206 := (xs (w32 (x3 + 2)).toNat).toInt
        if 0 ≤ w32 (x3 + 3) ∧ w32 (x3 + 3) < (xl : Int) then
        let v_211 := (xs (w32 (x3 + 3)).toNat).toInt
        if 0 ≤ w32 (x3 + 4) ∧ w32 (x3 + 4) < (xl : Int) then
        let v_216 := (xs (w32 (x3 + 4)).toNat).toInt
        if 0 ≤ w32 (x3 + 5) ∧ w32 (x3 + 5) < (xl : Int) then
        let v_225 := (xs (w32 (x3 + 5)).toNat).toInt
        (g_c_put v_201 v_206 v_211 (lOr (lShl v_216 32) (lAnd v_225 4294967295)) σ).bind fun o_232 =>
        if 0 ≤ w32 (x3 + 1) ∧ w32 (x3 + 1) < (xl : Int) then
        let v_241 := (xs (w32 (x3 + 1)).toNat).toInt
        if 0 ≤ w32 (x3 + 2) ∧ w32 (x3 + 2) < (xl : Int) then
        let v_246 := (xs (w32 (x3 + 2)).toNat).toInt
        if 0 ≤ w32 (x3 + 3) ∧ w32 (x3 + 3) < (xl : Int) then
        let v_251 := (xs (w32 (x3 + 3)).toNat).toInt
        if 0 ≤ w32 (x3 + 4) ∧ w32 (x3 + 4) < (xl : Int) then
        let v_256 := (xs (w32 (x3 + 4)).toNat).toInt
        if 0 ≤ w32 (x3 + 5) ∧ w32 (x3 + 5) < (xl : Int) then
        let v_265 := (xs (w32 (x3 + 5)).toNat).toInt
        (g_m_put v_241 v_246 v_251 (lOr (lShl v_256 32) (lAnd v_265 4294967295)) o_232.2).bind fun o_272 =>
        g_jRangeAnswersLaw_law_L1368 xl xs ((g_jRangeAnswersLaw_law_L18 xl xs n)) x3 o_272.2
        else none
        else none
        else none
        else none
        else none
        else none
        else none
        else none
        else none
        else none
      else
      if iAnd v_29 63 = 1 then
        if 0 ≤ w32 (x3 + 1) ∧ w32 (x3 + 1) < (xl : Int) then
        let v_284 := (xs (w32 (x3 + 1)).toNat).toInt
        (g_c_take v_284 σ).bind fun o_285 =>
        if 0 ≤ w32 (x3 + 1) ∧ w32 (x3 + 1) < (xl : Int) then
        let v_294 := (xs (w32 (x3 + 1)).toNat).toInt
        (g_m_take v_294 o_285.2).bind fun o_295 =>
        g_jRangeAnswersLaw_law_L1368 xl xs ((g_jRangeAnswersLaw_law_L18 xl xs n)) x3 o_295.2
        else none
        else none
      else
      if iAnd v_29 63 = 2 then
        if 0 ≤ w32 (x3 + 1) ∧ w32 (x3 + 1) < (xl : Int) then
        let v_307 := (xs (w32 (x3 + 1)).toNat).toInt
        if 0 ≤ w32 (x3 + 2) ∧ w32 (x3 + 2) < (xl : Int) then
        let v_312 := (xs (w32 (x3 + 2)).toNat).toInt
        (g_c_row v_307 v_312 σ).bind fun o_313 =>
        if 0 ≤ w32 (x3 + 1) ∧ w32 (x3 + 1) < (xl : Int) then
        let v_322 := (xs (w32 (x3 + 1)).toNat).toInt
        if 0 ≤ w32 (x3 + 2) ∧ w32 (x3 + 2) < (xl : Int) then
        let v_327 := (xs (w32 (x3 + 2)).toNat).toInt
        (g_m_row v_322 v_327 o_313.2).bind fun o_328 =>
        g_jRangeAnswersLaw_law_L1368 xl xs ((g_jRangeAnswersLaw_law_L18 xl xs n)) x3 o_328.2
        else none
        else none
        else none
        else none
      else
      if iAnd v_29 63 = 3 then
        if 0 ≤ w32 (x3 + 1) ∧ w32 (x3 + 1) < (xl : Int) then
        let v_340 := (xs (w32 (x3 + 1)).toNat).toInt
        (g_c_worth v_340 σ).bind fun o_341 =>
        if 0 ≤ w32 (x3 + 1) ∧ w32 (x3 + 1) < (xl : Int) then
        let v_349 := (xs (w32 (x3 + 1)).toNat).toInt
        (g_m_worth v_349 o_341.2).bind fun o_350 =>
        if lCmp o_341.1 o_350.1 = 0 then
          g_jRangeAnswersLaw_law_L1368 xl xs ((g_jRangeAnswersLaw_law_L18 xl xs n)) x3 o_350.2
        else
          some (0, o_350.2)
        else none
        else none
      else
      if iAnd v_29 63 = 4 then
        if 0 ≤ w32 (x3 + 1) ∧ w32 (x3 + 1) < (xl : Int) then
        let v_364 := (xs (w32 (x3 + 1)).toNat).toInt
        (g_c_feed v_364 σ).bind fun o_365 =>
        if 0 ≤ w32 (x3 + 1) ∧ w32 (x3 + 1) < (xl : Int) then
        let v_374 := (xs (w32 (x3 + 1)).toNat).toInt
        (g_m_feed v_374 o_365.2).bind fun o_375 =>
        g_jRangeAnswersLaw_law_L1368 xl xs ((g_jRangeAnswersLaw_law_L18 xl xs n)) x3 o_375.2
        else none
        else none
      else
      if iAnd v_29 63 = 5 then
        (g_c_clear σ).bind fun o_383 =>
        (g_m_clear o_383.2).bind fun o_388 =>
        g_jRangeAnswersLaw_law_L1368 xl xs ((g_jRangeAnswersLaw_law_L18 xl xs n)) x3 o_388.2
      else
      if iAnd v_29 63 = 6 then
        (g_c_settings σ).bind fun o_396 =>
        (g_m_settings o_396.2).bind fun o_401 =>
        g_jRangeAnswersLaw_law_L1368 xl xs ((g_jRangeAnswersLaw_law_L18 xl xs n)) x3 o_401.2
      else
      if iAnd v_29 63 = 7 then
        if 0 ≤ w32 (x3 + 1) ∧ w32 (x3 + 1) < (xl : Int) then
        let v_413 := (xs (w32 (x3 + 1)).toNat).toInt
        (g_c_setting v_413 σ).bind fun o_414 =>
        if 0 ≤ w32 (x3 + 1) ∧ w32 (x3 + 1) < (xl : Int) then
        let v_423 := (xs (w32 (x3 + 1)).toNat).toInt
        (g_m_setting v_423 o_414.2).bind fun o_424 =>
        g_jRangeAnswersLaw_law_L1368 xl xs ((g_jRangeAnswersLaw_law_L18 xl xs n)) x3 o_424.2
        else none
        else none
      else
      if iAnd v_29 63 = 8 then
        (g_c_run σ).bind fun o_432 =>
        (g_m_run o_432.2).bind fun o_437 =>
        g_jRangeAnswersLaw_law_L1368 xl xs ((g_jRangeAnswersLaw_law_L18 xl xs n)) x3 o_437.2
      else
      if iAnd v_29 63 = 9 then
        if 0 ≤ w32 (x3 + 1) ∧ w32 (x3 + 1) < (xl : Int) then
        let v_449 := (xs (w32 (x3 + 1)).toNat).toInt
        (g_c_answer v_449 σ).bind fun o_450 =>
        if 0 ≤ w32 (x3 + 1) ∧ w32 (x3 + 1) < (xl : Int) then
        let v_459 := (xs (w32 (x3 + 1)).toNat).toInt
        (g_m_answer v_459 o_450.2).bind fun o_460 =>
        g_jRangeAnswersLaw_law_L1368 xl xs ((g_jRangeAnswersLaw_law_L18 xl xs n)) x3 o_460.2
        else none
        else none
      else
      if iAnd v_29 63 = 10 then
        (g_c_spell σ).bind fun o_468 =>
        (g_m_spell o_468.2).bind fun o_473 =>
        g_jRangeAnswersLaw_law_L1368 xl xs ((g_jRangeAnswersLaw_law_L18 xl xs n)) x3 o_473.2
      else
      if iAnd v_29 63 = 11 then
        (g_c_load σ).bind fun o_481 =>
        (g_m_load o_481.2).bind fun o_486 =>
        g_jRangeAnswersLaw_law_L1368 xl xs ((g_jRangeAnswersLaw_law_L18 xl xs n)) x3 o_486.2
      else
      if iAnd v_29 63 = 12 then
        if 0 ≤ w32 (x3 + 1) ∧ w32 (x3 + 1) < (xl : Int) then
        let v_498 := (xs (w32 (x3 + 1)).toNat).toInt
        if 0 ≤ w32 (x3 + 2) ∧ w32 (x3 + 2) < (xl : Int) then
        let v_503 := (xs (w32 (x3 + 2)).toNat).toInt
        if 0 ≤ w32 (x3 + 3) ∧ w32 (x3 + 3) < (xl : Int) then
        let v_508 := (xs (w32 (x3 + 3)).toNat).toInt
        if 0 ≤ w32 (x3 + 4) ∧ w32 (x3 + 4) < (xl : Int) then
        let v_513 := (xs (w32 (x3 + 4)).toNat).toInt
        (g_c_explain v_498 v_503 v_508 v_513 σ).bind fun o_514 =>
        if 0 ≤ w32 (x3 + 1) ∧ w32 (x3 + 1) < (xl : Int) then
        let v_523 := (xs (w32 (x3 + 1)).toNat).toInt
        if 0 ≤ w32 (x3 + 2) ∧ w32 (x3 + 2) < (xl : Int) then
        let v_528 := (xs (w32 (x3 + 2)).toNat).toInt
        if 0 ≤ w32 (x3 + 3) ∧ w32 (x3 + 3) < (xl : Int) then
        let v_533 := (xs (w32 (x3 + 3)).toNat).toInt
        if 0 ≤ w32 (x3 + 4) ∧ w32 (x3 + 4) < (xl : Int) then
        let v_538 := (xs (w32 (x3 + 4)).toNat).toInt
        (g_m_explain v_523 v_528 v_533 v_538 o_514.2).bind fun o_539 =>
        g_jRangeAnswersLaw_law_L1368 xl xs ((g_jRangeAnswersLaw_law_L18 xl xs n)) x3 o_539.2
        else none
        else none
        else none
        else none
        else none
        else none
        else none
        else none
      else
      if iAnd v_29 63 = 13 then
        if 0 ≤ w32 (x3 + 1) ∧ w32 (x3 + 1) < (xl : Int) then
        let v_551 := (xs (w32 (x3 + 1)).toNat).toInt
        (g_c_paper v_551 σ).bind fun o_552 =>
        if 0 ≤ w32 (x3 + 1) ∧ w32 (x3 + 1) < (xl : Int) then
        let v_561 := (xs (w32 (x3 + 1)).toNat).toInt
        (g_m_paper v_561 o_552.2).bind fun o_562 =>
        g_jRangeAnswersLaw_law_L1368 xl xs ((g_jRangeAnswersLaw_law_L18 xl xs n)) x3 o_562.2
        else none
        else none
      else
      if iAnd v_29 63 = 14 then
        if 0 ≤ w32 (x3 + 1) ∧ w32 (x3 + 1) < (xl : Int) then
        let v_574 := (xs (w32 (x3 + 1)).toNat).toInt
        if 0 ≤ w32 (x3 + 2) ∧ w32 (x3 + 2) < (xl : Int) then
        let v_579 := (xs (w32 (x3 + 2)).toNat).toInt
        if 0 ≤ w32 (x3 + 3) ∧ w32 (x3 + 3) < (xl : Int) then
        let v_584 := (xs (w32 (x3 + 3)).toNat).toInt
        if 0 ≤ w32 (x3 + 4) ∧ w32 (x3 + 4) < (xl : Int) then
        let v_589 := (xs (w32 (x3 + 4)).toNat).toInt
        if 0 ≤ w32 (x3 + 5) ∧ w32 (x3 + 5) < (xl : Int) then
        let v_594 := (xs (w32 (x3 + 5)).toNat).toInt
        (g_c_query v_574 v_579 v_584 v_589 v_594 σ).bind fun o_595 =>
        if 0 ≤ w32 (x3 + 1) ∧ w32 (x3 + 1) < (xl : Int) then
        let v_604 := (xs (w32 (x3 + 1)).toNat).toInt
        if 0 ≤ w32 (x3 + 2) ∧ w32 (x3 + 2) < (xl : Int) then
        let v_609 := (xs (w32 (x3 + 2)).toNat).toInt
        if 0 ≤ w32 (x3 + 3) ∧ w32 (x3 + 3) < (xl : Int) then
        let v_614 := (xs (w32 (x3 + 3)).toNat).toInt
        if 0 ≤ w32 (x3 + 4) ∧ w32 (x3 + 4) < (xl : Int) then
        let v_619 := (xs (w32 (x3 + 4)).toNat).toInt
        if 0 ≤ w32 (x3 + 5) ∧ w32 (x3 + 5) < (xl : Int) then
        let v_624 := (xs (w32 (x3 + 5)).toNat).toInt
        (g_m_query v_604 v_609 v_614 v_619 v_624 o_595.2).bind fun o_625 =>
        g_jRangeAnswersLaw_law_L1368 xl xs ((g_jRangeAnswersLaw_law_L18 xl xs n)) x3 o_625.2
        else none
        else none
        else none
        else none
        else none
        else none
        else none
        else none
        else none
        else none
      else
      if iAnd v_29 63 = 15 then
        if 0 ≤ w32 (x3 + 1) ∧ w32 (x3 + 1) < (xl : Int) then
        let v_637 := (xs (w32 (x3 + 1)).toNat).toInt
        (g_c_find v_637 σ).bind fun o_638 =>
        if 0 ≤ w32 (x3 + 1) ∧ w32 (x3 + 1) < (xl : Int) then
        let v_647 := (xs (w32 (x3 + 1)).toNat).toInt
        (g_m_find v_647 o_638.2).bind fun o_648 =>
        g_jRangeAnswersLaw_law_L1368 xl xs ((g_jRangeAnswersLaw_law_L18 xl xs n)) x3 o_648.2
        else none
        else none
      else
      if iAnd v_29 63 = 16 then
        if 0 ≤ w32 (x3 + 1) ∧ w32 (x3 + 1) < (xl : Int) then
        let v_660 := (xs (w32 (x3 + 1)).toNat).toInt
        if 0 ≤ w32 (x3 + 2) ∧ w32 (x3 + 2) < (xl : Int) then
        let v_665 := (xs (w32 (x3 + 2)).toNat).toInt
        if 0 ≤ w32 (x3 + 3) ∧ w32 (x3 + 3) < (xl : Int) then
        let v_670 := (xs (w32 (x3 + 3)).toNat).toInt
        if 0 ≤ w32 (x3 + 4) ∧ w32 (x3 + 4) < (xl : Int) then
        let v_675 := (xs (w32 (x3 + 4)).toNat).toInt
        (g_c_probe v_660 v_665 v_670 v_675 σ).bind fun o_676 =>
        if 0 ≤ w32 (x3 + 1) ∧ w32 (x3 + 1) < (xl : Int) then
        let v_685 := (xs (w32 (x3 + 1)).toNat).toInt
        if 0 ≤ w32 (x3 + 2) ∧ w32 (x3 + 2) < (xl : Int) then
        let v_690 := (xs (w32 (x3 + 2)).toNat).toInt
        if 0 ≤ w32 (x3 + 3) ∧ w32 (x3 + 3) < (xl : Int) then
        let v_695 := (xs (w32 (x3 + 3)).toNat).toInt
        if 0 ≤ w32 (x3 + 4) ∧ w32 (x3 + 4) < (xl : Int) then
        let v_700 := (xs (w32 (x3 + 4)).toNat).toInt
        (g_m_probe v_685 v_690 v_695 v_700 o_676.2).bind fun o_701 =>
        g_jRangeAnswersLaw_law_L1368 xl xs ((g_jRangeAnswersLaw_law_L18 xl xs n)) x3 o_701.2
        else none
        else none
        else none
        else none
        else none
        else none
        else none
        else none
      else
      if iAnd v_29 63 = 17 then
        if 0 ≤ w32 (x3 + 1) ∧ w32 (x3 + 1) < (xl : Int) then
        let v_713 := (xs (w32 (x3 + 1)).toNat).toInt
        if 0 ≤ w32 (x3 + 2) ∧ w32 (x3 + 2) < (xl : Int) then
        let v_718 := (xs (w32 (x3 + 2)).toNat).toInt
        (g_c_piece v_713 v_718 σ).bind fun o_719 =>
        if 0 ≤ w32 (x3 + 1) ∧ w32 (x3 + 1) < (xl : Int) then
        let v_728 := (xs (w32 (x3 + 1)).toNat).toInt
        if 0 ≤ w32 (x3 + 2) ∧ w32 (x3 + 2) < (xl : Int) then
        let v_733 := (xs (w32 (x3 + 2)).toNat).toInt
        (g_m_piece v_728 v_733 o_719.2).bind fun o_734 =>
        g_jRangeAnswersLaw_law_L1368 xl xs ((g_jRangeAnswersLaw_law_L18 xl xs n)) x3 o_734.2
        else none
        else none
        else none
        else none
      else
      if iAnd v_29 63 = 18 then
        if 0 ≤ w32 (x3 + 1) ∧ w32 (x3 + 1) < (xl : Int) then
        let v_746 := (xs (w32 (x3 + 1)).toNat).toInt
        if 0 ≤ w32 (x3 + 2) ∧ w32 (x3 + 2) < (xl : Int) then
        let v_751 := (xs (w32 (x3 + 2)).toNat).toInt
        (g_c_region v_746 v_751 σ).bind fun o_752 =>
        if 0 ≤ w32 (x3 + 1) ∧ w32 (x3 + 1) < (xl : Int) then
        let v_761 := (xs (w32 (x3 + 1)).toNat).toInt
        if 0 ≤ w32 (x3 + 2) ∧ w32 (x3 + 2) < (xl : Int) then
        let v_766 := (xs (w32 (x3 + 2)).toNat).toInt
        (g_m_region_248 v_761 v_766 o_752.2).bind fun o_767 =>
        g_jRangeAnswersLaw_law_L1368 xl xs ((g_jRangeAnswersLaw_law_L18 xl xs n)) x3 o_767.2
        else none
        else none
        else none
        else none
      else
      if iAnd v_29 63 = 19 then
        if 0 ≤ w32 (x3 + 1) ∧ w32 (x3 + 1) < (xl : Int) then
        let v_779 := (xs (w32 (x3 + 1)).toNat).toInt
        (g_c_weight v_779 σ).bind fun o_780 =>
        if 0 ≤ w32 (x3 + 1) ∧ w32 (x3 + 1) < (xl : Int) then
        let v_789 := (xs (w32 (x3 + 1)).toNat).toInt
        (g_m_weight v_789 o_780.2).bind fun o_790 =>
        g_jRangeAnswersLaw_law_L1368 xl xs ((g_jRangeAnswersLaw_law_L18 xl xs n)) x3 o_790.2
        else none
        else none
      else
      if iAnd v_29 63 = 20 then
        if 0 ≤ w32 (x3 + 1) ∧ w32 (x3 + 1) < (xl : Int) then
        let v_802 := (xs (w32 (x3 + 1)).toNat).toInt
        (g_c_told v_802 σ).bind fun o_803 =>
        if 0 ≤ w32 (x3 + 1) ∧ w32 (x3 + 1) < (xl : Int) then
        let v_812 := (xs (w32 (x3 + 1)).toNat).toInt
        (g_m_told v_812 o_803.2).bind fun o_813 =>
        g_jRangeAnswersLaw_law_L1368 xl xs ((g_jRangeAnswersLaw_law_L18 xl xs n)) x3 o_813.2
        else none
        else none
      else
      if iAnd v_29 63 = 21 then
        (g_c_flush σ).bind fun o_821 =>
        (g_m_flush o_821.2).bind fun o_826 =>
        g_jRangeAnswersLaw_law_L1368 xl xs ((g_jRangeAnswersLaw_law_L18 xl xs n)) x3 o_826.2
      else
      if iAnd v_29 63 = 22 then
        if 0 ≤ w32 (x3 + 1) ∧ w32 (x3 + 1) < (xl : Int) then
        let v_838 := (xs (w32 (x3 + 1)).toNat).toInt
        (g_c_keep v_838 σ).bind fun o_839 =>
        if 0 ≤ w32 (x3 + 1) ∧ w32 (x3 + 1) < (xl : Int) then
        let v_848 := (xs (w32 (x3 + 1)).toNat).toInt
        (g_m_keep v_848 o_839.2).bind fun o_849 =>
        g_jRangeAnswersLaw_law_L1368 xl xs ((g_jRangeAnswersLaw_law_L18 xl xs n)) x3 o_849.2
        else none
        else none
      else
      if iAnd v_29 63 = 23 then
        if 0 ≤ w32 (x3 + 1) ∧ w32 (x3 + 1) < (xl : Int) then
        let v_861 := (xs (w32 (x3 + 1)).toNat).toInt
        if 0 ≤ w32 (x3 + 2) ∧ w32 (x3 + 2) < (xl : Int) then
        let v_866 := (xs (w32 (x3 + 2)).toNat).toInt
        if 0 ≤ w32 (x3 + 3) ∧ w32 (x3 + 3) < (xl : Int) then
        let v_871 := (xs (w32 (x3 + 3)).toNat).toInt
        if 0 ≤ w32 (x3 + 4) ∧ w32 (x3 + 4) < (xl : Int) then
        let v_876 := (xs (w32 (x3 + 4)).toNat).toInt
        (g_c_trace v_861 v_866 v_871 v_876 σ).bind fun o_877 =>
        if 0 ≤ w32 (x3 + 1) ∧ w32 (x3 + 1) < (xl : Int) then
        let v_886 := (xs (w32 (x3 + 1)).toNat).toInt
        if 0 ≤ w32 (x3 + 2) ∧ w32 (x3 + 2) < (xl : Int) then
        let v_891 := (xs (w32 (x3 + 2)).toNat).toInt
        if 0 ≤ w32 (x3 + 3) ∧ w32 (x3 + 3) < (xl : Int) then
        let v_896 := (xs (w32 (x3 + 3)).toNat).toInt
        if 0 ≤ w32 (x3 + 4) ∧ w32 (x3 + 4) < (xl : Int) then
        let v_901 := (xs (w32 (x3 + 4)).toNat).toInt
        (g_m_trace v_886 v_891 v_896 v_901 o_877.2).bind fun o_902 =>
        g_jRangeAnswersLaw_law_L1368 xl xs ((g_jRangeAnswersLaw_law_L18 xl xs n)) x3 o_902.2
        else none
        else none
        else none
        else none
        else none
        else none
        else none
        else none
      else
      if iAnd v_29 63 = 24 then
        if 0 ≤ w32 (x3 + 1) ∧ w32 (x3 + 1) < (xl : Int) then
        let v_914 := (xs (w32 (x3 + 1)).toNat).toInt
        if 0 ≤ w32 (x3 + 2) ∧ w32 (x3 + 2) < (xl : Int) then
        let v_919 := (xs (w32 (x3 + 2)).toNat).toInt
        (g_c_again v_914 v_919 σ).bind fun o_920 =>
        if 0 ≤ w32 (x3 + 1) ∧ w32 (x3 + 1) < (xl : Int) then
        let v_929 := (xs (w32 (x3 + 1)).toNat).toInt
        if 0 ≤ w32 (x3 + 2) ∧ w32 (x3 + 2) < (xl : Int) then
        let v_934 := (xs (w32 (x3 + 2)).toNat).toInt
        (g_m_again v_929 v_934 o_920.2).bind fun o_935 =>
        g_jRangeAnswersLaw_law_L1368 xl xs ((g_jRangeAnswersLaw_law_L18 xl xs n)) x3 o_935.2
        else none
        else none
        else none
        else none
      else
      if iAnd v_29 63 = 25 then
        if 0 ≤ w32 (x3 + 1) ∧ w32 (x3 + 1) < (xl : Int) then
        let v_947 := (xs (w32 (x3 + 1)).toNat).toInt
        (g_c_least v_947 σ).bind fun o_948 =>
        if 0 ≤ w32 (x3 + 1) ∧ w32 (x3 + 1) < (xl : Int) then
        let v_957 := (xs (w32 (x3 + 1)).toNat).toInt
        (g_m_least v_957 o_948.2).bind fun o_958 =>
        g_jRangeAnswersLaw_law_L1368 xl xs ((g_jRangeAnswersLaw_law_L18 xl xs n)) x3 o_958.2
        else none
        else none
      else
      if iAnd v_29 63 = 26 then
        if 0 ≤ w32 (x3 + 1) ∧ w32 (x3 + 1) < (xl : Int) then
        let v_970 := (xs (w32 (x3 + 1)).toNat).toInt
        if 0 ≤ w32 (x3 + 2) ∧ w32 (x3 + 2) < (xl : Int) then
        let v_975 := (xs (w32 (x3 + 2)).toNat).toInt
        if 0 ≤ w32 (x3 + 3) ∧ w32 (x3 + 3) < (xl : Int) then
        let v_980 := (xs (w32 (x3 + 3)).toNat).toInt
        if 0 ≤ w32 (x3 + 4) ∧ w32 (x3 + 4) < (xl : Int) then
        let v_985 := (xs (w32 (x3 + 4)).toNat).toInt
        if 0 ≤ w32 (x3 + 5) ∧ w32 (x3 + 5) < (xl : Int) then
        let v_990 := (xs (w32 (x3 + 5)).toNat).toInt
        (g_c_watch v_970 v_975 v_980 v_985 v_990 σ).bind fun o_991 =>
        if 0 ≤ w32 (x3 + 1) ∧ w32 (x3 + 1) < (xl : Int) then
        let v_1000 := (xs (w32 (x3 + 1)).toNat).toInt
        if 0 ≤ w32 (x3 + 2) ∧ w32 (x3 + 2) < (xl : Int) then
        let v_1005 := (xs (w32 (x3 + 2)).toNat).toInt
        if 0 ≤ w32 (x3 + 3) ∧ w32 (x3 + 3) < (xl : Int) then
        let v_1010 := (xs (w32 (x3 + 3)).toNat).toInt
        if 0 ≤ w32 (x3 + 4) ∧ w32 (x3 + 4) < (xl : Int) then
        let v_1015 := (xs (w32 (x3 + 4)).toNat).toInt
        if 0 ≤ w32 (x3 + 5) ∧ w32 (x3 + 5) < (xl : Int) then
        let v_1020 := (xs (w32 (x3 + 5)).toNat).toInt
        (g_m_watch v_1000 v_1005 v_1010 v_1015 v_1020 o_991.2).bind fun o_1021 =>
        g_jRangeAnswersLaw_law_L1368 xl xs ((g_jRangeAnswersLaw_law_L18 xl xs n)) x3 o_1021.2
        else none
        else none
        else none
        else none
        else none
        else none
        else none
        else none
        else none
        else none
      else
      if iAnd v_29 63 = 27 then
        if 0 ≤ w32 (x3 + 1) ∧ w32 (x3 + 1) < (xl : Int) then
        let v_1033 := (xs (w32 (x3 + 1)).toNat).toInt
        (g_c_value v_1033 σ).bind fun o_1034 =>
        if 0 ≤ w32 (x3 + 1) ∧ w32 (x3 + 1) < (xl : Int) then
        let v_1043 := (xs (w32 (x3 + 1)).toNat).toInt
        (g_m_value v_1043 o_1034.2).bind fun o_1044 =>
        g_jRangeAnswersLaw_law_L1368 xl xs ((g_jRangeAnswersLaw_law_L18 xl xs n)) x3 o_1044.2
        else none
        else none
      else
      if iAnd v_29 63 = 28 then
        if 0 ≤ w32 (x3 + 1) ∧ w32 (x3 + 1) < (xl : Int) then
        let v_1056 := (xs (w32 (x3 + 1)).toNat).toInt
        (g_c_changes v_1056 σ).bind fun o_1057 =>
        if 0 ≤ w32 (x3 + 1) ∧ w32 (x3 + 1) < (xl : Int) then
        let v_1066 := (xs (w32 (x3 + 1)).toNat).toInt
        (g_m_changes v_1066 o_1057.2).bind fun o_1067 =>
        g_jRangeAnswersLaw_law_L1368 xl xs ((g_jRangeAnswersLaw_law_L18 xl xs n)) x3 o_1067.2
        else none
        else none
      else
      if iAnd v_29 63 = 29 then
        if 0 ≤ w32 (x3 + 1) ∧ w32 (x3 + 1) < (xl : Int) then
        let v_1079 := (xs (w32 (x3 + 1)).toNat).toInt
        if 0 ≤ w32 (x3 + 2) ∧ w32 (x3 + 2) < (xl : Int) then
        let v_1084 := (xs (w32 (x3 + 2)).toNat).toInt
        (g_c_list v_1079 v_1084 σ).bind fun o_1085 =>
        if 0 ≤ w32 (x3 + 1) ∧ w32 (x3 + 1) < (xl : Int) then
        let v_1094 := (xs (w32 (x3 + 1)).toNat).toInt
        if 0 ≤ w32 (x3 + 2) ∧ w32 (x3 + 2) < (xl : Int) then
        let v_1099 := (xs (w32 (x3 + 2)).toNat).toInt
        (g_m_list v_1094 v_1099 o_1085.2).bind fun o_1100 =>
        g_jRangeAnswersLaw_law_L1368 xl xs ((g_jRangeAnswersLaw_law_L18 xl xs n)) x3 o_1100.2
        else none
        else none
        else none
        else none
      else
      if iAnd v_29 63 = 30 then
        if 0 ≤ w32 (x3 + 1) ∧ w32 (x3 + 1) < (xl : Int) then
        let v_1112 := (xs (w32 (x3 + 1)).toNat).toInt
        if 0 ≤ w32 (x3 + 2) ∧ w32 (x3 + 2) < (xl : Int) then
        let v_1117 := (xs (w32 (x3 + 2)).toNat).toInt
        if 0 ≤ w32 (x3 + 3) ∧ w32 (x3 + 3) < (xl : Int) then
        let v_1122 := (xs (w32 (x3 + 3)).toNat).toInt
        if 0 ≤ w32 (x3 + 4) ∧ w32 (x3 + 4) < (xl : Int) then
        let v_1131 := (xs (w32 (x3 + 4)).toNat).toInt
        (g_c_set v_1112 v_1117 (lOr (lShl v_1122 32) (lAnd v_1131 4294967295)) σ).bind fun o_1138 =>
        if 0 ≤ w32 (x3 + 1) ∧ w32 (x3 + 1) < (xl : Int) then
        let v_1147 := (xs (w32 (x3 + 1)).toNat).toInt
        if 0 ≤ w32 (x3 + 2) ∧ w32 (x3 + 2) < (xl : Int) then
        let v_1152 := (xs (w32 (x3 + 2)).toNat).toInt
        if 0 ≤ w32 (x3 + 3) ∧ w32 (x3 + 3) < (xl : Int) then
        let v_1157 := (xs (w32 (x3 + 3)).toNat).toInt
        if 0 ≤ w32 (x3 + 4) ∧ w32 (x3 + 4) < (xl : Int) then
        let v_1166 := (xs (w32 (x3 + 4)).toNat).toInt
        (g_m_set v_1147 v_1152 (lOr (lShl v_1157 32) (lAnd v_1166 4294967295)) o_1138.2).bind fun o_1173 =>
        g_jRangeAnswersLaw_law_L1368 xl xs ((g_jRangeAnswersLaw_law_L18 xl xs n)) x3 o_1173.2
        else none
        else none
        else none
        else none
        else none
        else none
        else none
        else none
      else
      if iAnd v_29 63 = 31 then
        if 0 ≤ w32 (x3 + 1) ∧ w32 (x3 + 1) < (xl : Int) then
        let v_1185 := (xs (w32 (x3 + 1)).toNat).toInt
        if 0 ≤ w32 (x3 + 2) ∧ w32 (x3 + 2) < (xl : Int) then
        let v_1190 := (xs (w32 (x3 + 2)).toNat).toInt
        (g_c_get v_1185 v_1190 σ).bind fun o_1191 =>
        if 0 ≤ w32 (x3 + 1) ∧ w32 (x3 + 1) < (xl : Int) then
        let v_1200 := (xs (w32 (x3 + 1)).toNat).toInt
        if 0 ≤ w32 (x3 + 2) ∧ w32 (x3 + 2) < (xl : Int) then
        let v_1205 := (xs (w32 (x3 + 2)).toNat).toInt
        (g_m_get v_1200 v_1205 o_1191.2).bind fun o_1206 =>
        g_jRangeAnswersLaw_law_L1368 xl xs ((g_jRangeAnswersLaw_law_L18 xl xs n)) x3 o_1206.2
        else none
        else none
        else none
        else none
      else
      if iAnd v_29 63 = 32 then
        if 0 ≤ w32 (x3 + 1) ∧ w32 (x3 + 1) < (xl : Int) then
        let v_1218 := (xs (w32 (x3 + 1)).toNat).toInt
        if 0 ≤ w32 (x3 + 2) ∧ w32 (x3 + 2) < (xl : Int) then
        let v_1223 := (xs (w32 (x3 + 2)).toNat).toInt
        if 0 ≤ w32 (x3 + 3) ∧ w32 (x3 + 3) < (xl : Int) then
        let v_1228 := (xs (w32 (x3 + 3)).toNat).toInt
        if 0 ≤ w32 (x3 + 4) ∧ w32 (x3 + 4) < (xl : Int) then
        let v_1233 := (xs (w32 (x3 + 4)).toNat).toInt
        if 0 ≤ w32 (x3 + 5) ∧ w32 (x3 + 5) < (xl : Int) then
        let v_1238 := (xs (w32 (x3 + 5)).toNat).toInt
        (g_c_move v_1218 v_1223 v_1228 v_1233 v_1238 σ).bind fun o_1239 =>
        if 0 ≤ w32 (x3 + 1) ∧ w32 (x3 + 1) < (xl : Int) then
        let v_1248 := (xs (w32 (x3 + 1)).toNat).toInt
        if 0 ≤ w32 (x3 + 2) ∧ w32 (x3 + 2) < (xl : Int) then
        let v_1253 := (xs (w32 (x3 + 2)).toNat).toInt
        if 0 ≤ w32 (x3 + 3) ∧ w32 (x3 + 3) < (xl : Int) then
        let v_1258 := (xs (w32 (x3 + 3)).toNat).toInt
        if 0 ≤ w32 (x3 + 4) ∧ w32 (x3 + 4) < (xl : Int) then
        let v_1263 := (xs (w32 (x3 + 4)).toNat).toInt
        if 0 ≤ w32 (x3 + 5) ∧ w32 (x3 + 5) < (xl : Int) then
        let v_1268 := (xs (w32 (x3 + 5)).toNat).toInt
        (g_m_move v_1248 v_1253 v_1258 v_1263 v_1268 o_1239.2).bind fun o_1269 =>
        g_jRangeAnswersLaw_law_L1368 xl xs ((g_jRangeAnswersLaw_law_L18 xl xs n)) x3 o_1269.2
        else none
        else none
        else none
        else none
        else none
        else none
        else none
        else none
        else none
        else none
      else
      if iAnd v_29 63 = 33 then
        if 0 ≤ w32 (x3 + 1) ∧ w32 (x3 + 1) < (xl : Int) then
        let v_1281 := (xs (w32 (x3 + 1)).toNat).toInt
        if 0 ≤ w32 (x3 + 2) ∧ w32 (x3 + 2) < (xl : Int) then
        let v_1286 := (xs (w32 (x3 + 2)).toNat).toInt
        (g_c_lay v_1281 v_1286 σ).bind fun o_1287 =>
        if 0 ≤ w32 (x3 + 1) ∧ w32 (x3 + 1) < (xl : Int) then
        let v_1296 := (xs (w32 (x3 + 1)).toNat).toInt
        if 0 ≤ w32 (x3 + 2) ∧ w32 (x3 + 2) < (xl : Int) then
        let v_1301 := (xs (w32 (x3 + 2)).toNat).toInt
        (g_m_lay v_1296 v_1301 o_1287.2).bind fun o_1302 =>
        g_jRangeAnswersLaw_law_L1368 xl xs ((g_jRangeAnswersLaw_law_L18 xl xs n)) x3 o_1302.2
        else none
        else none
        else none
        else none
      else
      if iAnd v_29 63 = 34 then
        if 0 ≤ w32 (x3 + 1) ∧ w32 (x3 + 1) < (xl : Int) then
        let v_1314 := (xs (w32 (x3 + 1)).toNat).toInt
        if 0 ≤ w32 (x3 + 2) ∧ w32 (x3 + 2) < (xl : Int) then
        let v_1319 := (xs (w32 (x3 + 2)).toNat).toInt
        (g_c_judge v_1314 v_1319 σ).bind fun o_1320 =>
        if 0 ≤ w32 (x3 + 1) ∧ w32 (x3 + 1) < (xl : Int) then
        let v_1329 := (xs (w32 (x3 + 1)).toNat).toInt
        if 0 ≤ w32 (x3 + 2) ∧ w32 (x3 + 2) < (xl : Int) then
        let v_1334 := (xs (w32 (x3 + 2)).toNat).toInt
        (g_m_judge v_1329 v_1334 o_1320.2).bind fun o_1335 =>
        g_jRangeAnswersLaw_law_L1368 xl xs ((g_jRangeAnswersLaw_law_L18 xl xs n)) x3 o_1335.2
        else none
        else none
        else none
        else none
      else
      if iAnd v_29 63 = 35 then
        (g_c_image σ).bind fun o_1343 =>
        (g_m_image o_1343.2).bind fun o_1348 =>
        g_jRangeAnswersLaw_law_L1368 xl xs ((g_jRangeAnswersLaw_law_L18 xl xs n)) x3 o_1348.2
      else
      if iAnd v_29 63 = 36 then
        (g_c_undo σ).bind fun o_1356 =>
        (g_m_undo o_1356.2).bind fun o_1361 =>
        g_jRangeAnswersLaw_law_L1368 xl xs ((g_jRangeAnswersLaw_law_L18 xl xs n)) x3 o_1361.2
      else
      g_jRangeAnswersLaw_law_L1368 xl xs ((g_jRangeAnswersLaw_law_L18 xl xs n)) x3 σ
      else none
set_option maxHeartbeats 4000000 in
theorem g_jRangeAnswersLaw_law_L18_ok {xl : Nat} {xs : Nat → Int32} (hxl : xl < 2147483648) : ∀ (n : Nat) {X3 : Int32} {x3 : Int} {σ : zS} {p : Nat} {m : zM} {o : Int × zS}, X3.toInt = x3 → zRep xl xs p m σ → g_jRangeAnswersLaw_law_L18 xl xs n x3 σ = some o → zGo xl xs (fun _ => True) 510 1000 18 [(0, .ref 0), (1, .ref 39), (2, .ref 143), (3, .int X3)] [] m (vI o.1) o.2
  | 0, _, _, _, _, _, _, _, _, h => by cases h
  | n + 1, X3, x3, σ, p, m, o, hx3, H, h => by
    have hq : z_mth 1000 = some z_rL := rfl
    have ih := fun {X3 : Int32} {x3 : Int} {σ : zS} {p : Nat} {m : zM} {o : Int × zS} => g_jRangeAnswersLaw_law_L18_ok (xl := xl) (xs := xs) hxl n (X3 := X3) (x3 := x3) (σ := σ) (p := p) (m := m) (o := o)
    unfold g_jRangeAnswersLaw_law_L18 at h
    refine r_p hq 2 (pc' := 20) (L' := [(0, .ref 0), (1, .ref 39), (2, .ref 143), (3, .int X3)]) (st' := [.ref 0, .int X3]) rfl ?_
    refine r_leS (pc' := 21) (L' := [(0, .ref 0), (1, .ref 39), (2, .ref 143), (3, .int X3)]) hxl H hq (z_at.mk 1 rfl rfl) rfl rfl ?_
    intro V_20 hV_20
    refine r_p hq 2 (pc' := 24) (L' := [(0, .ref 0), (1, .ref 39), (2, .ref 143), (3, .int X3)]) (st' := [.int (V_20 - ((6 : Int32))), .int X3]) rfl ?_
    rcases z_ite h with ⟨c_24, h⟩ | ⟨c_24, h⟩
    · refine r_t2 (pc' := 1374) (L' := [(0, .ref 0), (1, .ref 39), (2, .ref 143), (3, .int X3)]) hq (z_at.mk 3 rfl rfl) rfl hx3 (tx_isub hV_20 (rfl : (6 : Int32).toInt = 6)) c_24 rfl rfl ?_
      refine r_p hq 1 (pc' := 1375) (L' := [(0, .ref 0), (1, .ref 39), (2, .ref 143), (3, .int X3)]) (st' := [.int ((1 : Int32))]) rfl ?_
      cases h
      exact r_ri hq (z_at.mk 1 rfl rfl) rfl rfl (rfl : (1 : Int32).toInt = 1) trivial H
    · refine r_f2 (pc' := 27) (L' := [(0, .ref 0), (1, .ref 39), (2, .ref 143), (3, .int X3)]) hq (z_at.mk 3 rfl rfl) rfl hx3 (tx_isub hV_20 (rfl : (6 : Int32).toInt = 6)) c_24 rfl rfl ?_
      refine r_p hq 2 (pc' := 29) (L' := [(0, .ref 0), (1, .ref 39), (2, .ref 143), (3, .int X3)]) (st' := [.int X3, .ref 0]) rfl ?_
      obtain ⟨g_29, h⟩ := z_ifo_some h
      refine r_iaS (pc' := 30) (L' := [(0, .ref 0), (1, .ref 39), (2, .ref 143), (3, .int X3)]) H hq (z_at.mk 1 rfl rfl) hx3 g_29 rfl rfl ?_
      intro V_29 hV_29
      refine r_p hq 2 (pc' := 33) (L' := [(0, .ref 0), (1, .ref 39), (2, .ref 143), (3, .int X3)]) (st' := [.int (V_29 &&& ((63 : Int32)))]) rfl ?_
      rcases z_ite h with ⟨c_33_0, h⟩ | ⟨c_33_0, h⟩
      · refine r_sw (off := 163) (pc' := 196) (L' := [(0, .ref 0), (1, .ref 39), (2, .ref 143), (3, .int X3)]) hq (z_at.mk 163 rfl rfl) (z_off_v ((tx_iand hV_29 (rfl : (63 : Int32).toInt = 63)).trans c_33_0) rfl) rfl rfl rfl ?_
        refine r_p hq 5 (pc' := 201) (L' := [(0, .ref 0), (1, .ref 39), (2, .ref 143), (3, .int X3)]) (st' := [.int (X3 + ((1 : Int32))), .ref 0, .ref 39]) rfl ?_
        obtain ⟨g_201, h⟩ := z_ifo_some h
        refine r_iaS (pc' := 202) (L' := [(0, .ref 0), (1, .ref 39), (2, .ref 143), (3, .int X3)]) H hq (z_at.mk 1 rfl rfl) (tx_iadd hx3 (rfl : (1 : Int32).toInt = 1)) g_201 rfl rfl ?_
        intro V_201 hV_201
        refine r_p hq 4 (pc' := 206) (L' := [(0, .ref 0), (1, .ref 39), (2, .ref 143), (3, .int X3)]) (st' := [.int (X3 + ((2 : Int32))), .ref 0, .int V_201, .ref 39]) rfl ?_
        obtain ⟨g_206, h⟩ := z_ifo_some h
        refine r_iaS (pc' := 207) (L' := [(0, .ref 0), (1, .ref 39), (2, .ref 143), (3, .int X3)]) H hq (z_at.mk 1 rfl rfl) (tx_iadd hx3 (rfl : (2 : Int32).toInt = 2)) g_206 rfl rfl ?_
        intro V_206 hV_206
        refine r_p hq 4 (pc' := 211) (L' := [(0, .ref 0), (1, .ref 39), (2, .ref 143), (3, .int X3)]) (st' := [.int (X3 + ((3 : Int32))), .ref 0, .int V_206, .int V_201, .ref 39]) rfl ?_
        obtain ⟨g_211, h⟩ := z_ifo_some h
        refine r_iaS (pc' := 212) (L' := [(0, .ref 0), (1, .ref 39), (2, .ref 143), (3, .int X3)]) H hq (z_at.mk 1 rfl rfl) (tx_iadd hx3 (rfl : (3 : Int32).toInt = 3)) g_211 rfl rfl ?_
        intro V_211 hV_211
        refine r_p hq 4 (pc' := 216) (L' := [(0, .ref 0), (1, .ref 39), (2, .ref 143), (3, .int X3)]) (st' := [.int (X3 + ((4 : Int32))), .ref 0, .int V_211, .int V_206, .int V_201, .ref 39]) rfl ?_
        obtain ⟨g_216, h⟩ := z_ifo_some h
        refine r_iaS (pc' := 217) (L' := [(0, .ref 0), (1, .ref 39), (2, .ref 143), (3, .int X3)]) H hq (z_at.mk 1 rfl rfl) (tx_iadd hx3 (rfl : (4 : Int32).toInt = 4)) g_216 rfl rfl ?_
        intro V_216 hV_216
        refine r_p hq 7 (pc' := 225) (L' := [(0, .ref 0), (1, .ref 39), (2, .ref 143), (3, .int X3)]) (st' := [.int (X3 + ((5 : Int32))), .ref 0, .long (V_216.toInt64 <<< (((32 : Int32)).toInt64 &&& 63)), .int V_211, .int V_206, .int V_201, .ref 39]) rfl ?_
        obtain ⟨g_225, h⟩ := z_ifo_some h
        refine r_iaS (pc' := 226) (L' := [(0, .ref 0), (1, .ref 39), (2, .ref 143), (3, .int X3)]) H hq (z_at.mk 1 rfl rfl) (tx_iadd hx3 (rfl : (5 : Int32).toInt = 5)) g_225 rfl rfl ?_
        intro V_225 hV_225
        refine r_p hq 4 (pc' := 232) (L' := [(0, .ref 0), (1, .ref 39), (2, .ref 143), (3, .int X3)]) (st' := [.long ((V_216.toInt64 <<< (((32 : Int32)).toInt64 &&& 63)) ||| (V_225.toInt64 &&& ((4294967295 : Int64)))), .int V_211, .int V_206, .int V_201, .ref 39]) rfl ?_
        obtain ⟨o_232, h_232, h⟩ := Option.bind_eq_some_iff.mp h
        refine r_cvI (pc' := 235) (L' := [(0, .ref 0), (1, .ref 39), (2, .ref 143), (3, .int X3)]) (Ps := [.int V_201, .int V_206, .int V_211, .long ((V_216.toInt64 <<< (((32 : Int32)).toInt64 &&& 63)) ||| (V_225.toInt64 &&& ((4294967295 : Int64))))]) (rest := []) hq (z_at.mk 3 rfl rfl) (Or.inl ⟨rfl, rfl⟩) rfl rfl (by decide) (by decide) rfl (Nat.not_lt.mpr (Nat.le_of_ble_eq_true rfl)) rfl rfl (z_cat_le 0 rfl (by decide)) (z_lgl_le 6 rfl (by decide)) (by decide) (H.tg rfl) (by omega) (g_c_put_ok hV_201 hV_206 hV_211 (tx_lor (tx_lshl (tx_i2l hV_216) (rfl : (32 : Int32).toInt = 32)) (tx_land (tx_i2l hV_225) (rfl : (4294967295 : Int64).toInt = 4294967295))) H h_232) rfl rfl ?_
        intro R_232 m_232 p_232 e_232 hR_232 H_232
        subst e_232
        refine r_p hq 6 (pc' := 241) (L' := [(0, .ref 0), (1, .ref 39), (2, .ref 143), (3, .int X3)]) (st' := [.int (X3 + ((1 : Int32))), .ref 0, .ref 143]) rfl ?_
        obtain ⟨g_241, h⟩ := z_ifo_some h
        refine r_iaS (pc' := 242) (L' := [(0, .ref 0), (1, .ref 39), (2, .ref 143), (3, .int X3)]) H_232 hq (z_at.mk 1 rfl rfl) (tx_iadd hx3 (rfl : (1 : Int32).toInt = 1)) g_241 rfl rfl ?_
        intro V_241 hV_241
        refine r_p hq 4 (pc' := 246) (L' := [(0, .ref 0), (1, .ref 39), (2, .ref 143), (3, .int X3)]) (st' := [.int (X3 + ((2 : Int32))), .ref 0, .int V_241, .ref 143]) rfl ?_
        obtain ⟨g_246, h⟩ := z_ifo_some h
        refine r_iaS (pc' := 247) (L' := [(0, .ref 0), (1, .ref 39), (2, .ref 143), (3, .int X3)]) H_232 hq (z_at.mk 1 rfl rfl) (tx_iadd hx3 (rfl : (2 : Int32).toInt = 2)) g_246 rfl rfl ?_
        intro V_246 hV_246
        refine r_p hq 4 (pc' := 251) (L' := [(0, .ref 0), (1, .ref 39), (2, .ref 143), (3, .int X3)]) (st' := [.int (X3 + ((3 : Int32))), .ref 0, .int V_246, .int V_241, .ref 143]) rfl ?_
        obtain ⟨g_251, h⟩ := z_ifo_some h
        refine r_iaS (pc' := 252) (L' := [(0, .ref 0), (1, .ref 39), (2, .ref 143), (3, .int X3)]) H_232 hq (z_at.mk 1 rfl rfl) (tx_iadd hx3 (rfl : (3 : Int32).toInt = 3)) g_251 rfl rfl ?_
        intro V_251 hV_251
        refine r_p hq 4 (pc' := 256) (L' := [(0, .ref 0), (1, .ref 39), (2, .ref 143), (3, .int X3)]) (st' := [.int (X3 + ((4 : Int32))), .ref 0, .int V_251, .int V_246, .int V_241, .ref 143]) rfl ?_
        obtain ⟨g_256, h⟩ := z_ifo_some h
        refine r_iaS (pc' := 257) (L' := [(0, .ref 0), (1, .ref 39), (2, .ref 143), (3, .int X3)]) H_232 hq (z_at.mk 1 rfl rfl) (tx_iadd hx3 (rfl : (4 : Int32).toInt = 4)) g_256 rfl rfl ?_
        intro V_256 hV_256
        refine r_p hq 7 (pc' := 265) (L' := [(0, .ref 0), (1, .ref 39), (2, .ref 143), (3, .int X3)]) (st' := [.int (X3 + ((5 : Int32))), .ref 0, .long (V_256.toInt64 <<< (((32 : Int32)).toInt64 &&& 63)), .int V_251, .int V_246, .int V_241, .ref 143]) rfl ?_
        obtain ⟨g_265, h⟩ := z_ifo_some h
        refine r_iaS (pc' := 266) (L' := [(0, .ref 0), (1, .ref 39), (2, .ref 143), (3, .int X3)]) H_232 hq (z_at.mk 1 rfl rfl) (tx_iadd hx3 (rfl : (5 : Int32).toInt = 5)) g_265 rfl rfl ?_
        intro V_265 hV_265
        refine r_p hq 4 (pc' := 272) (L' := [(0, .ref 0), (1, .ref 39), (2, .ref 143), (3, .int X3)]) (st' := [.long ((V_256.toInt64 <<< (((32 : Int32)).toInt64 &&& 63)) ||| (V_265.toInt64 &&& ((4294967295 : Int64)))), .int V_251, .int V_246, .int V_241, .ref 143]) rfl ?_
        obtain ⟨o_272, h_272, h⟩ := Option.bind_eq_some_iff.mp h
        refine r_cvI (pc' := 275) (L' := [(0, .ref 0), (1, .ref 39), (2, .ref 143), (3, .int X3)]) (Ps := [.int V_241, .int V_246, .int V_251, .long ((V_256.toInt64 <<< (((32 : Int32)).toInt64 &&& 63)) ||| (V_265.toInt64 &&& ((4294967295 : Int64))))]) (rest := []) hq (z_at.mk 3 rfl rfl) (Or.inl ⟨rfl, rfl⟩) rfl rfl (by decide) (by decide) rfl (Nat.not_lt.mpr (Nat.le_of_ble_eq_true rfl)) rfl rfl (z_cat_le 0 rfl (by decide)) (z_lgl_le 6 rfl (by decide)) (by decide) (H_232.tg rfl) (by omega) (g_m_put_ok hV_241 hV_246 hV_251 (tx_lor (tx_lshl (tx_i2l hV_256) (rfl : (32 : Int32).toInt = 32)) (tx_land (tx_i2l hV_265) (rfl : (4294967295 : Int64).toInt = 4294967295))) H_232 h_272) rfl rfl ?_
        intro R_272 m_272 p_272 e_272 hR_272 H_272
        subst e_272
        refine r_p hq 2 (pc' := 1368) (L' := [(0, .ref 0), (1, .ref 39), (2, .ref 143), (3, .int X3)]) (st' := []) rfl ?_
        exact g_jRangeAnswersLaw_law_L1368_ok hxl ih hx3 H_272 h
      rcases z_ite h with ⟨c_33_1, h⟩ | ⟨c_33_1, h⟩
      · refine r_sw (off := 246) (pc' := 279) (L' := [(0, .ref 0), (1, .ref 39), (2, .ref 143), (3, .int X3)]) hq (z_at.mk 163 rfl rfl) (z_off_v ((tx_iand hV_29 (rfl : (63 : Int32).toInt = 63)).trans c_33_1) rfl) rfl rfl rfl ?_
        refine r_p hq 5 (pc' := 284) (L' := [(0, .ref 0), (1, .ref 39), (2, .ref 143), (3, .int X3)]) (st' := [.int (X3 + ((1 : Int32))), .ref 0, .ref 39]) rfl ?_
        obtain ⟨g_284, h⟩ := z_ifo_some h
        refine r_iaS (pc' := 285) (L' := [(0, .ref 0), (1, .ref 39), (2, .ref 143), (3, .int X3)]) H hq (z_at.mk 1 rfl rfl) (tx_iadd hx3 (rfl : (1 : Int32).toInt = 1)) g_284 rfl rfl ?_
        intro V_284 hV_284
        obtain ⟨o_285, h_285, h⟩ := Option.bind_eq_some_iff.mp h
        refine r_cvI (pc' := 288) (L' := [(0, .ref 0), (1, .ref 39), (2, .ref 143), (3, .int X3)]) (Ps := [.int V_284]) (rest := []) hq (z_at.mk 3 rfl rfl) (Or.inl ⟨rfl, rfl⟩) rfl rfl (by decide) (by decide) rfl (Nat.not_lt.mpr (Nat.le_of_ble_eq_true rfl)) rfl rfl (z_cat_le 0 rfl (by decide)) (z_lgl_le 2 rfl (by decide)) (by decide) (H.tg rfl) (by omega) (g_c_take_ok hV_284 H h_285) rfl rfl ?_
        intro R_285 m_285 p_285 e_285 hR_285 H_285
        subst e_285
        refine r_p hq 6 (pc' := 294) (L' := [(0, .ref 0), (1, .ref 39), (2, .ref 143), (3, .int X3)]) (st' := [.int (X3 + ((1 : Int32))), .ref 0, .ref 143]) rfl ?_
        obtain ⟨g_294, h⟩ := z_ifo_some h
        refine r_iaS (pc' := 295) (L' := [(0, .ref 0), (1, .ref 39), (2, .ref 143), (3, .int X3)]) H_285 hq (z_at.mk 1 rfl rfl) (tx_iadd hx3 (rfl : (1 : Int32).toInt = 1)) g_294 rfl rfl ?_
        intro V_294 hV_294
        obtain ⟨o_295, h_295, h⟩ := Option.bind_eq_some_iff.mp h
        refine r_cvI (pc' := 298) (L' := [(0, .ref 0), (1, .ref 39), (2, .ref 143), (3, .int X3)]) (Ps := [.int V_294]) (rest := []) hq (z_at.mk 3 rfl rfl) (Or.inl ⟨rfl, rfl⟩) rfl rfl (by decide) (by decide) rfl (Nat.not_lt.mpr (Nat.le_of_ble_eq_true rfl)) rfl rfl (z_cat_le 0 rfl (by decide)) (z_lgl_le 2 rfl (by decide)) (by decide) (H_285.tg rfl) (by omega) (g_m_take_ok hV_294 H_285 h_295) rfl rfl ?_
        intro R_295 m_295 p_295 e_295 hR_295 H_295
        subst e_295
        refine r_p hq 2 (pc' := 1368) (L' := [(0, .ref 0), (1, .ref 39), (2, .ref 143), (3, .int X3)]) (st' := []) rfl ?_
        exact g_jRangeAnswersLaw_law_L1368_ok hxl ih hx3 H_295 h
      rcases z_ite h with ⟨c_33_2, h⟩ | ⟨c_33_2, h⟩
      · refine r_sw (off := 269) (pc' := 302) (L' := [(0, .ref 0), (1, .ref 39), (2, .ref 143), (3, .int X3)]) hq (z_at.mk 163 rfl rfl) (z_off_v ((tx_iand hV_29 (rfl : (63 : Int32).toInt = 63)).trans c_33_2) rfl) rfl rfl rfl ?_
        refine r_p hq 5 (pc' := 307) (L' := [(0, .ref 0), (1, .ref 39), (2, .ref 143), (3, .int X3)]) (st' := [.int (X3 + ((1 : Int32))), .ref 0, .ref 39]) rfl ?_
        obtain ⟨g_307, h⟩ := z_ifo_some h
        refine r_iaS (pc' := 308) (L' := [(0, .ref 0), (1, .ref 39), (2, .ref 143), (3, .int X3)]) H hq (z_at.mk 1 rfl rfl) (tx_iadd hx3 (rfl : (1 : Int32).toInt = 1)) g_307 rfl rfl ?_
        intro V_307 hV_307
        refine r_p hq 4 (pc' := 312) (L' := [(0, .ref 0), (1, .ref 39), (2, .ref 143), (3, .int X3)]) (st' := [.int (X3 + ((2 : Int32))), .ref 0, .int V_307, .ref 39]) rfl ?_
        obtain ⟨g_312, h⟩ := z_ifo_some h
        refine r_iaS (pc' := 313) (L' := [(0, .ref 0), (1, .ref 39), (2, .ref 143), (3, .int X3)]) H hq (z_at.mk 1 rfl rfl) (tx_iadd hx3 (rfl : (2 : Int32).toInt = 2)) g_312 rfl rfl ?_
        intro V_312 hV_312
        obtain ⟨o_313, h_313, h⟩ := Option.bind_eq_some_iff.mp h
        refine r_cvI (pc' := 316) (L' := [(0, .ref 0), (1, .ref 39), (2, .ref 143), (3, .int X3)]) (Ps := [.int V_307, .int V_312]) (rest := []) hq (z_at.mk 3 rfl rfl) (Or.inl ⟨rfl, rfl⟩) rfl rfl (by decide) (by decide) rfl (Nat.not_lt.mpr (Nat.le_of_ble_eq_true rfl)) rfl rfl (z_cat_le 0 rfl (by decide)) (z_lgl_le 3 rfl (by decide)) (by decide) (H.tg rfl) (by omega) (g_c_row_ok hV_307 hV_312 H h_313) rfl rfl ?_
        intro R_313 m_313 p_313 e_313 hR_313 H_313
        subst e_313
        refine r_p hq 6 (pc' := 322) (L' := [(0, .ref 0), (1, .ref 39), (2, .ref 143), (3, .int X3)]) (st' := [.int (X3 + ((1 : Int32))), .ref 0, .ref 143]) rfl ?_
        obtain ⟨g_322, h⟩ := z_ifo_some h
        refine r_iaS (pc' := 323) (L' := [(0, .ref 0), (1, .ref 39), (2, .ref 143), (3, .int X3)]) H_313 hq (z_at.mk 1 rfl rfl) (tx_iadd hx3 (rfl : (1 : Int32).toInt = 1)) g_322 rfl rfl ?_
        intro V_322 hV_322
        refine r_p hq 4 (pc' := 327) (L' := [(0, .ref 0), (1, .ref 39), (2, .ref 143), (3, .int X3)]) (st' := [.int (X3 + ((2 : Int32))), .ref 0, .int V_322, .ref 143]) rfl ?_
        obtain ⟨g_327, h⟩ := z_ifo_some h
        refine r_iaS (pc' := 328) (L' := [(0, .ref 0), (1, .ref 39), (2, .ref 143), (3, .int X3)]) H_313 hq (z_at.mk 1 rfl rfl) (tx_iadd hx3 (rfl : (2 : Int32).toInt = 2)) g_327 rfl rfl ?_
        intro V_327 hV_327
        obtain ⟨o_328, h_328, h⟩ := Option.bind_eq_some_iff.mp h
        refine r_cvI (pc' := 331) (L' := [(0, .ref 0), (1, .ref 39), (2, .ref 143), (3, .int X3)]) (Ps := [.int V_322, .int V_327]) (rest := []) hq (z_at.mk 3 rfl rfl) (Or.inl ⟨rfl, rfl⟩) rfl rfl (by decide) (by decide) rfl (Nat.not_lt.mpr (Nat.le_of_ble_eq_true rfl)) rfl rfl (z_cat_le 0 rfl (by decide)) (z_lgl_le 3 rfl (by decide)) (by decide) (H_313.tg rfl) (by omega) (g_m_row_ok hV_322 hV_327 H_313 h_328) rfl rfl ?_
        intro R_328 m_328 p_328 e_328 hR_328 H_328
        subst e_328
        refine r_p hq 2 (pc' := 1368) (L' := [(0, .ref 0), (1, .ref 39), (2, .ref 143), (3, .int X3)]) (st' := []) rfl ?_
        exact g_jRangeAnswersLaw_law_L1368_ok hxl ih hx3 H_328 h
      rcases z_ite h with ⟨c_33_3, h⟩ | ⟨c_33_3, h⟩
      · refine r_sw (off := 302) (pc' := 335) (L' := [(0, .ref 0), (1, .ref 39), (2, .ref 143), (3, .int X3)]) hq (z_at.mk 163 rfl rfl) (z_off_v ((tx_iand hV_29 (rfl : (63 : Int32).toInt = 63)).trans c_33_3) rfl) rfl rfl rfl ?_
        refine r_p hq 5 (pc' := 340) (L' := [(0, .ref 0), (1, .ref 39), (2, .ref 143), (3, .int X3)]) (st' := [.int (X3 + ((1 : Int32))), .ref 0, .ref 39]) rfl ?_
        obtain ⟨g_340, h⟩ := z_ifo_some h
        refine r_iaS (pc' := 341) (L' := [(0, .ref 0), (1, .ref 39), (2, .ref 143), (3, .int X3)]) H hq (z_at.mk 1 rfl rfl) (tx_iadd hx3 (rfl : (1 : Int32).toInt = 1)) g_340 rfl rfl ?_
        intro V_340 hV_340
        obtain ⟨o_341, h_341, h⟩ := Option.bind_eq_some_iff.mp h
        refine r_cvL (pc' := 344) (L' := [(0, .ref 0), (1, .ref 39), (2, .ref 143), (3, .int X3)]) (Ps := [.int V_340]) (rest := []) hq (z_at.mk 3 rfl rfl) (Or.inl ⟨rfl, rfl⟩) rfl rfl (by decide) (by decide) rfl (Nat.not_lt.mpr (Nat.le_of_ble_eq_true rfl)) rfl rfl (z_cat_le 0 rfl (by decide)) (z_lgl_le 2 rfl (by decide)) (by decide) (H.tg rfl) (by omega) (g_c_worth_ok hV_340 H h_341) rfl rfl ?_
        intro R_341 m_341 p_341 e_341 hR_341 H_341
        subst e_341
        refine r_p hq 5 (pc' := 349) (L' := [(0, .ref 0), (1, .ref 39), (2, .ref 143), (3, .int X3)]) (st' := [.int (X3 + ((1 : Int32))), .ref 0, .ref 143, .long R_341]) rfl ?_
        obtain ⟨g_349, h⟩ := z_ifo_some h
        refine r_iaS (pc' := 350) (L' := [(0, .ref 0), (1, .ref 39), (2, .ref 143), (3, .int X3)]) H_341 hq (z_at.mk 1 rfl rfl) (tx_iadd hx3 (rfl : (1 : Int32).toInt = 1)) g_349 rfl rfl ?_
        intro V_349 hV_349
        obtain ⟨o_350, h_350, h⟩ := Option.bind_eq_some_iff.mp h
        refine r_cvL (pc' := 353) (L' := [(0, .ref 0), (1, .ref 39), (2, .ref 143), (3, .int X3)]) (Ps := [.int V_349]) (rest := [.long R_341]) hq (z_at.mk 3 rfl rfl) (Or.inl ⟨rfl, rfl⟩) rfl rfl (by decide) (by decide) rfl (Nat.not_lt.mpr (Nat.le_of_ble_eq_true rfl)) rfl rfl (z_cat_le 2 rfl (by decide)) (z_lgl_le 2 rfl (by decide)) (by decide) (H_341.tg rfl) (by omega) (g_m_worth_ok hV_349 H_341 h_350) rfl rfl ?_
        intro R_350 m_350 p_350 e_350 hR_350 H_350
        subst e_350
        refine r_p hq 1 (pc' := 354) (L' := [(0, .ref 0), (1, .ref 39), (2, .ref 143), (3, .int X3)]) (st' := [.int (lg_cmp R_341 R_350)]) rfl ?_
        rcases z_ite h with ⟨c_354, h⟩ | ⟨c_354, h⟩
        · refine r_t1 (pc' := 1368) (L' := [(0, .ref 0), (1, .ref 39), (2, .ref 143), (3, .int X3)]) hq (z_at.mk 3 rfl rfl) rfl (tx_lcmp hR_341 hR_350) c_354 rfl rfl ?_
          exact g_jRangeAnswersLaw_law_L1368_ok hxl ih hx3 H_350 h
        · refine r_f1 (pc' := 357) (L' := [(0, .ref 0), (1, .ref 39), (2, .ref 143), (3, .int X3)]) hq (z_at.mk 3 rfl rfl) rfl (tx_lcmp hR_341 hR_350) c_354 rfl rfl ?_
          refine r_p hq 1 (pc' := 358) (L' := [(0, .ref 0), (1, .ref 39), (2, .ref 143), (3, .int X3)]) (st' := [.int ((0 : Int32))]) rfl ?_
          cases h
          exact r_ri hq (z_at.mk 1 rfl rfl) rfl rfl (rfl : (0 : Int32).toInt = 0) trivial H_350
      rcases z_ite h with ⟨c_33_4, h⟩ | ⟨c_33_4, h⟩
      · refine r_sw (off := 326) (pc' := 359) (L' := [(0, .ref 0), (1, .ref 39), (2, .ref 143), (3, .int X3)]) hq (z_at.mk 163 rfl rfl) (z_off_v ((tx_iand hV_29 (rfl : (63 : Int32).toInt = 63)).trans c_33_4) rfl) rfl rfl rfl ?_
        refine r_p hq 5 (pc' := 364) (L' := [(0, .ref 0), (1, .ref 39), (2, .ref 143), (3, .int X3)]) (st' := [.int (X3 + ((1 : Int32))), .ref 0, .ref 39]) rfl ?_
        obtain ⟨g_364, h⟩ := z_ifo_some h
        refine r_iaS (pc' := 365) (L' := [(0, .ref 0), (1, .ref 39), (2, .ref 143), (3, .int X3)]) H hq (z_at.mk 1 rfl rfl) (tx_iadd hx3 (rfl : (1 : Int32).toInt = 1)) g_364 rfl rfl ?_
        intro V_364 hV_364
        obtain ⟨o_365, h_365, h⟩ := Option.bind_eq_some_iff.mp h
        refine r_cvI (pc' := 368) (L' := [(0, .ref 0), (1, .ref 39), (2, .ref 143), (3, .int X3)]) (Ps := [.int V_364]) (rest := []) hq (z_at.mk 3 rfl rfl) (Or.inl ⟨rfl, rfl⟩) rfl rfl (by decide) (by decide) rfl (Nat.not_lt.mpr (Nat.le_of_ble_eq_true rfl)) rfl rfl (z_cat_le 0 rfl (by decide)) (z_lgl_le 2 rfl (by decide)) (by decide) (H.tg rfl) (by omega) (g_c_feed_ok hV_364 H h_365) rfl rfl ?_
        intro R_365 m_365 p_365 e_365 hR_365 H_365
        subst e_365
        refine r_p hq 6 (pc' := 374) (L' := [(0, .ref 0), (1, .ref 39), (2, .ref 143), (3, .int X3)]) (st' := [.int (X3 + ((1 : Int32))), .ref 0, .ref 143]) rfl ?_
        obtain ⟨g_374, h⟩ := z_ifo_some h
        refine r_iaS (pc' := 375) (L' := [(0, .ref 0), (1, .ref 39), (2, .ref 143), (3, .int X3)]) H_365 hq (z_at.mk 1 rfl rfl) (tx_iadd hx3 (rfl : (1 : Int32).toInt = 1)) g_374 rfl rfl ?_
        intro V_374 hV_374
        obtain ⟨o_375, h_375, h⟩ := Option.bind_eq_some_iff.mp h
        refine r_cvI (pc' := 378) (L' := [(0, .ref 0), (1, .ref 39), (2, .ref 143), (3, .int X3)]) (Ps := [.int V_374]) (rest := []) hq (z_at.mk 3 rfl rfl) (Or.inl ⟨rfl, rfl⟩) rfl rfl (by decide) (by decide) rfl (Nat.not_lt.mpr (Nat.le_of_ble_eq_true rfl)) rfl rfl (z_cat_le 0 rfl (by decide)) (z_lgl_le 2 rfl (by decide)) (by decide) (H_365.tg rfl) (by omega) (g_m_feed_ok hV_374 H_365 h_375) rfl rfl ?_
        intro R_375 m_375 p_375 e_375 hR_375 H_375
        subst e_375
        refine r_p hq 2 (pc' := 1368) (L' := [(0, .ref 0), (1, .ref 39), (2, .ref 143), (3, .int X3)]) (st' := []) rfl ?_
        exact g_jRangeAnswersLaw_law_L1368_ok hxl ih hx3 H_375 h
      rcases z_ite h with ⟨c_33_5, h⟩ | ⟨c_33_5, h⟩
      · refine r_sw (off := 349) (pc' := 382) (L' := [(0, .ref 0), (1, .ref 39), (2, .ref 143), (3, .int X3)]) hq (z_at.mk 163 rfl rfl) (z_off_v ((tx_iand hV_29 (rfl : (63 : Int32).toInt = 63)).trans c_33_5) rfl) rfl rfl rfl ?_
        refine r_p hq 1 (pc' := 383) (L' := [(0, .ref 0), (1, .ref 39), (2, .ref 143), (3, .int X3)]) (st' := [.ref 39]) rfl ?_
        obtain ⟨o_383, h_383, h⟩ := Option.bind_eq_some_iff.mp h
        refine r_cvI (pc' := 386) (L' := [(0, .ref 0), (1, .ref 39), (2, .ref 143), (3, .int X3)]) (Ps := []) (rest := []) hq (z_at.mk 3 rfl rfl) (Or.inl ⟨rfl, rfl⟩) rfl rfl (by decide) (by decide) rfl (Nat.not_lt.mpr (Nat.le_of_ble_eq_true rfl)) rfl rfl (z_cat_le 0 rfl (by decide)) (z_lgl_le 1 rfl (by decide)) (by decide) (H.tg rfl) (by omega) (g_c_clear_ok H h_383) rfl rfl ?_
        intro R_383 m_383 p_383 e_383 hR_383 H_383
        subst e_383
        refine r_p hq 2 (pc' := 388) (L' := [(0, .ref 0), (1, .ref 39), (2, .ref 143), (3, .int X3)]) (st' := [.ref 143]) rfl ?_
        obtain ⟨o_388, h_388, h⟩ := Option.bind_eq_some_iff.mp h
        refine r_cvI (pc' := 391) (L' := [(0, .ref 0), (1, .ref 39), (2, .ref 143), (3, .int X3)]) (Ps := []) (rest := []) hq (z_at.mk 3 rfl rfl) (Or.inl ⟨rfl, rfl⟩) rfl rfl (by decide) (by decide) rfl (Nat.not_lt.mpr (Nat.le_of_ble_eq_true rfl)) rfl rfl (z_cat_le 0 rfl (by decide)) (z_lgl_le 1 rfl (by decide)) (by decide) (H_383.tg rfl) (by omega) (g_m_clear_ok H_383 h_388) rfl rfl ?_
        intro R_388 m_388 p_388 e_388 hR_388 H_388
        subst e_388
        refine r_p hq 2 (pc' := 1368) (L' := [(0, .ref 0), (1, .ref 39), (2, .ref 143), (3, .int X3)]) (st' := []) rfl ?_
        exact g_jRangeAnswersLaw_law_L1368_ok hxl ih hx3 H_388 h
      rcases z_ite h with ⟨c_33_6, h⟩ | ⟨c_33_6, h⟩
      · refine r_sw (off := 362) (pc' := 395) (L' := [(0, .ref 0), (1, .ref 39), (2, .ref 143), (3, .int X3)]) hq (z_at.mk 163 rfl rfl) (z_off_v ((tx_iand hV_29 (rfl : (63 : Int32).toInt = 63)).trans c_33_6) rfl) rfl rfl rfl ?_
        refine r_p hq 1 (pc' := 396) (L' := [(0, .ref 0), (1, .ref 39), (2, .ref 143), (3, .int X3)]) (st' := [.ref 39]) rfl ?_
        obtain ⟨o_396, h_396, h⟩ := Option.bind_eq_some_iff.mp h
        refine r_cvI (pc' := 399) (L' := [(0, .ref 0), (1, .ref 39), (2, .ref 143), (3, .int X3)]) (Ps := []) (rest := []) hq (z_at.mk 3 rfl rfl) (Or.inl ⟨rfl, rfl⟩) rfl rfl (by decide) (by decide) rfl (Nat.not_lt.mpr (Nat.le_of_ble_eq_true rfl)) rfl rfl (z_cat_le 0 rfl (by decide)) (z_lgl_le 1 rfl (by decide)) (by decide) (H.tg rfl) (by omega) (g_c_settings_ok H h_396) rfl rfl ?_
        intro R_396 m_396 p_396 e_396 hR_396 H_396
        subst e_396
        refine r_p hq 2 (pc' := 401) (L' := [(0, .ref 0), (1, .ref 39), (2, .ref 143), (3, .int X3)]) (st' := [.ref 143]) rfl ?_
        obtain ⟨o_401, h_401, h⟩ := Option.bind_eq_some_iff.mp h
        refine r_cvI (pc' := 404) (L' := [(0, .ref 0), (1, .ref 39), (2, .ref 143), (3, .int X3)]) (Ps := []) (rest := []) hq (z_at.mk 3 rfl rfl) (Or.inl ⟨rfl, rfl⟩) rfl rfl (by decide) (by decide) rfl (Nat.not_lt.mpr (Nat.le_of_ble_eq_true rfl)) rfl rfl (z_cat_le 0 rfl (by decide)) (z_lgl_le 1 rfl (by decide)) (by decide) (H_396.tg rfl) (by omega) (g_m_settings_ok H_396 h_401) rfl rfl ?_
        intro R_401 m_401 p_401 e_401 hR_401 H_401
        subst e_401
        refine r_p hq 2 (pc' := 1368) (L' := [(0, .ref 0), (1, .ref 39), (2, .ref 143), (3, .int X3)]) (st' := []) rfl ?_
        exact g_jRangeAnswersLaw_law_L1368_ok hxl ih hx3 H_401 h
      rcases z_ite h with ⟨c_33_7, h⟩ | ⟨c_33_7, h⟩
      · refine r_sw (off := 375) (pc' := 408) (L' := [(0, .ref 0), (1, .ref 39), (2, .ref 143), (3, .int X3)]) hq (z_at.mk 163 rfl rfl) (z_off_v ((tx_iand hV_29 (rfl : (63 : Int32).toInt = 63)).trans c_33_7) rfl) rfl rfl rfl ?_
        refine r_p hq 5 (pc' := 413) (L' := [(0, .ref 0), (1, .ref 39), (2, .ref 143), (3, .int X3)]) (st' := [.int (X3 + ((1 : Int32))), .ref 0, .ref 39]) rfl ?_
        obtain ⟨g_413, h⟩ := z_ifo_some h
        refine r_iaS (pc' := 414) (L' := [(0, .ref 0), (1, .ref 39), (2, .ref 143), (3, .int X3)]) H hq (z_at.mk 1 rfl rfl) (tx_iadd hx3 (rfl : (1 : Int32).toInt = 1)) g_413 rfl rfl ?_
        intro V_413 hV_413
        obtain ⟨o_414, h_414, h⟩ := Option.bind_eq_some_iff.mp h
        refine r_cvI (pc' := 417) (L' := [(0, .ref 0), (1, .ref 39), (2, .ref 143), (3, .int X3)]) (Ps := [.int V_413]) (rest := []) hq (z_at.mk 3 rfl rfl) (Or.inl ⟨rfl, rfl⟩) rfl rfl (by decide) (by decide) rfl (Nat.not_lt.mpr (Nat.le_of_ble_eq_true rfl)) rfl rfl (z_cat_le 0 rfl (by decide)) (z_lgl_le 2 rfl (by decide)) (by decide) (H.tg rfl) (by omega) (g_c_setting_ok hV_413 H h_414) rfl rfl ?_
        intro R_414 m_414 p_414 e_414 hR_414 H_414
        subst e_414
        refine r_p hq 6 (pc' := 423) (L' := [(0, .ref 0), (1, .ref 39), (2, .ref 143), (3, .int X3)]) (st' := [.int (X3 + ((1 : Int32))), .ref 0, .ref 143]) rfl ?_
        obtain ⟨g_423, h⟩ := z_ifo_some h
        refine r_iaS (pc' := 424) (L' := [(0, .ref 0), (1, .ref 39), (2, .ref 143), (3, .int X3)]) H_414 hq (z_at.mk 1 rfl rfl) (tx_iadd hx3 (rfl : (1 : Int32).toInt = 1)) g_423 rfl rfl ?_
        intro V_423 hV_423
        obtain ⟨o_424, h_424, h⟩ := Option.bind_eq_some_iff.mp h
        refine r_cvI (pc' := 427) (L' := [(0, .ref 0), (1, .ref 39), (2, .ref 143), (3, .int X3)]) (Ps := [.int V_423]) (rest := []) hq (z_at.mk 3 rfl rfl) (Or.inl ⟨rfl, rfl⟩) rfl rfl (by decide) (by decide) rfl (Nat.not_lt.mpr (Nat.le_of_ble_eq_true rfl)) rfl rfl (z_cat_le 0 rfl (by decide)) (z_lgl_le 2 rfl (by decide)) (by decide) (H_414.tg rfl) (by omega) (g_m_setting_ok hV_423 H_414 h_424) rfl rfl ?_
        intro R_424 m_424 p_424 e_424 hR_424 H_424
        subst e_424
        refine r_p hq 2 (pc' := 1368) (L' := [(0, .ref 0), (1, .ref 39), (2, .ref 143), (3, .int X3)]) (st' := []) rfl ?_
        exact g_jRangeAnswersLaw_law_L1368_ok hxl ih hx3 H_424 h
      rcases z_ite h with ⟨c_33_8, h⟩ | ⟨c_33_8, h⟩
      · refine r_sw (off := 398) (pc' := 431) (L' := [(0, .ref 0), (1, .ref 39), (2, .ref 143), (3, .int X3)]) hq (z_at.mk 163 rfl rfl) (z_off_v ((tx_iand hV_29 (rfl : (63 : Int32).toInt = 63)).trans c_33_8) rfl) rfl rfl rfl ?_
        refine r_p hq 1 (pc' := 432) (L' := [(0, .ref 0), (1, .ref 39), (2, .ref 143), (3, .int X3)]) (st' := [.ref 39]) rfl ?_
        obtain ⟨o_432, h_432, h⟩ := Option.bind_eq_some_iff.mp h
        refine r_cvI (pc' := 435) (L' := [(0, .ref 0), (1, .ref 39), (2, .ref 143), (3, .int X3)]) (Ps := []) (rest := []) hq (z_at.mk 3 rfl rfl) (Or.inl ⟨rfl, rfl⟩) rfl rfl (by decide) (by decide) rfl (Nat.not_lt.mpr (Nat.le_of_ble_eq_true rfl)) rfl rfl (z_cat_le 0 rfl (by decide)) (z_lgl_le 1 rfl (by decide)) (by decide) (H.tg rfl) (by omega) (g_c_run_ok H h_432) rfl rfl ?_
        intro R_432 m_432 p_432 e_432 hR_432 H_432
        subst e_432
        refine r_p hq 2 (pc' := 437) (L' := [(0, .ref 0), (1, .ref 39), (2, .ref 143), (3, .int X3)]) (st' := [.ref 143]) rfl ?_
        obtain ⟨o_437, h_437, h⟩ := Option.bind_eq_some_iff.mp h
        refine r_cvI (pc' := 440) (L' := [(0, .ref 0), (1, .ref 39), (2, .ref 143), (3, .int X3)]) (Ps := []) (rest := []) hq (z_at.mk 3 rfl rfl) (Or.inl ⟨rfl, rfl⟩) rfl rfl (by decide) (by decide) rfl (Nat.not_lt.mpr (Nat.le_of_ble_eq_true rfl)) rfl rfl (z_cat_le 0 rfl (by decide)) (z_lgl_le 1 rfl (by decide)) (by decide) (H_432.tg rfl) (by omega) (g_m_run_ok H_432 h_437) rfl rfl ?_
        intro R_437 m_437 p_437 e_437 hR_437 H_437
        subst e_437
        refine r_p hq 2 (pc' := 1368) (L' := [(0, .ref 0), (1, .ref 39), (2, .ref 143), (3, .int X3)]) (st' := []) rfl ?_
        exact g_jRangeAnswersLaw_law_L1368_ok hxl ih hx3 H_437 h
      rcases z_ite h with ⟨c_33_9, h⟩ | ⟨c_33_9, h⟩
      · refine r_sw (off := 411) (pc' := 444) (L' := [(0, .ref 0), (1, .ref 39), (2, .ref 143), (3, .int X3)]) hq (z_at.mk 163 rfl rfl) (z_off_v ((tx_iand hV_29 (rfl : (63 : Int32).toInt = 63)).trans c_33_9) rfl) rfl rfl rfl ?_
        refine r_p hq 5 (pc' := 449) (L' := [(0, .ref 0), (1, .ref 39), (2, .ref 143), (3, .int X3)]) (st' := [.int (X3 + ((1 : Int32))), .ref 0, .ref 39]) rfl ?_
        obtain ⟨g_449, h⟩ := z_ifo_some h
        refine r_iaS (pc' := 450) (L' := [(0, .ref 0), (1, .ref 39), (2, .ref 143), (3, .int X3)]) H hq (z_at.mk 1 rfl rfl) (tx_iadd hx3 (rfl : (1 : Int32).toInt = 1)) g_449 rfl rfl ?_
        intro V_449 hV_449
        obtain ⟨o_450, h_450, h⟩ := Option.bind_eq_some_iff.mp h
        refine r_cvL (pc' := 453) (L' := [(0, .ref 0), (1, .ref 39), (2, .ref 143), (3, .int X3)]) (Ps := [.int V_449]) (rest := []) hq (z_at.mk 3 rfl rfl) (Or.inl ⟨rfl, rfl⟩) rfl rfl (by decide) (by decide) rfl (Nat.not_lt.mpr (Nat.le_of_ble_eq_true rfl)) rfl rfl (z_cat_le 0 rfl (by decide)) (z_lgl_le 2 rfl (by decide)) (by decide) (H.tg rfl) (by omega) (g_c_answer_ok hV_449 H h_450) rfl rfl ?_
        intro R_450 m_450 p_450 e_450 hR_450 H_450
        subst e_450
        refine r_p hq 6 (pc' := 459) (L' := [(0, .ref 0), (1, .ref 39), (2, .ref 143), (3, .int X3)]) (st' := [.int (X3 + ((1 : Int32))), .ref 0, .ref 143]) rfl ?_
        obtain ⟨g_459, h⟩ := z_ifo_some h
        refine r_iaS (pc' := 460) (L' := [(0, .ref 0), (1, .ref 39), (2, .ref 143), (3, .int X3)]) H_450 hq (z_at.mk 1 rfl rfl) (tx_iadd hx3 (rfl : (1 : Int32).toInt = 1)) g_459 rfl rfl ?_
        intro V_459 hV_459
        obtain ⟨o_460, h_460, h⟩ := Option.bind_eq_some_iff.mp h
        refine r_cvL (pc' := 463) (L' := [(0, .ref 0), (1, .ref 39), (2, .ref 143), (3, .int X3)]) (Ps := [.int V_459]) (rest := []) hq (z_at.mk 3 rfl rfl) (Or.inl ⟨rfl, rfl⟩) rfl rfl (by decide) (by decide) rfl (Nat.not_lt.mpr (Nat.le_of_ble_eq_true rfl)) rfl rfl (z_cat_le 0 rfl (by decide)) (z_lgl_le 2 rfl (by decide)) (by decide) (H_450.tg rfl) (by omega) (g_m_answer_ok hV_459 H_450 h_460) rfl rfl ?_
        intro R_460 m_460 p_460 e_460 hR_460 H_460
        subst e_460
        refine r_p hq 2 (pc' := 1368) (L' := [(0, .ref 0), (1, .ref 39), (2, .ref 143), (3, .int X3)]) (st' := []) rfl ?_
        exact g_jRangeAnswersLaw_law_L1368_ok hxl ih hx3 H_460 h
      rcases z_ite h with ⟨c_33_10, h⟩ | ⟨c_33_10, h⟩
      · refine r_sw (off := 434) (pc' := 467) (L' := [(0, .ref 0), (1, .ref 39), (2, .ref 143), (3, .int X3)]) hq (z_at.mk 163 rfl rfl) (z_off_v ((tx_iand hV_29 (rfl : (63 : Int32).toInt = 63)).trans c_33_10) rfl) rfl rfl rfl ?_
        refine r_p hq 1 (pc' := 468) (L' := [(0, .ref 0), (1, .ref 39), (2, .ref 143), (3, .int X3)]) (st' := [.ref 39]) rfl ?_
        obtain ⟨o_468, h_468, h⟩ := Option.bind_eq_some_iff.mp h
        refine r_cvI (pc' := 471) (L' := [(0, .ref 0), (1, .ref 39), (2, .ref 143), (3, .int X3)]) (Ps := []) (rest := []) hq (z_at.mk 3 rfl rfl) (Or.inl ⟨rfl, rfl⟩) rfl rfl (by decide) (by decide) rfl (Nat.not_lt.mpr (Nat.le_of_ble_eq_true rfl)) rfl rfl (z_cat_le 0 rfl (by decide)) (z_lgl_le 1 rfl (by decide)) (by decide) (H.tg rfl) (by omega) (g_c_spell_ok H h_468) rfl rfl ?_
        intro R_468 m_468 p_468 e_468 hR_468 H_468
        refine r_p hq 2 (pc' := 473) (L' := [(0, .ref 0), (1, .ref 39), (2, .ref 143), (3, .int X3)]) (st' := [.ref 143]) rfl ?_
        obtain ⟨o_473, h_473, h⟩ := Option.bind_eq_some_iff.mp h
        refine r_cvI (pc' := 476) (L' := [(0, .ref 0), (1, .ref 39), (2, .ref 143), (3, .int X3)]) (Ps := []) (rest := []) hq (z_at.mk 3 rfl rfl) (Or.inl ⟨rfl, rfl⟩) rfl rfl (by decide) (by decide) rfl (Nat.not_lt.mpr (Nat.le_of_ble_eq_true rfl)) rfl rfl (z_cat_le 0 rfl (by decide)) (z_lgl_le 1 rfl (by decide)) (by decide) (H_468.tg rfl) (by omega) (g_m_spell_ok H_468 h_473) rfl rfl ?_
        intro R_473 m_473 p_473 e_473 hR_473 H_473
        subst e_473
        refine r_p hq 2 (pc' := 1368) (L' := [(0, .ref 0), (1, .ref 39), (2, .ref 143), (3, .int X3)]) (st' := []) rfl ?_
        exact g_jRangeAnswersLaw_law_L1368_ok hxl ih hx3 H_473 h
      rcases z_ite h with ⟨c_33_11, h⟩ | ⟨c_33_11, h⟩
      · refine r_sw (off := 447) (pc' := 480) (L' := [(0, .ref 0), (1, .ref 39), (2, .ref 143), (3, .int X3)]) hq (z_at.mk 163 rfl rfl) (z_off_v ((tx_iand hV_29 (rfl : (63 : Int32).toInt = 63)).trans c_33_11) rfl) rfl rfl rfl ?_
        refine r_p hq 1 (pc' := 481) (L' := [(0, .ref 0), (1, .ref 39), (2, .ref 143), (3, .int X3)]) (st' := [.ref 39]) rfl ?_
        obtain ⟨o_481, h_481, h⟩ := Option.bind_eq_some_iff.mp h
        refine r_cvI (pc' := 484) (L' := [(0, .ref 0), (1, .ref 39), (2, .ref 143), (3, .int X3)]) (Ps := []) (rest := []) hq (z_at.mk 3 rfl rfl) (Or.inl ⟨rfl, rfl⟩) rfl rfl (by decide) (by decide) rfl (Nat.not_lt.mpr (Nat.le_of_ble_eq_true rfl)) rfl rfl (z_cat_le 0 rfl (by decide)) (z_lgl_le 1 rfl (by decide)) (by decide) (H.tg rfl) (by omega) (g_c_load_ok H h_481) rfl rfl ?_
        intro R_481 m_481 p_481 e_481 hR_481 H_481
        subst e_481
        refine r_p hq 2 (pc' := 486) (L' := [(0, .ref 0), (1, .ref 39), (2, .ref 143), (3, .int X3)]) (st' := [.ref 143]) rfl ?_
        obtain ⟨o_486, h_486, h⟩ := Option.bind_eq_some_iff.mp h
        refine r_cvI (pc' := 489) (L' := [(0, .ref 0), (1, .ref 39), (2, .ref 143), (3, .int X3)]) (Ps := []) (rest := []) hq (z_at.mk 3 rfl rfl) (Or.inl ⟨rfl, rfl⟩) rfl rfl (by decide) (by decide) rfl (Nat.not_lt.mpr (Nat.le_of_ble_eq_true rfl)) rfl rfl (z_cat_le 0 rfl (by decide)) (z_lgl_le 1 rfl (by decide)) (by decide) (H_481.tg rfl) (by omega) (g_m_load_ok H_481 h_486) rfl rfl ?_
        intro R_486 m_486 p_486 e_486 hR_486 H_486
        subst e_486
        refine r_p hq 2 (pc' := 1368) (L' := [(0, .ref 0), (1, .ref 39), (2, .ref 143), (3, .int X3)]) (st' := []) rfl ?_
        exact g_jRangeAnswersLaw_law_L1368_ok hxl ih hx3 H_486 h
      rcases z_ite h with ⟨c_33_12, h⟩ | ⟨c_33_12, h⟩
      · refine r_sw (off := 460) (pc' := 493) (L' := [(0, .ref 0), (1, .ref 39), (2, .ref 143), (3, .int X3)]) hq (z_at.mk 163 rfl rfl) (z_off_v ((tx_iand hV_29 (rfl : (63 : Int32).toInt = 63)).trans c_33_12) rfl) rfl rfl rfl ?_
        refine r_p hq 5 (pc' := 498) (L' := [(0, .ref 0), (1, .ref 39), (2, .ref 143), (3, .int X3)]) (st' := [.int (X3 + ((1 : Int32))), .ref 0, .ref 39]) rfl ?_
        obtain ⟨g_498, h⟩ := z_ifo_some h
        refine r_iaS (pc' := 499) (L' := [(0, .ref 0), (1, .ref 39), (2, .ref 143), (3, .int X3)]) H hq (z_at.mk 1 rfl rfl) (tx_iadd hx3 (rfl : (1 : Int32).toInt = 1)) g_498 rfl rfl ?_
        intro V_498 hV_498
        refine r_p hq 4 (pc' := 503) (L' := [(0, .ref 0), (1, .ref 39), (2, .ref 143), (3, .int X3)]) (st' := [.int (X3 + ((2 : Int32))), .ref 0, .int V_498, .ref 39]) rfl ?_
        obtain ⟨g_503, h⟩ := z_ifo_some h
        refine r_iaS (pc' := 504) (L' := [(0, .ref 0), (1, .ref 39), (2, .ref 143), (3, .int X3)]) H hq (z_at.mk 1 rfl rfl) (tx_iadd hx3 (rfl : (2 : Int32).toInt = 2)) g_503 rfl rfl ?_
        intro V_503 hV_503
        refine r_p hq 4 (pc' := 508) (L' := [(0, .ref 0), (1, .ref 39), (2, .ref 143), (3, .int X3)]) (st' := [.int (X3 + ((3 : Int32))), .ref 0, .int V_503, .int V_498, .ref 39]) rfl ?_
        obtain ⟨g_508, h⟩ := z_ifo_some h
        refine r_iaS (pc' := 509) (L' := [(0, .ref 0), (1, .ref 39), (2, .ref 143), (3, .int X3)]) H hq (z_at.mk 1 rfl rfl) (tx_iadd hx3 (rfl : (3 : Int32).toInt = 3)) g_508 rfl rfl ?_
        intro V_508 hV_508
        refine r_p hq 4 (pc' := 513) (L' := [(0, .ref 0), (1, .ref 39), (2, .ref 143), (3, .int X3)]) (st' := [.int (X3 + ((4 : Int32))), .ref 0, .int V_508, .int V_503, .int V_498, .ref 39]) rfl ?_
        obtain ⟨g_513, h⟩ := z_ifo_some h
        refine r_iaS (pc' := 514) (L' := [(0, .ref 0), (1, .ref 39), (2, .ref 143), (3, .int X3)]) H hq (z_at.mk 1 rfl rfl) (tx_iadd hx3 (rfl : (4 : Int32).toInt = 4)) g_513 rfl rfl ?_
        intro V_513 hV_513
        obtain ⟨o_514, h_514, h⟩ := Option.bind_eq_some_iff.mp h
        refine r_cvI (pc' := 517) (L' := [(0, .ref 0), (1, .ref 39), (2, .ref 143), (3, .int X3)]) (Ps := [.int V_498, .int V_503, .int V_508, .int V_513]) (rest := []) hq (z_at.mk 3 rfl rfl) (Or.inl ⟨rfl, rfl⟩) rfl rfl (by decide) (by decide) rfl (Nat.not_lt.mpr (Nat.le_of_ble_eq_true rfl)) rfl rfl (z_cat_le 0 rfl (by decide)) (z_lgl_le 5 rfl (by decide)) (by decide) (H.tg rfl) (by omega) (g_c_explain_ok hV_498 hV_503 hV_508 hV_513 H h_514) rfl rfl ?_
        intro R_514 m_514 p_514 e_514 hR_514 H_514
        refine r_p hq 6 (pc' := 523) (L' := [(0, .ref 0), (1, .ref 39), (2, .ref 143), (3, .int X3)]) (st' := [.int (X3 + ((1 : Int32))), .ref 0, .ref 143]) rfl ?_
        obtain ⟨g_523, h⟩ := z_ifo_some h
        refine r_iaS (pc' := 524) (L' := [(0, .ref 0), (1, .ref 39), (2, .ref 143), (3, .int X3)]) H_514 hq (z_at.mk 1 rfl rfl) (tx_iadd hx3 (rfl : (1 : Int32).toInt = 1)) g_523 rfl rfl ?_
        intro V_523 hV_523
        refine r_p hq 4 (pc' := 528) (L' := [(0, .ref 0), (1, .ref 39), (2, .ref 143), (3, .int X3)]) (st' := [.int (X3 + ((2 : Int32))), .ref 0, .int V_523, .ref 143]) rfl ?_
        obtain ⟨g_528, h⟩ := z_ifo_some h
        refine r_iaS (pc' := 529) (L' := [(0, .ref 0), (1, .ref 39), (2, .ref 143), (3, .int X3)]) H_514 hq (z_at.mk 1 rfl rfl) (tx_iadd hx3 (rfl : (2 : Int32).toInt = 2)) g_528 rfl rfl ?_
        intro V_528 hV_528
        refine r_p hq 4 (pc' := 533) (L' := [(0, .ref 0), (1, .ref 39), (2, .ref 143), (3, .int X3)]) (st' := [.int (X3 + ((3 : Int32))), .ref 0, .int V_528, .int V_523, .ref 143]) rfl ?_
        obtain ⟨g_533, h⟩ := z_ifo_some h
        refine r_iaS (pc' := 534) (L' := [(0, .ref 0), (1, .ref 39), (2, .ref 143), (3, .int X3)]) H_514 hq (z_at.mk 1 rfl rfl) (tx_iadd hx3 (rfl : (3 : Int32).toInt = 3)) g_533 rfl rfl ?_
        intro V_533 hV_533
        refine r_p hq 4 (pc' := 538) (L' := [(0, .ref 0), (1, .ref 39), (2, .ref 143), (3, .int X3)]) (st' := [.int (X3 + ((4 : Int32))), .ref 0, .int V_533, .int V_528, .int V_523, .ref 143]) rfl ?_
        obtain ⟨g_538, h⟩ := z_ifo_some h
        refine r_iaS (pc' := 539) (L' := [(0, .ref 0), (1, .ref 39), (2, .ref 143), (3, .int X3)]) H_514 hq (z_at.mk 1 rfl rfl) (tx_iadd hx3 (rfl : (4 : Int32).toInt = 4)) g_538 rfl rfl ?_
        intro V_538 hV_538
        obtain ⟨o_539, h_539, h⟩ := Option.bind_eq_some_iff.mp h
        refine r_cvI (pc' := 542) (L' := [(0, .ref 0), (1, .ref 39), (2, .ref 143), (3, .int X3)]) (Ps := [.int V_523, .int V_528, .int V_533, .int V_538]) (rest := []) hq (z_at.mk 3 rfl rfl) (Or.inl ⟨rfl, rfl⟩) rfl rfl (by decide) (by decide) rfl (Nat.not_lt.mpr (Nat.le_of_ble_eq_true rfl)) rfl rfl (z_cat_le 0 rfl (by decide)) (z_lgl_le 5 rfl (by decide)) (by decide) (H_514.tg rfl) (by omega) (g_m_explain_ok hV_523 hV_528 hV_533 hV_538 H_514 h_539) rfl rfl ?_
        intro R_539 m_539 p_539 e_539 hR_539 H_539
        subst e_539
        refine r_p hq 2 (pc' := 1368) (L' := [(0, .ref 0), (1, .ref 39), (2, .ref 143), (3, .int X3)]) (st' := []) rfl ?_
        exact g_jRangeAnswersLaw_law_L1368_ok hxl ih hx3 H_539 h
      rcases z_ite h with ⟨c_33_13, h⟩ | ⟨c_33_13, h⟩
      · refine r_sw (off := 513) (pc' := 546) (L' := [(0, .ref 0), (1, .ref 39), (2, .ref 143), (3, .int X3)]) hq (z_at.mk 163 rfl rfl) (z_off_v ((tx_iand hV_29 (rfl : (63 : Int32).toInt = 63)).trans c_33_13) rfl) rfl rfl rfl ?_
        refine r_p hq 5 (pc' := 551) (L' := [(0, .ref 0), (1, .ref 39), (2, .ref 143), (3, .int X3)]) (st' := [.int (X3 + ((1 : Int32))), .ref 0, .ref 39]) rfl ?_
        obtain ⟨g_551, h⟩ := z_ifo_some h
        refine r_iaS (pc' := 552) (L' := [(0, .ref 0), (1, .ref 39), (2, .ref 143), (3, .int X3)]) H hq (z_at.mk 1 rfl rfl) (tx_iadd hx3 (rfl : (1 : Int32).toInt = 1)) g_551 rfl rfl ?_
        intro V_551 hV_551
        obtain ⟨o_552, h_552, h⟩ := Option.bind_eq_some_iff.mp h
        refine r_cvI (pc' := 555) (L' := [(0, .ref 0), (1, .ref 39), (2, .ref 143), (3, .int X3)]) (Ps := [.int V_551]) (rest := []) hq (z_at.mk 3 rfl rfl) (Or.inl ⟨rfl, rfl⟩) rfl rfl (by decide) (by decide) rfl (Nat.not_lt.mpr (Nat.le_of_ble_eq_true rfl)) rfl rfl (z_cat_le 0 rfl (by decide)) (z_lgl_le 2 rfl (by decide)) (by decide) (H.tg rfl) (by omega) (g_c_paper_ok hV_551 H h_552) rfl rfl ?_
        intro R_552 m_552 p_552 e_552 hR_552 H_552
        subst e_552
        refine r_p hq 6 (pc' := 561) (L' := [(0, .ref 0), (1, .ref 39), (2, .ref 143), (3, .int X3)]) (st' := [.int (X3 + ((1 : Int32))), .ref 0, .ref 143]) rfl ?_
        obtain ⟨g_561, h⟩ := z_ifo_some h
        refine r_iaS (pc' := 562) (L' := [(0, .ref 0), (1, .ref 39), (2, .ref 143), (3, .int X3)]) H_552 hq (z_at.mk 1 rfl rfl) (tx_iadd hx3 (rfl : (1 : Int32).toInt = 1)) g_561 rfl rfl ?_
        intro V_561 hV_561
        obtain ⟨o_562, h_562, h⟩ := Option.bind_eq_some_iff.mp h
        refine r_cvI (pc' := 565) (L' := [(0, .ref 0), (1, .ref 39), (2, .ref 143), (3, .int X3)]) (Ps := [.int V_561]) (rest := []) hq (z_at.mk 3 rfl rfl) (Or.inl ⟨rfl, rfl⟩) rfl rfl (by decide) (by decide) rfl (Nat.not_lt.mpr (Nat.le_of_ble_eq_true rfl)) rfl rfl (z_cat_le 0 rfl (by decide)) (z_lgl_le 2 rfl (by decide)) (by decide) (H_552.tg rfl) (by omega) (g_m_paper_ok hV_561 H_552 h_562) rfl rfl ?_
        intro R_562 m_562 p_562 e_562 hR_562 H_562
        subst e_562
        refine r_p hq 2 (pc' := 1368) (L' := [(0, .ref 0), (1, .ref 39), (2, .ref 143), (3, .int X3)]) (st' := []) rfl ?_
        exact g_jRangeAnswersLaw_law_L1368_ok hxl ih hx3 H_562 h
      rcases z_ite h with ⟨c_33_14, h⟩ | ⟨c_33_14, h⟩
      · refine r_sw (off := 536) (pc' := 569) (L' := [(0, .ref 0), (1, .ref 39), (2, .ref 143), (3, .int X3)]) hq (z_at.mk 163 rfl rfl) (z_off_v ((tx_iand hV_29 (rfl : (63 : Int32).toInt = 63)).trans c_33_14) rfl) rfl rfl rfl ?_
        refine r_p hq 5 (pc' := 574) (L' := [(0, .ref 0), (1, .ref 39), (2, .ref 143), (3, .int X3)]) (st' := [.int (X3 + ((1 : Int32))), .ref 0, .ref 39]) rfl ?_
        obtain ⟨g_574, h⟩ := z_ifo_some h
        refine r_iaS (pc' := 575) (L' := [(0, .ref 0), (1, .ref 39), (2, .ref 143), (3, .int X3)]) H hq (z_at.mk 1 rfl rfl) (tx_iadd hx3 (rfl : (1 : Int32).toInt = 1)) g_574 rfl rfl ?_
        intro V_574 hV_574
        refine r_p hq 4 (pc' := 579) (L' := [(0, .ref 0), (1, .ref 39), (2, .ref 143), (3, .int X3)]) (st' := [.int (X3 + ((2 : Int32))), .ref 0, .int V_574, .ref 39]) rfl ?_
        obtain ⟨g_579, h⟩ := z_ifo_some h
        refine r_iaS (pc' := 580) (L' := [(0, .ref 0), (1, .ref 39), (2, .ref 143), (3, .int X3)]) H hq (z_at.mk 1 rfl rfl) (tx_iadd hx3 (rfl : (2 : Int32).toInt = 2)) g_579 rfl rfl ?_
        intro V_579 hV_579
        refine r_p hq 4 (pc' := 584) (L' := [(0, .ref 0), (1, .ref 39), (2, .ref 143), (3, .int X3)]) (st' := [.int (X3 + ((3 : Int32))), .ref 0, .int V_579, .int V_574, .ref 39]) rfl ?_
        obtain ⟨g_584, h⟩ := z_ifo_some h
        refine r_iaS (pc' := 585) (L' := [(0, .ref 0), (1, .ref 39), (2, .ref 143), (3, .int X3)]) H hq (z_at.mk 1 rfl rfl) (tx_iadd hx3 (rfl : (3 : Int32).toInt = 3)) g_584 rfl rfl ?_
        intro V_584 hV_584
        refine r_p hq 4 (pc' := 589) (L' := [(0, .ref 0), (1, .ref 39), (2, .ref 143), (3, .int X3)]) (st' := [.int (X3 + ((4 : Int32))), .ref 0, .int V_584, .int V_579, .int V_574, .ref 39]) rfl ?_
        obtain ⟨g_589, h⟩ := z_ifo_some h
        refine r_iaS (pc' := 590) (L' := [(0, .ref 0), (1, .ref 39), (2, .ref 143), (3, .int X3)]) H hq (z_at.mk 1 rfl rfl) (tx_iadd hx3 (rfl : (4 : Int32).toInt = 4)) g_589 rfl rfl ?_
        intro V_589 hV_589
        refine r_p hq 4 (pc' := 594) (L' := [(0, .ref 0), (1, .ref 39), (2, .ref 143), (3, .int X3)]) (st' := [.int (X3 + ((5 : Int32))), .ref 0, .int V_589, .int V_584, .int V_579, .int V_574, .ref 39]) rfl ?_
        obtain ⟨g_594, h⟩ := z_ifo_some h
        refine r_iaS (pc' := 595) (L' := [(0, .ref 0), (1, .ref 39), (2, .ref 143), (3, .int X3)]) H hq (z_at.mk 1 rfl rfl) (tx_iadd hx3 (rfl : (5 : Int32).toInt = 5)) g_594 rfl rfl ?_
        intro V_594 hV_594
        obtain ⟨o_595, h_595, h⟩ := Option.bind_eq_some_iff.mp h
        refine r_cvL (pc' := 598) (L' := [(0, .ref 0), (1, .ref 39), (2, .ref 143), (3, .int X3)]) (Ps := [.int V_574, .int V_579, .int V_584, .int V_589, .int V_594]) (rest := []) hq (z_at.mk 3 rfl rfl) (Or.inl ⟨rfl, rfl⟩) rfl rfl (by decide) (by decide) rfl (Nat.not_lt.mpr (Nat.le_of_ble_eq_true rfl)) rfl rfl (z_cat_le 0 rfl (by decide)) (z_lgl_le 6 rfl (by decide)) (by decide) (H.tg rfl) (by omega) (g_c_query_ok hV_574 hV_579 hV_584 hV_589 hV_594 H h_595) rfl rfl ?_
        intro R_595 m_595 p_595 e_595 hR_595 H_595
        subst e_595
        refine r_p hq 6 (pc' := 604) (L' := [(0, .ref 0), (1, .ref 39), (2, .ref 143), (3, .int X3)]) (st' := [.int (X3 + ((1 : Int32))), .ref 0, .ref 143]) rfl ?_
        obtain ⟨g_604, h⟩ := z_ifo_some h
        refine r_iaS (pc' := 605) (L' := [(0, .ref 0), (1, .ref 39), (2, .ref 143), (3, .int X3)]) H_595 hq (z_at.mk 1 rfl rfl) (tx_iadd hx3 (rfl : (1 : Int32).toInt = 1)) g_604 rfl rfl ?_
        intro V_604 hV_604
        refine r_p hq 4 (pc' := 609) (L' := [(0, .ref 0), (1, .ref 39), (2, .ref 143), (3, .int X3)]) (st' := [.int (X3 + ((2 : Int32))), .ref 0, .int V_604, .ref 143]) rfl ?_
        obtain ⟨g_609, h⟩ := z_ifo_some h
        refine r_iaS (pc' := 610) (L' := [(0, .ref 0), (1, .ref 39), (2, .ref 143), (3, .int X3)]) H_595 hq (z_at.mk 1 rfl rfl) (tx_iadd hx3 (rfl : (2 : Int32).toInt = 2)) g_609 rfl rfl ?_
        intro V_609 hV_609
        refine r_p hq 4 (pc' := 614) (L' := [(0, .ref 0), (1, .ref 39), (2, .ref 143), (3, .int X3)]) (st' := [.int (X3 + ((3 : Int32))), .ref 0, .int V_609, .int V_604, .ref 143]) rfl ?_
        obtain ⟨g_614, h⟩ := z_ifo_some h
        refine r_iaS (pc' := 615) (L' := [(0, .ref 0), (1, .ref 39), (2, .ref 143), (3, .int X3)]) H_595 hq (z_at.mk 1 rfl rfl) (tx_iadd hx3 (rfl : (3 : Int32).toInt = 3)) g_614 rfl rfl ?_
        intro V_614 hV_614
        refine r_p hq 4 (pc' := 619) (L' := [(0, .ref 0), (1, .ref 39), (2, .ref 143), (3, .int X3)]) (st' := [.int (X3 + ((4 : Int32))), .ref 0, .int V_614, .int V_609, .int V_604, .ref 143]) rfl ?_
        obtain ⟨g_619, h⟩ := z_ifo_some h
        refine r_iaS (pc' := 620) (L' := [(0, .ref 0), (1, .ref 39), (2, .ref 143), (3, .int X3)]) H_595 hq (z_at.mk 1 rfl rfl) (tx_iadd hx3 (rfl : (4 : Int32).toInt = 4)) g_619 rfl rfl ?_
        intro V_619 hV_619
        refine r_p hq 4 (pc' := 624) (L' := [(0, .ref 0), (1, .ref 39), (2, .ref 143), (3, .int X3)]) (st' := [.int (X3 + ((5 : Int32))), .ref 0, .int V_619, .int V_614, .int V_609, .int V_604, .ref 143]) rfl ?_
        obtain ⟨g_624, h⟩ := z_ifo_some h
        refine r_iaS (pc' := 625) (L' := [(0, .ref 0), (1, .ref 39), (2, .ref 143), (3, .int X3)]) H_595 hq (z_at.mk 1 rfl rfl) (tx_iadd hx3 (rfl : (5 : Int32).toInt = 5)) g_624 rfl rfl ?_
        intro V_624 hV_624
        obtain ⟨o_625, h_625, h⟩ := Option.bind_eq_some_iff.mp h
        refine r_cvL (pc' := 628) (L' := [(0, .ref 0), (1, .ref 39), (2, .ref 143), (3, .int X3)]) (Ps := [.int V_604, .int V_609, .int V_614, .int V_619, .int V_624]) (rest := []) hq (z_at.mk 3 rfl rfl) (Or.inl ⟨rfl, rfl⟩) rfl rfl (by decide) (by decide) rfl (Nat.not_lt.mpr (Nat.le_of_ble_eq_true rfl)) rfl rfl (z_cat_le 0 rfl (by decide)) (z_lgl_le 6 rfl (by decide)) (by decide) (H_595.tg rfl) (by omega) (g_m_query_ok hV_604 hV_609 hV_614 hV_619 hV_624 H_595 h_625) rfl rfl ?_
        intro R_625 m_625 p_625 e_625 hR_625 H_625
        subst e_625
        refine r_p hq 2 (pc' := 1368) (L' := [(0, .ref 0), (1, .ref 39), (2, .ref 143), (3, .int X3)]) (st' := []) rfl ?_
        exact g_jRangeAnswersLaw_law_L1368_ok hxl ih hx3 H_625 h
      rcases z_ite h with ⟨c_33_15, h⟩ | ⟨c_33_15, h⟩
      · refine r_sw (off := 599) (pc' := 632) (L' := [(0, .ref 0), (1, .ref 39), (2, .ref 143), (3, .int X3)]) hq (z_at.mk 163 rfl rfl) (z_off_v ((tx_iand hV_29 (rfl : (63 : Int32).toInt = 63)).trans c_33_15) rfl) rfl rfl rfl ?_
        refine r_p hq 5 (pc' := 637) (L' := [(0, .ref 0), (1, .ref 39), (2, .ref 143), (3, .int X3)]) (st' := [.int (X3 + ((1 : Int32))), .ref 0, .ref 39]) rfl ?_
        obtain ⟨g_637, h⟩ := z_ifo_some h
        refine r_iaS (pc' := 638) (L' := [(0, .ref 0), (1, .ref 39), (2, .ref 143), (3, .int X3)]) H hq (z_at.mk 1 rfl rfl) (tx_iadd hx3 (rfl : (1 : Int32).toInt = 1)) g_637 rfl rfl ?_
        intro V_637 hV_637
        obtain ⟨o_638, h_638, h⟩ := Option.bind_eq_some_iff.mp h
        refine r_cvI (pc' := 641) (L' := [(0, .ref 0), (1, .ref 39), (2, .ref 143), (3, .int X3)]) (Ps := [.int V_637]) (rest := []) hq (z_at.mk 3 rfl rfl) (Or.inl ⟨rfl, rfl⟩) rfl rfl (by decide) (by decide) rfl (Nat.not_lt.mpr (Nat.le_of_ble_eq_true rfl)) rfl rfl (z_cat_le 0 rfl (by decide)) (z_lgl_le 2 rfl (by decide)) (by decide) (H.tg rfl) (by omega) (g_c_find_ok hV_637 H h_638) rfl rfl ?_
        intro R_638 m_638 p_638 e_638 hR_638 H_638
        subst e_638
        refine r_p hq 6 (pc' := 647) (L' := [(0, .ref 0), (1, .ref 39), (2, .ref 143), (3, .int X3)]) (st' := [.int (X3 + ((1 : Int32))), .ref 0, .ref 143]) rfl ?_
        obtain ⟨g_647, h⟩ := z_ifo_some h
        refine r_iaS (pc' := 648) (L' := [(0, .ref 0), (1, .ref 39), (2, .ref 143), (3, .int X3)]) H_638 hq (z_at.mk 1 rfl rfl) (tx_iadd hx3 (rfl : (1 : Int32).toInt = 1)) g_647 rfl rfl ?_
        intro V_647 hV_647
        obtain ⟨o_648, h_648, h⟩ := Option.bind_eq_some_iff.mp h
        refine r_cvI (pc' := 651) (L' := [(0, .ref 0), (1, .ref 39), (2, .ref 143), (3, .int X3)]) (Ps := [.int V_647]) (rest := []) hq (z_at.mk 3 rfl rfl) (Or.inl ⟨rfl, rfl⟩) rfl rfl (by decide) (by decide) rfl (Nat.not_lt.mpr (Nat.le_of_ble_eq_true rfl)) rfl rfl (z_cat_le 0 rfl (by decide)) (z_lgl_le 2 rfl (by decide)) (by decide) (H_638.tg rfl) (by omega) (g_m_find_ok hV_647 H_638 h_648) rfl rfl ?_
        intro R_648 m_648 p_648 e_648 hR_648 H_648
        subst e_648
        refine r_p hq 2 (pc' := 1368) (L' := [(0, .ref 0), (1, .ref 39), (2, .ref 143), (3, .int X3)]) (st' := []) rfl ?_
        exact g_jRangeAnswersLaw_law_L1368_ok hxl ih hx3 H_648 h
      rcases z_ite h with ⟨c_33_16, h⟩ | ⟨c_33_16, h⟩
      · refine r_sw (off := 622) (pc' := 655) (L' := [(0, .ref 0), (1, .ref 39), (2, .ref 143), (3, .int X3)]) hq (z_at.mk 163 rfl rfl) (z_off_v ((tx_iand hV_29 (rfl : (63 : Int32).toInt = 63)).trans c_33_16) rfl) rfl rfl rfl ?_
        refine r_p hq 5 (pc' := 660) (L' := [(0, .ref 0), (1, .ref 39), (2, .ref 143), (3, .int X3)]) (st' := [.int (X3 + ((1 : Int32))), .ref 0, .ref 39]) rfl ?_
        obtain ⟨g_660, h⟩ := z_ifo_some h
        refine r_iaS (pc' := 661) (L' := [(0, .ref 0), (1, .ref 39), (2, .ref 143), (3, .int X3)]) H hq (z_at.mk 1 rfl rfl) (tx_iadd hx3 (rfl : (1 : Int32).toInt = 1)) g_660 rfl rfl ?_
        intro V_660 hV_660
        refine r_p hq 4 (pc' := 665) (L' := [(0, .ref 0), (1, .ref 39), (2, .ref 143), (3, .int X3)]) (st' := [.int (X3 + ((2 : Int32))), .ref 0, .int V_660, .ref 39]) rfl ?_
        obtain ⟨g_665, h⟩ := z_ifo_some h
        refine r_iaS (pc' := 666) (L' := [(0, .ref 0), (1, .ref 39), (2, .ref 143), (3, .int X3)]) H hq (z_at.mk 1 rfl rfl) (tx_iadd hx3 (rfl : (2 : Int32).toInt = 2)) g_665 rfl rfl ?_
        intro V_665 hV_665
        refine r_p hq 4 (pc' := 670) (L' := [(0, .ref 0), (1, .ref 39), (2, .ref 143), (3, .int X3)]) (st' := [.int (X3 + ((3 : Int32))), .ref 0, .int V_665, .int V_660, .ref 39]) rfl ?_
        obtain ⟨g_670, h⟩ := z_ifo_some h
        refine r_iaS (pc' := 671) (L' := [(0, .ref 0), (1, .ref 39), (2, .ref 143), (3, .int X3)]) H hq (z_at.mk 1 rfl rfl) (tx_iadd hx3 (rfl : (3 : Int32).toInt = 3)) g_670 rfl rfl ?_
        intro V_670 hV_670
        refine r_p hq 4 (pc' := 675) (L' := [(0, .ref 0), (1, .ref 39), (2, .ref 143), (3, .int X3)]) (st' := [.int (X3 + ((4 : Int32))), .ref 0, .int V_670, .int V_665, .int V_660, .ref 39]) rfl ?_
        obtain ⟨g_675, h⟩ := z_ifo_some h
        refine r_iaS (pc' := 676) (L' := [(0, .ref 0), (1, .ref 39), (2, .ref 143), (3, .int X3)]) H hq (z_at.mk 1 rfl rfl) (tx_iadd hx3 (rfl : (4 : Int32).toInt = 4)) g_675 rfl rfl ?_
        intro V_675 hV_675
        obtain ⟨o_676, h_676, h⟩ := Option.bind_eq_some_iff.mp h
        refine r_cvI (pc' := 679) (L' := [(0, .ref 0), (1, .ref 39), (2, .ref 143), (3, .int X3)]) (Ps := [.int V_660, .int V_665, .int V_670, .int V_675]) (rest := []) hq (z_at.mk 3 rfl rfl) (Or.inl ⟨rfl, rfl⟩) rfl rfl (by decide) (by decide) rfl (Nat.not_lt.mpr (Nat.le_of_ble_eq_true rfl)) rfl rfl (z_cat_le 0 rfl (by decide)) (z_lgl_le 5 rfl (by decide)) (by decide) (H.tg rfl) (by omega) (g_c_probe_ok hV_660 hV_665 hV_670 hV_675 H h_676) rfl rfl ?_
        intro R_676 m_676 p_676 e_676 hR_676 H_676
        subst e_676
        refine r_p hq 6 (pc' := 685) (L' := [(0, .ref 0), (1, .ref 39), (2, .ref 143), (3, .int X3)]) (st' := [.int (X3 + ((1 : Int32))), .ref 0, .ref 143]) rfl ?_
        obtain ⟨g_685, h⟩ := z_ifo_some h
        refine r_iaS (pc' := 686) (L' := [(0, .ref 0), (1, .ref 39), (2, .ref 143), (3, .int X3)]) H_676 hq (z_at.mk 1 rfl rfl) (tx_iadd hx3 (rfl : (1 : Int32).toInt = 1)) g_685 rfl rfl ?_
        intro V_685 hV_685
        refine r_p hq 4 (pc' := 690) (L' := [(0, .ref 0), (1, .ref 39), (2, .ref 143), (3, .int X3)]) (st' := [.int (X3 + ((2 : Int32))), .ref 0, .int V_685, .ref 143]) rfl ?_
        obtain ⟨g_690, h⟩ := z_ifo_some h
        refine r_iaS (pc' := 691) (L' := [(0, .ref 0), (1, .ref 39), (2, .ref 143), (3, .int X3)]) H_676 hq (z_at.mk 1 rfl rfl) (tx_iadd hx3 (rfl : (2 : Int32).toInt = 2)) g_690 rfl rfl ?_
        intro V_690 hV_690
        refine r_p hq 4 (pc' := 695) (L' := [(0, .ref 0), (1, .ref 39), (2, .ref 143), (3, .int X3)]) (st' := [.int (X3 + ((3 : Int32))), .ref 0, .int V_690, .int V_685, .ref 143]) rfl ?_
        obtain ⟨g_695, h⟩ := z_ifo_some h
        refine r_iaS (pc' := 696) (L' := [(0, .ref 0), (1, .ref 39), (2, .ref 143), (3, .int X3)]) H_676 hq (z_at.mk 1 rfl rfl) (tx_iadd hx3 (rfl : (3 : Int32).toInt = 3)) g_695 rfl rfl ?_
        intro V_695 hV_695
        refine r_p hq 4 (pc' := 700) (L' := [(0, .ref 0), (1, .ref 39), (2, .ref 143), (3, .int X3)]) (st' := [.int (X3 + ((4 : Int32))), .ref 0, .int V_695, .int V_690, .int V_685, .ref 143]) rfl ?_
        obtain ⟨g_700, h⟩ := z_ifo_some h
        refine r_iaS (pc' := 701) (L' := [(0, .ref 0), (1, .ref 39), (2, .ref 143), (3, .int X3)]) H_676 hq (z_at.mk 1 rfl rfl) (tx_iadd hx3 (rfl : (4 : Int32).toInt = 4)) g_700 rfl rfl ?_
        intro V_700 hV_700
        obtain ⟨o_701, h_701, h⟩ := Option.bind_eq_some_iff.mp h
        refine r_cvI (pc' := 704) (L' := [(0, .ref 0), (1, .ref 39), (2, .ref 143), (3, .int X3)]) (Ps := [.int V_685, .int V_690, .int V_695, .int V_700]) (rest := []) hq (z_at.mk 3 rfl rfl) (Or.inl ⟨rfl, rfl⟩) rfl rfl (by decide) (by decide) rfl (Nat.not_lt.mpr (Nat.le_of_ble_eq_true rfl)) rfl rfl (z_cat_le 0 rfl (by decide)) (z_lgl_le 5 rfl (by decide)) (by decide) (H_676.tg rfl) (by omega) (g_m_probe_ok hV_685 hV_690 hV_695 hV_700 H_676 h_701) rfl rfl ?_
        intro R_701 m_701 p_701 e_701 hR_701 H_701
        subst e_701
        refine r_p hq 2 (pc' := 1368) (L' := [(0, .ref 0), (1, .ref 39), (2, .ref 143), (3, .int X3)]) (st' := []) rfl ?_
        exact g_jRangeAnswersLaw_law_L1368_ok hxl ih hx3 H_701 h
      rcases z_ite h with ⟨c_33_17, h⟩ | ⟨c_33_17, h⟩
      · refine r_sw (off := 675) (pc' := 708) (L' := [(0, .ref 0), (1, .ref 39), (2, .ref 143), (3, .int X3)]) hq (z_at.mk 163 rfl rfl) (z_off_v ((tx_iand hV_29 (rfl : (63 : Int32).toInt = 63)).trans c_33_17) rfl) rfl rfl rfl ?_
        refine r_p hq 5 (pc' := 713) (L' := [(0, .ref 0), (1, .ref 39), (2, .ref 143), (3, .int X3)]) (st' := [.int (X3 + ((1 : Int32))), .ref 0, .ref 39]) rfl ?_
        obtain ⟨g_713, h⟩ := z_ifo_some h
        refine r_iaS (pc' := 714) (L' := [(0, .ref 0), (1, .ref 39), (2, .ref 143), (3, .int X3)]) H hq (z_at.mk 1 rfl rfl) (tx_iadd hx3 (rfl : (1 : Int32).toInt = 1)) g_713 rfl rfl ?_
        intro V_713 hV_713
        refine r_p hq 4 (pc' := 718) (L' := [(0, .ref 0), (1, .ref 39), (2, .ref 143), (3, .int X3)]) (st' := [.int (X3 + ((2 : Int32))), .ref 0, .int V_713, .ref 39]) rfl ?_
        obtain ⟨g_718, h⟩ := z_ifo_some h
        refine r_iaS (pc' := 719) (L' := [(0, .ref 0), (1, .ref 39), (2, .ref 143), (3, .int X3)]) H hq (z_at.mk 1 rfl rfl) (tx_iadd hx3 (rfl : (2 : Int32).toInt = 2)) g_718 rfl rfl ?_
        intro V_718 hV_718
        obtain ⟨o_719, h_719, h⟩ := Option.bind_eq_some_iff.mp h
        refine r_cvI (pc' := 722) (L' := [(0, .ref 0), (1, .ref 39), (2, .ref 143), (3, .int X3)]) (Ps := [.int V_713, .int V_718]) (rest := []) hq (z_at.mk 3 rfl rfl) (Or.inl ⟨rfl, rfl⟩) rfl rfl (by decide) (by decide) rfl (Nat.not_lt.mpr (Nat.le_of_ble_eq_true rfl)) rfl rfl (z_cat_le 0 rfl (by decide)) (z_lgl_le 3 rfl (by decide)) (by decide) (H.tg rfl) (by omega) (g_c_piece_ok hV_713 hV_718 H h_719) rfl rfl ?_
        intro R_719 m_719 p_719 e_719 hR_719 H_719
        subst e_719
        refine r_p hq 6 (pc' := 728) (L' := [(0, .ref 0), (1, .ref 39), (2, .ref 143), (3, .int X3)]) (st' := [.int (X3 + ((1 : Int32))), .ref 0, .ref 143]) rfl ?_
        obtain ⟨g_728, h⟩ := z_ifo_some h
        refine r_iaS (pc' := 729) (L' := [(0, .ref 0), (1, .ref 39), (2, .ref 143), (3, .int X3)]) H_719 hq (z_at.mk 1 rfl rfl) (tx_iadd hx3 (rfl : (1 : Int32).toInt = 1)) g_728 rfl rfl ?_
        intro V_728 hV_728
        refine r_p hq 4 (pc' := 733) (L' := [(0, .ref 0), (1, .ref 39), (2, .ref 143), (3, .int X3)]) (st' := [.int (X3 + ((2 : Int32))), .ref 0, .int V_728, .ref 143]) rfl ?_
        obtain ⟨g_733, h⟩ := z_ifo_some h
        refine r_iaS (pc' := 734) (L' := [(0, .ref 0), (1, .ref 39), (2, .ref 143), (3, .int X3)]) H_719 hq (z_at.mk 1 rfl rfl) (tx_iadd hx3 (rfl : (2 : Int32).toInt = 2)) g_733 rfl rfl ?_
        intro V_733 hV_733
        obtain ⟨o_734, h_734, h⟩ := Option.bind_eq_some_iff.mp h
        refine r_cvI (pc' := 737) (L' := [(0, .ref 0), (1, .ref 39), (2, .ref 143), (3, .int X3)]) (Ps := [.int V_728, .int V_733]) (rest := []) hq (z_at.mk 3 rfl rfl) (Or.inl ⟨rfl, rfl⟩) rfl rfl (by decide) (by decide) rfl (Nat.not_lt.mpr (Nat.le_of_ble_eq_true rfl)) rfl rfl (z_cat_le 0 rfl (by decide)) (z_lgl_le 3 rfl (by decide)) (by decide) (H_719.tg rfl) (by omega) (g_m_piece_ok hV_728 hV_733 H_719 h_734) rfl rfl ?_
        intro R_734 m_734 p_734 e_734 hR_734 H_734
        subst e_734
        refine r_p hq 2 (pc' := 1368) (L' := [(0, .ref 0), (1, .ref 39), (2, .ref 143), (3, .int X3)]) (st' := []) rfl ?_
        exact g_jRangeAnswersLaw_law_L1368_ok hxl ih hx3 H_734 h
      rcases z_ite h with ⟨c_33_18, h⟩ | ⟨c_33_18, h⟩
      · refine r_sw (off := 708) (pc' := 741) (L' := [(0, .ref 0), (1, .ref 39), (2, .ref 143), (3, .int X3)]) hq (z_at.mk 163 rfl rfl) (z_off_v ((tx_iand hV_29 (rfl : (63 : Int32).toInt = 63)).trans c_33_18) rfl) rfl rfl rfl ?_
        refine r_p hq 5 (pc' := 746) (L' := [(0, .ref 0), (1, .ref 39), (2, .ref 143), (3, .int X3)]) (st' := [.int (X3 + ((1 : Int32))), .ref 0, .ref 39]) rfl ?_
        obtain ⟨g_746, h⟩ := z_ifo_some h
        refine r_iaS (pc' := 747) (L' := [(0, .ref 0), (1, .ref 39), (2, .ref 143), (3, .int X3)]) H hq (z_at.mk 1 rfl rfl) (tx_iadd hx3 (rfl : (1 : Int32).toInt = 1)) g_746 rfl rfl ?_
        intro V_746 hV_746
        refine r_p hq 4 (pc' := 751) (L' := [(0, .ref 0), (1, .ref 39), (2, .ref 143), (3, .int X3)]) (st' := [.int (X3 + ((2 : Int32))), .ref 0, .int V_746, .ref 39]) rfl ?_
        obtain ⟨g_751, h⟩ := z_ifo_some h
        refine r_iaS (pc' := 752) (L' := [(0, .ref 0), (1, .ref 39), (2, .ref 143), (3, .int X3)]) H hq (z_at.mk 1 rfl rfl) (tx_iadd hx3 (rfl : (2 : Int32).toInt = 2)) g_751 rfl rfl ?_
        intro V_751 hV_751
        obtain ⟨o_752, h_752, h⟩ := Option.bind_eq_some_iff.mp h
        refine r_cvI (pc' := 755) (L' := [(0, .ref 0), (1, .ref 39), (2, .ref 143), (3, .int X3)]) (Ps := [.int V_746, .int V_751]) (rest := []) hq (z_at.mk 3 rfl rfl) (Or.inl ⟨rfl, rfl⟩) rfl rfl (by decide) (by decide) rfl (Nat.not_lt.mpr (Nat.le_of_ble_eq_true rfl)) rfl rfl (z_cat_le 0 rfl (by decide)) (z_lgl_le 3 rfl (by decide)) (by decide) (H.tg rfl) (by omega) (g_c_region_ok hV_746 hV_751 H h_752) rfl rfl ?_
        intro R_752 m_752 p_752 e_752 hR_752 H_752
        subst e_752
        refine r_p hq 6 (pc' := 761) (L' := [(0, .ref 0), (1, .ref 39), (2, .ref 143), (3, .int X3)]) (st' := [.int (X3 + ((1 : Int32))), .ref 0, .ref 143]) rfl ?_
        obtain ⟨g_761, h⟩ := z_ifo_some h
        refine r_iaS (pc' := 762) (L' := [(0, .ref 0), (1, .ref 39), (2, .ref 143), (3, .int X3)]) H_752 hq (z_at.mk 1 rfl rfl) (tx_iadd hx3 (rfl : (1 : Int32).toInt = 1)) g_761 rfl rfl ?_
        intro V_761 hV_761
        refine r_p hq 4 (pc' := 766) (L' := [(0, .ref 0), (1, .ref 39), (2, .ref 143), (3, .int X3)]) (st' := [.int (X3 + ((2 : Int32))), .ref 0, .int V_761, .ref 143]) rfl ?_
        obtain ⟨g_766, h⟩ := z_ifo_some h
        refine r_iaS (pc' := 767) (L' := [(0, .ref 0), (1, .ref 39), (2, .ref 143), (3, .int X3)]) H_752 hq (z_at.mk 1 rfl rfl) (tx_iadd hx3 (rfl : (2 : Int32).toInt = 2)) g_766 rfl rfl ?_
        intro V_766 hV_766
        obtain ⟨o_767, h_767, h⟩ := Option.bind_eq_some_iff.mp h
        refine r_cvI (pc' := 770) (L' := [(0, .ref 0), (1, .ref 39), (2, .ref 143), (3, .int X3)]) (Ps := [.int V_761, .int V_766]) (rest := []) hq (z_at.mk 3 rfl rfl) (Or.inl ⟨rfl, rfl⟩) rfl rfl (by decide) (by decide) rfl (Nat.not_lt.mpr (Nat.le_of_ble_eq_true rfl)) rfl rfl (z_cat_le 0 rfl (by decide)) (z_lgl_le 3 rfl (by decide)) (by decide) (H_752.tg rfl) (by omega) (g_m_region_248_ok hV_761 hV_766 H_752 h_767) rfl rfl ?_
        intro R_767 m_767 p_767 e_767 hR_767 H_767
        subst e_767
        refine r_p hq 2 (pc' := 1368) (L' := [(0, .ref 0), (1, .ref 39), (2, .ref 143), (3, .int X3)]) (st' := []) rfl ?_
        exact g_jRangeAnswersLaw_law_L1368_ok hxl ih hx3 H_767 h
      rcases z_ite h with ⟨c_33_19, h⟩ | ⟨c_33_19, h⟩
      · refine r_sw (off := 741) (pc' := 774) (L' := [(0, .ref 0), (1, .ref 39), (2, .ref 143), (3, .int X3)]) hq (z_at.mk 163 rfl rfl) (z_off_v ((tx_iand hV_29 (rfl : (63 : Int32).toInt = 63)).trans c_33_19) rfl) rfl rfl rfl ?_
        refine r_p hq 5 (pc' := 779) (L' := [(0, .ref 0), (1, .ref 39), (2, .ref 143), (3, .int X3)]) (st' := [.int (X3 + ((1 : Int32))), .ref 0, .ref 39]) rfl ?_
        obtain ⟨g_779, h⟩ := z_ifo_some h
        refine r_iaS (pc' := 780) (L' := [(0, .ref 0), (1, .ref 39), (2, .ref 143), (3, .int X3)]) H hq (z_at.mk 1 rfl rfl) (tx_iadd hx3 (rfl : (1 : Int32).toInt = 1)) g_779 rfl rfl ?_
        intro V_779 hV_779
        obtain ⟨o_780, h_780, h⟩ := Option.bind_eq_some_iff.mp h
        refine r_cvL (pc' := 783) (L' := [(0, .ref 0), (1, .ref 39), (2, .ref 143), (3, .int X3)]) (Ps := [.int V_779]) (rest := []) hq (z_at.mk 3 rfl rfl) (Or.inl ⟨rfl, rfl⟩) rfl rfl (by decide) (by decide) rfl (Nat.not_lt.mpr (Nat.le_of_ble_eq_true rfl)) rfl rfl (z_cat_le 0 rfl (by decide)) (z_lgl_le 2 rfl (by decide)) (by decide) (H.tg rfl) (by omega) (g_c_weight_ok hV_779 H h_780) rfl rfl ?_
        intro R_780 m_780 p_780 e_780 hR_780 H_780
        subst e_780
        refine r_p hq 6 (pc' := 789) (L' := [(0, .ref 0), (1, .ref 39), (2, .ref 143), (3, .int X3)]) (st' := [.int (X3 + ((1 : Int32))), .ref 0, .ref 143]) rfl ?_
        obtain ⟨g_789, h⟩ := z_ifo_some h
        refine r_iaS (pc' := 790) (L' := [(0, .ref 0), (1, .ref 39), (2, .ref 143), (3, .int X3)]) H_780 hq (z_at.mk 1 rfl rfl) (tx_iadd hx3 (rfl : (1 : Int32).toInt = 1)) g_789 rfl rfl ?_
        intro V_789 hV_789
        obtain ⟨o_790, h_790, h⟩ := Option.bind_eq_some_iff.mp h
        refine r_cvL (pc' := 793) (L' := [(0, .ref 0), (1, .ref 39), (2, .ref 143), (3, .int X3)]) (Ps := [.int V_789]) (rest := []) hq (z_at.mk 3 rfl rfl) (Or.inl ⟨rfl, rfl⟩) rfl rfl (by decide) (by decide) rfl (Nat.not_lt.mpr (Nat.le_of_ble_eq_true rfl)) rfl rfl (z_cat_le 0 rfl (by decide)) (z_lgl_le 2 rfl (by decide)) (by decide) (H_780.tg rfl) (by omega) (g_m_weight_ok hV_789 H_780 h_790) rfl rfl ?_
        intro R_790 m_790 p_790 e_790 hR_790 H_790
        subst e_790
        refine r_p hq 2 (pc' := 1368) (L' := [(0, .ref 0), (1, .ref 39), (2, .ref 143), (3, .int X3)]) (st' := []) rfl ?_
        exact g_jRangeAnswersLaw_law_L1368_ok hxl ih hx3 H_790 h
      rcases z_ite h with ⟨c_33_20, h⟩ | ⟨c_33_20, h⟩
      · refine r_sw (off := 764) (pc' := 797) (L' := [(0, .ref 0), (1, .ref 39), (2, .ref 143), (3, .int X3)]) hq (z_at.mk 163 rfl rfl) (z_off_v ((tx_iand hV_29 (rfl : (63 : Int32).toInt = 63)).trans c_33_20) rfl) rfl rfl rfl ?_
        refine r_p hq 5 (pc' := 802) (L' := [(0, .ref 0), (1, .ref 39), (2, .ref 143), (3, .int X3)]) (st' := [.int (X3 + ((1 : Int32))), .ref 0, .ref 39]) rfl ?_
        obtain ⟨g_802, h⟩ := z_ifo_some h
        refine r_iaS (pc' := 803) (L' := [(0, .ref 0), (1, .ref 39), (2, .ref 143), (3, .int X3)]) H hq (z_at.mk 1 rfl rfl) (tx_iadd hx3 (rfl : (1 : Int32).toInt = 1)) g_802 rfl rfl ?_
        intro V_802 hV_802
        obtain ⟨o_803, h_803, h⟩ := Option.bind_eq_some_iff.mp h
        refine r_cvL (pc' := 806) (L' := [(0, .ref 0), (1, .ref 39), (2, .ref 143), (3, .int X3)]) (Ps := [.int V_802]) (rest := []) hq (z_at.mk 3 rfl rfl) (Or.inl ⟨rfl, rfl⟩) rfl rfl (by decide) (by decide) rfl (Nat.not_lt.mpr (Nat.le_of_ble_eq_true rfl)) rfl rfl (z_cat_le 0 rfl (by decide)) (z_lgl_le 2 rfl (by decide)) (by decide) (H.tg rfl) (by omega) (g_c_told_ok hV_802 H h_803) rfl rfl ?_
        intro R_803 m_803 p_803 e_803 hR_803 H_803
        subst e_803
        refine r_p hq 6 (pc' := 812) (L' := [(0, .ref 0), (1, .ref 39), (2, .ref 143), (3, .int X3)]) (st' := [.int (X3 + ((1 : Int32))), .ref 0, .ref 143]) rfl ?_
        obtain ⟨g_812, h⟩ := z_ifo_some h
        refine r_iaS (pc' := 813) (L' := [(0, .ref 0), (1, .ref 39), (2, .ref 143), (3, .int X3)]) H_803 hq (z_at.mk 1 rfl rfl) (tx_iadd hx3 (rfl : (1 : Int32).toInt = 1)) g_812 rfl rfl ?_
        intro V_812 hV_812
        obtain ⟨o_813, h_813, h⟩ := Option.bind_eq_some_iff.mp h
        refine r_cvL (pc' := 816) (L' := [(0, .ref 0), (1, .ref 39), (2, .ref 143), (3, .int X3)]) (Ps := [.int V_812]) (rest := []) hq (z_at.mk 3 rfl rfl) (Or.inl ⟨rfl, rfl⟩) rfl rfl (by decide) (by decide) rfl (Nat.not_lt.mpr (Nat.le_of_ble_eq_true rfl)) rfl rfl (z_cat_le 0 rfl (by decide)) (z_lgl_le 2 rfl (by decide)) (by decide) (H_803.tg rfl) (by omega) (g_m_told_ok hV_812 H_803 h_813) rfl rfl ?_
        intro R_813 m_813 p_813 e_813 hR_813 H_813
        subst e_813
        refine r_p hq 2 (pc' := 1368) (L' := [(0, .ref 0), (1, .ref 39), (2, .ref 143), (3, .int X3)]) (st' := []) rfl ?_
        exact g_jRangeAnswersLaw_law_L1368_ok hxl ih hx3 H_813 h
      rcases z_ite h with ⟨c_33_21, h⟩ | ⟨c_33_21, h⟩
      · refine r_sw (off := 787) (pc' := 820) (L' := [(0, .ref 0), (1, .ref 39), (2, .ref 143), (3, .int X3)]) hq (z_at.mk 163 rfl rfl) (z_off_v ((tx_iand hV_29 (rfl : (63 : Int32).toInt = 63)).trans c_33_21) rfl) rfl rfl rfl ?_
        refine r_p hq 1 (pc' := 821) (L' := [(0, .ref 0), (1, .ref 39), (2, .ref 143), (3, .int X3)]) (st' := [.ref 39]) rfl ?_
        obtain ⟨o_821, h_821, h⟩ := Option.bind_eq_some_iff.mp h
        refine r_cvI (pc' := 824) (L' := [(0, .ref 0), (1, .ref 39), (2, .ref 143), (3, .int X3)]) (Ps := []) (rest := []) hq (z_at.mk 3 rfl rfl) (Or.inl ⟨rfl, rfl⟩) rfl rfl (by decide) (by decide) rfl (Nat.not_lt.mpr (Nat.le_of_ble_eq_true rfl)) rfl rfl (z_cat_le 0 rfl (by decide)) (z_lgl_le 1 rfl (by decide)) (by decide) (H.tg rfl) (by omega) (g_c_flush_ok H h_821) rfl rfl ?_
        intro R_821 m_821 p_821 e_821 hR_821 H_821
        subst e_821
        refine r_p hq 2 (pc' := 826) (L' := [(0, .ref 0), (1, .ref 39), (2, .ref 143), (3, .int X3)]) (st' := [.ref 143]) rfl ?_
        obtain ⟨o_826, h_826, h⟩ := Option.bind_eq_some_iff.mp h
        refine r_cvI (pc' := 829) (L' := [(0, .ref 0), (1, .ref 39), (2, .ref 143), (3, .int X3)]) (Ps := []) (rest := []) hq (z_at.mk 3 rfl rfl) (Or.inl ⟨rfl, rfl⟩) rfl rfl (by decide) (by decide) rfl (Nat.not_lt.mpr (Nat.le_of_ble_eq_true rfl)) rfl rfl (z_cat_le 0 rfl (by decide)) (z_lgl_le 1 rfl (by decide)) (by decide) (H_821.tg rfl) (by omega) (g_m_flush_ok H_821 h_826) rfl rfl ?_
        intro R_826 m_826 p_826 e_826 hR_826 H_826
        subst e_826
        refine r_p hq 2 (pc' := 1368) (L' := [(0, .ref 0), (1, .ref 39), (2, .ref 143), (3, .int X3)]) (st' := []) rfl ?_
        exact g_jRangeAnswersLaw_law_L1368_ok hxl ih hx3 H_826 h
      rcases z_ite h with ⟨c_33_22, h⟩ | ⟨c_33_22, h⟩
      · refine r_sw (off := 800) (pc' := 833) (L' := [(0, .ref 0), (1, .ref 39), (2, .ref 143), (3, .int X3)]) hq (z_at.mk 163 rfl rfl) (z_off_v ((tx_iand hV_29 (rfl : (63 : Int32).toInt = 63)).trans c_33_22) rfl) rfl rfl rfl ?_
        refine r_p hq 5 (pc' := 838) (L' := [(0, .ref 0), (1, .ref 39), (2, .ref 143), (3, .int X3)]) (st' := [.int (X3 + ((1 : Int32))), .ref 0, .ref 39]) rfl ?_
        obtain ⟨g_838, h⟩ := z_ifo_some h
        refine r_iaS (pc' := 839) (L' := [(0, .ref 0), (1, .ref 39), (2, .ref 143), (3, .int X3)]) H hq (z_at.mk 1 rfl rfl) (tx_iadd hx3 (rfl : (1 : Int32).toInt = 1)) g_838 rfl rfl ?_
        intro V_838 hV_838
        obtain ⟨o_839, h_839, h⟩ := Option.bind_eq_some_iff.mp h
        refine r_cvI (pc' := 842) (L' := [(0, .ref 0), (1, .ref 39), (2, .ref 143), (3, .int X3)]) (Ps := [.int V_838]) (rest := []) hq (z_at.mk 3 rfl rfl) (Or.inl ⟨rfl, rfl⟩) rfl rfl (by decide) (by decide) rfl (Nat.not_lt.mpr (Nat.le_of_ble_eq_true rfl)) rfl rfl (z_cat_le 0 rfl (by decide)) (z_lgl_le 2 rfl (by decide)) (by decide) (H.tg rfl) (by omega) (g_c_keep_ok hV_838 H h_839) rfl rfl ?_
        intro R_839 m_839 p_839 e_839 hR_839 H_839
        subst e_839
        refine r_p hq 6 (pc' := 848) (L' := [(0, .ref 0), (1, .ref 39), (2, .ref 143), (3, .int X3)]) (st' := [.int (X3 + ((1 : Int32))), .ref 0, .ref 143]) rfl ?_
        obtain ⟨g_848, h⟩ := z_ifo_some h
        refine r_iaS (pc' := 849) (L' := [(0, .ref 0), (1, .ref 39), (2, .ref 143), (3, .int X3)]) H_839 hq (z_at.mk 1 rfl rfl) (tx_iadd hx3 (rfl : (1 : Int32).toInt = 1)) g_848 rfl rfl ?_
        intro V_848 hV_848
        obtain ⟨o_849, h_849, h⟩ := Option.bind_eq_some_iff.mp h
        refine r_cvI (pc' := 852) (L' := [(0, .ref 0), (1, .ref 39), (2, .ref 143), (3, .int X3)]) (Ps := [.int V_848]) (rest := []) hq (z_at.mk 3 rfl rfl) (Or.inl ⟨rfl, rfl⟩) rfl rfl (by decide) (by decide) rfl (Nat.not_lt.mpr (Nat.le_of_ble_eq_true rfl)) rfl rfl (z_cat_le 0 rfl (by decide)) (z_lgl_le 2 rfl (by decide)) (by decide) (H_839.tg rfl) (by omega) (g_m_keep_ok hV_848 H_839 h_849) rfl rfl ?_
        intro R_849 m_849 p_849 e_849 hR_849 H_849
        subst e_849
        refine r_p hq 2 (pc' := 1368) (L' := [(0, .ref 0), (1, .ref 39), (2, .ref 143), (3, .int X3)]) (st' := []) rfl ?_
        exact g_jRangeAnswersLaw_law_L1368_ok hxl ih hx3 H_849 h
      rcases z_ite h with ⟨c_33_23, h⟩ | ⟨c_33_23, h⟩
      · refine r_sw (off := 823) (pc' := 856) (L' := [(0, .ref 0), (1, .ref 39), (2, .ref 143), (3, .int X3)]) hq (z_at.mk 163 rfl rfl) (z_off_v ((tx_iand hV_29 (rfl : (63 : Int32).toInt = 63)).trans c_33_23) rfl) rfl rfl rfl ?_
        refine r_p hq 5 (pc' := 861) (L' := [(0, .ref 0), (1, .ref 39), (2, .ref 143), (3, .int X3)]) (st' := [.int (X3 + ((1 : Int32))), .ref 0, .ref 39]) rfl ?_
        obtain ⟨g_861, h⟩ := z_ifo_some h
        refine r_iaS (pc' := 862) (L' := [(0, .ref 0), (1, .ref 39), (2, .ref 143), (3, .int X3)]) H hq (z_at.mk 1 rfl rfl) (tx_iadd hx3 (rfl : (1 : Int32).toInt = 1)) g_861 rfl rfl ?_
        intro V_861 hV_861
        refine r_p hq 4 (pc' := 866) (L' := [(0, .ref 0), (1, .ref 39), (2, .ref 143), (3, .int X3)]) (st' := [.int (X3 + ((2 : Int32))), .ref 0, .int V_861, .ref 39]) rfl ?_
        obtain ⟨g_866, h⟩ := z_ifo_some h
        refine r_iaS (pc' := 867) (L' := [(0, .ref 0), (1, .ref 39), (2, .ref 143), (3, .int X3)]) H hq (z_at.mk 1 rfl rfl) (tx_iadd hx3 (rfl : (2 : Int32).toInt = 2)) g_866 rfl rfl ?_
        intro V_866 hV_866
        refine r_p hq 4 (pc' := 871) (L' := [(0, .ref 0), (1, .ref 39), (2, .ref 143), (3, .int X3)]) (st' := [.int (X3 + ((3 : Int32))), .ref 0, .int V_866, .int V_861, .ref 39]) rfl ?_
        obtain ⟨g_871, h⟩ := z_ifo_some h
        refine r_iaS (pc' := 872) (L' := [(0, .ref 0), (1, .ref 39), (2, .ref 143), (3, .int X3)]) H hq (z_at.mk 1 rfl rfl) (tx_iadd hx3 (rfl : (3 : Int32).toInt = 3)) g_871 rfl rfl ?_
        intro V_871 hV_871
        refine r_p hq 4 (pc' := 876) (L' := [(0, .ref 0), (1, .ref 39), (2, .ref 143), (3, .int X3)]) (st' := [.int (X3 + ((4 : Int32))), .ref 0, .int V_871, .int V_866, .int V_861, .ref 39]) rfl ?_
        obtain ⟨g_876, h⟩ := z_ifo_some h
        refine r_iaS (pc' := 877) (L' := [(0, .ref 0), (1, .ref 39), (2, .ref 143), (3, .int X3)]) H hq (z_at.mk 1 rfl rfl) (tx_iadd hx3 (rfl : (4 : Int32).toInt = 4)) g_876 rfl rfl ?_
        intro V_876 hV_876
        obtain ⟨o_877, h_877, h⟩ := Option.bind_eq_some_iff.mp h
        refine r_cvI (pc' := 880) (L' := [(0, .ref 0), (1, .ref 39), (2, .ref 143), (3, .int X3)]) (Ps := [.int V_861, .int V_866, .int V_871, .int V_876]) (rest := []) hq (z_at.mk 3 rfl rfl) (Or.inl ⟨rfl, rfl⟩) rfl rfl (by decide) (by decide) rfl (Nat.not_lt.mpr (Nat.le_of_ble_eq_true rfl)) rfl rfl (z_cat_le 0 rfl (by decide)) (z_lgl_le 5 rfl (by decide)) (by decide) (H.tg rfl) (by omega) (g_c_trace_ok hV_861 hV_866 hV_871 hV_876 H h_877) rfl rfl ?_
        intro R_877 m_877 p_877 e_877 hR_877 H_877
        subst e_877
        refine r_p hq 6 (pc' := 886) (L' := [(0, .ref 0), (1, .ref 39), (2, .ref 143), (3, .int X3)]) (st' := [.int (X3 + ((1 : Int32))), .ref 0, .ref 143]) rfl ?_
        obtain ⟨g_886, h⟩ := z_ifo_some h
        refine r_iaS (pc' := 887) (L' := [(0, .ref 0), (1, .ref 39), (2, .ref 143), (3, .int X3)]) H_877 hq (z_at.mk 1 rfl rfl) (tx_iadd hx3 (rfl : (1 : Int32).toInt = 1)) g_886 rfl rfl ?_
        intro V_886 hV_886
        refine r_p hq 4 (pc' := 891) (L' := [(0, .ref 0), (1, .ref 39), (2, .ref 143), (3, .int X3)]) (st' := [.int (X3 + ((2 : Int32))), .ref 0, .int V_886, .ref 143]) rfl ?_
        obtain ⟨g_891, h⟩ := z_ifo_some h
        refine r_iaS (pc' := 892) (L' := [(0, .ref 0), (1, .ref 39), (2, .ref 143), (3, .int X3)]) H_877 hq (z_at.mk 1 rfl rfl) (tx_iadd hx3 (rfl : (2 : Int32).toInt = 2)) g_891 rfl rfl ?_
        intro V_891 hV_891
        refine r_p hq 4 (pc' := 896) (L' := [(0, .ref 0), (1, .ref 39), (2, .ref 143), (3, .int X3)]) (st' := [.int (X3 + ((3 : Int32))), .ref 0, .int V_891, .int V_886, .ref 143]) rfl ?_
        obtain ⟨g_896, h⟩ := z_ifo_some h
        refine r_iaS (pc' := 897) (L' := [(0, .ref 0), (1, .ref 39), (2, .ref 143), (3, .int X3)]) H_877 hq (z_at.mk 1 rfl rfl) (tx_iadd hx3 (rfl : (3 : Int32).toInt = 3)) g_896 rfl rfl ?_
        intro V_896 hV_896
        refine r_p hq 4 (pc' := 901) (L' := [(0, .ref 0), (1, .ref 39), (2, .ref 143), (3, .int X3)]) (st' := [.int (X3 + ((4 : Int32))), .ref 0, .int V_896, .int V_891, .int V_886, .ref 143]) rfl ?_
        obtain ⟨g_901, h⟩ := z_ifo_some h
        refine r_iaS (pc' := 902) (L' := [(0, .ref 0), (1, .ref 39), (2, .ref 143), (3, .int X3)]) H_877 hq (z_at.mk 1 rfl rfl) (tx_iadd hx3 (rfl : (4 : Int32).toInt = 4)) g_901 rfl rfl ?_
        intro V_901 hV_901
        obtain ⟨o_902, h_902, h⟩ := Option.bind_eq_some_iff.mp h
        refine r_cvI (pc' := 905) (L' := [(0, .ref 0), (1, .ref 39), (2, .ref 143), (3, .int X3)]) (Ps := [.int V_886, .int V_891, .int V_896, .int V_901]) (rest := []) hq (z_at.mk 3 rfl rfl) (Or.inl ⟨rfl, rfl⟩) rfl rfl (by decide) (by decide) rfl (Nat.not_lt.mpr (Nat.le_of_ble_eq_true rfl)) rfl rfl (z_cat_le 0 rfl (by decide)) (z_lgl_le 5 rfl (by decide)) (by decide) (H_877.tg rfl) (by omega) (g_m_trace_ok hV_886 hV_891 hV_896 hV_901 H_877 h_902) rfl rfl ?_
        intro R_902 m_902 p_902 e_902 hR_902 H_902
        subst e_902
        refine r_p hq 2 (pc' := 1368) (L' := [(0, .ref 0), (1, .ref 39), (2, .ref 143), (3, .int X3)]) (st' := []) rfl ?_
        exact g_jRangeAnswersLaw_law_L1368_ok hxl ih hx3 H_902 h
      rcases z_ite h with ⟨c_33_24, h⟩ | ⟨c_33_24, h⟩
      · refine r_sw (off := 876) (pc' := 909) (L' := [(0, .ref 0), (1, .ref 39), (2, .ref 143), (3, .int X3)]) hq (z_at.mk 163 rfl rfl) (z_off_v ((tx_iand hV_29 (rfl : (63 : Int32).toInt = 63)).trans c_33_24) rfl) rfl rfl rfl ?_
        refine r_p hq 5 (pc' := 914) (L' := [(0, .ref 0), (1, .ref 39), (2, .ref 143), (3, .int X3)]) (st' := [.int (X3 + ((1 : Int32))), .ref 0, .ref 39]) rfl ?_
        obtain ⟨g_914, h⟩ := z_ifo_some h
        refine r_iaS (pc' := 915) (L' := [(0, .ref 0), (1, .ref 39), (2, .ref 143), (3, .int X3)]) H hq (z_at.mk 1 rfl rfl) (tx_iadd hx3 (rfl : (1 : Int32).toInt = 1)) g_914 rfl rfl ?_
        intro V_914 hV_914
        refine r_p hq 4 (pc' := 919) (L' := [(0, .ref 0), (1, .ref 39), (2, .ref 143), (3, .int X3)]) (st' := [.int (X3 + ((2 : Int32))), .ref 0, .int V_914, .ref 39]) rfl ?_
        obtain ⟨g_919, h⟩ := z_ifo_some h
        refine r_iaS (pc' := 920) (L' := [(0, .ref 0), (1, .ref 39), (2, .ref 143), (3, .int X3)]) H hq (z_at.mk 1 rfl rfl) (tx_iadd hx3 (rfl : (2 : Int32).toInt = 2)) g_919 rfl rfl ?_
        intro V_919 hV_919
        obtain ⟨o_920, h_920, h⟩ := Option.bind_eq_some_iff.mp h
        refine r_cvI (pc' := 923) (L' := [(0, .ref 0), (1, .ref 39), (2, .ref 143), (3, .int X3)]) (Ps := [.int V_914, .int V_919]) (rest := []) hq (z_at.mk 3 rfl rfl) (Or.inl ⟨rfl, rfl⟩) rfl rfl (by decide) (by decide) rfl (Nat.not_lt.mpr (Nat.le_of_ble_eq_true rfl)) rfl rfl (z_cat_le 0 rfl (by decide)) (z_lgl_le 3 rfl (by decide)) (by decide) (H.tg rfl) (by omega) (g_c_again_ok hV_914 hV_919 H h_920) rfl rfl ?_
        intro R_920 m_920 p_920 e_920 hR_920 H_920
        subst e_920
        refine r_p hq 6 (pc' := 929) (L' := [(0, .ref 0), (1, .ref 39), (2, .ref 143), (3, .int X3)]) (st' := [.int (X3 + ((1 : Int32))), .ref 0, .ref 143]) rfl ?_
        obtain ⟨g_929, h⟩ := z_ifo_some h
        refine r_iaS (pc' := 930) (L' := [(0, .ref 0), (1, .ref 39), (2, .ref 143), (3, .int X3)]) H_920 hq (z_at.mk 1 rfl rfl) (tx_iadd hx3 (rfl : (1 : Int32).toInt = 1)) g_929 rfl rfl ?_
        intro V_929 hV_929
        refine r_p hq 4 (pc' := 934) (L' := [(0, .ref 0), (1, .ref 39), (2, .ref 143), (3, .int X3)]) (st' := [.int (X3 + ((2 : Int32))), .ref 0, .int V_929, .ref 143]) rfl ?_
        obtain ⟨g_934, h⟩ := z_ifo_some h
        refine r_iaS (pc' := 935) (L' := [(0, .ref 0), (1, .ref 39), (2, .ref 143), (3, .int X3)]) H_920 hq (z_at.mk 1 rfl rfl) (tx_iadd hx3 (rfl : (2 : Int32).toInt = 2)) g_934 rfl rfl ?_
        intro V_934 hV_934
        obtain ⟨o_935, h_935, h⟩ := Option.bind_eq_some_iff.mp h
        refine r_cvI (pc' := 938) (L' := [(0, .ref 0), (1, .ref 39), (2, .ref 143), (3, .int X3)]) (Ps := [.int V_929, .int V_934]) (rest := []) hq (z_at.mk 3 rfl rfl) (Or.inl ⟨rfl, rfl⟩) rfl rfl (by decide) (by decide) rfl (Nat.not_lt.mpr (Nat.le_of_ble_eq_true rfl)) rfl rfl (z_cat_le 0 rfl (by decide)) (z_lgl_le 3 rfl (by decide)) (by decide) (H_920.tg rfl) (by omega) (g_m_again_ok hV_929 hV_934 H_920 h_935) rfl rfl ?_
        intro R_935 m_935 p_935 e_935 hR_935 H_935
        subst e_935
        refine r_p hq 2 (pc' := 1368) (L' := [(0, .ref 0), (1, .ref 39), (2, .ref 143), (3, .int X3)]) (st' := []) rfl ?_
        exact g_jRangeAnswersLaw_law_L1368_ok hxl ih hx3 H_935 h
      rcases z_ite h with ⟨c_33_25, h⟩ | ⟨c_33_25, h⟩
      · refine r_sw (off := 909) (pc' := 942) (L' := [(0, .ref 0), (1, .ref 39), (2, .ref 143), (3, .int X3)]) hq (z_at.mk 163 rfl rfl) (z_off_v ((tx_iand hV_29 (rfl : (63 : Int32).toInt = 63)).trans c_33_25) rfl) rfl rfl rfl ?_
        refine r_p hq 5 (pc' := 947) (L' := [(0, .ref 0), (1, .ref 39), (2, .ref 143), (3, .int X3)]) (st' := [.int (X3 + ((1 : Int32))), .ref 0, .ref 39]) rfl ?_
        obtain ⟨g_947, h⟩ := z_ifo_some h
        refine r_iaS (pc' := 948) (L' := [(0, .ref 0), (1, .ref 39), (2, .ref 143), (3, .int X3)]) H hq (z_at.mk 1 rfl rfl) (tx_iadd hx3 (rfl : (1 : Int32).toInt = 1)) g_947 rfl rfl ?_
        intro V_947 hV_947
        obtain ⟨o_948, h_948, h⟩ := Option.bind_eq_some_iff.mp h
        refine r_cvI (pc' := 951) (L' := [(0, .ref 0), (1, .ref 39), (2, .ref 143), (3, .int X3)]) (Ps := [.int V_947]) (rest := []) hq (z_at.mk 3 rfl rfl) (Or.inl ⟨rfl, rfl⟩) rfl rfl (by decide) (by decide) rfl (Nat.not_lt.mpr (Nat.le_of_ble_eq_true rfl)) rfl rfl (z_cat_le 0 rfl (by decide)) (z_lgl_le 2 rfl (by decide)) (by decide) (H.tg rfl) (by omega) (g_c_least_ok hV_947 H h_948) rfl rfl ?_
        intro R_948 m_948 p_948 e_948 hR_948 H_948
        subst e_948
        refine r_p hq 6 (pc' := 957) (L' := [(0, .ref 0), (1, .ref 39), (2, .ref 143), (3, .int X3)]) (st' := [.int (X3 + ((1 : Int32))), .ref 0, .ref 143]) rfl ?_
        obtain ⟨g_957, h⟩ := z_ifo_some h
        refine r_iaS (pc' := 958) (L' := [(0, .ref 0), (1, .ref 39), (2, .ref 143), (3, .int X3)]) H_948 hq (z_at.mk 1 rfl rfl) (tx_iadd hx3 (rfl : (1 : Int32).toInt = 1)) g_957 rfl rfl ?_
        intro V_957 hV_957
        obtain ⟨o_958, h_958, h⟩ := Option.bind_eq_some_iff.mp h
        refine r_cvI (pc' := 961) (L' := [(0, .ref 0), (1, .ref 39), (2, .ref 143), (3, .int X3)]) (Ps := [.int V_957]) (rest := []) hq (z_at.mk 3 rfl rfl) (Or.inl ⟨rfl, rfl⟩) rfl rfl (by decide) (by decide) rfl (Nat.not_lt.mpr (Nat.le_of_ble_eq_true rfl)) rfl rfl (z_cat_le 0 rfl (by decide)) (z_lgl_le 2 rfl (by decide)) (by decide) (H_948.tg rfl) (by omega) (g_m_least_ok hV_957 H_948 h_958) rfl rfl ?_
        intro R_958 m_958 p_958 e_958 hR_958 H_958
        subst e_958
        refine r_p hq 2 (pc' := 1368) (L' := [(0, .ref 0), (1, .ref 39), (2, .ref 143), (3, .int X3)]) (st' := []) rfl ?_
        exact g_jRangeAnswersLaw_law_L1368_ok hxl ih hx3 H_958 h
      rcases z_ite h with ⟨c_33_26, h⟩ | ⟨c_33_26, h⟩
      · refine r_sw (off := 932) (pc' := 965) (L' := [(0, .ref 0), (1, .ref 39), (2, .ref 143), (3, .int X3)]) hq (z_at.mk 163 rfl rfl) (z_off_v ((tx_iand hV_29 (rfl : (63 : Int32).toInt = 63)).trans c_33_26) rfl) rfl rfl rfl ?_
        refine r_p hq 5 (pc' := 970) (L' := [(0, .ref 0), (1, .ref 39), (2, .ref 143), (3, .int X3)]) (st' := [.int (X3 + ((1 : Int32))), .ref 0, .ref 39]) rfl ?_
        obtain ⟨g_970, h⟩ := z_ifo_some h
        refine r_iaS (pc' := 971) (L' := [(0, .ref 0), (1, .ref 39), (2, .ref 143), (3, .int X3)]) H hq (z_at.mk 1 rfl rfl) (tx_iadd hx3 (rfl : (1 : Int32).toInt = 1)) g_970 rfl rfl ?_
        intro V_970 hV_970
        refine r_p hq 4 (pc' := 975) (L' := [(0, .ref 0), (1, .ref 39), (2, .ref 143), (3, .int X3)]) (st' := [.int (X3 + ((2 : Int32))), .ref 0, .int V_970, .ref 39]) rfl ?_
        obtain ⟨g_975, h⟩ := z_ifo_some h
        refine r_iaS (pc' := 976) (L' := [(0, .ref 0), (1, .ref 39), (2, .ref 143), (3, .int X3)]) H hq (z_at.mk 1 rfl rfl) (tx_iadd hx3 (rfl : (2 : Int32).toInt = 2)) g_975 rfl rfl ?_
        intro V_975 hV_975
        refine r_p hq 4 (pc' := 980) (L' := [(0, .ref 0), (1, .ref 39), (2, .ref 143), (3, .int X3)]) (st' := [.int (X3 + ((3 : Int32))), .ref 0, .int V_975, .int V_970, .ref 39]) rfl ?_
        obtain ⟨g_980, h⟩ := z_ifo_some h
        refine r_iaS (pc' := 981) (L' := [(0, .ref 0), (1, .ref 39), (2, .ref 143), (3, .int X3)]) H hq (z_at.mk 1 rfl rfl) (tx_iadd hx3 (rfl : (3 : Int32).toInt = 3)) g_980 rfl rfl ?_
        intro V_980 hV_980
        refine r_p hq 4 (pc' := 985) (L' := [(0, .ref 0), (1, .ref 39), (2, .ref 143), (3, .int X3)]) (st' := [.int (X3 + ((4 : Int32))), .ref 0, .int V_980, .int V_975, .int V_970, .ref 39]) rfl ?_
        obtain ⟨g_985, h⟩ := z_ifo_some h
        refine r_iaS (pc' := 986) (L' := [(0, .ref 0), (1, .ref 39), (2, .ref 143), (3, .int X3)]) H hq (z_at.mk 1 rfl rfl) (tx_iadd hx3 (rfl : (4 : Int32).toInt = 4)) g_985 rfl rfl ?_
        intro V_985 hV_985
        refine r_p hq 4 (pc' := 990) (L' := [(0, .ref 0), (1, .ref 39), (2, .ref 143), (3, .int X3)]) (st' := [.int (X3 + ((5 : Int32))), .ref 0, .int V_985, .int V_980, .int V_975, .int V_970, .ref 39]) rfl ?_
        obtain ⟨g_990, h⟩ := z_ifo_some h
        refine r_iaS (pc' := 991) (L' := [(0, .ref 0), (1, .ref 39), (2, .ref 143), (3, .int X3)]) H hq (z_at.mk 1 rfl rfl) (tx_iadd hx3 (rfl : (5 : Int32).toInt = 5)) g_990 rfl rfl ?_
        intro V_990 hV_990
        obtain ⟨o_991, h_991, h⟩ := Option.bind_eq_some_iff.mp h
        refine r_cvI (pc' := 994) (L' := [(0, .ref 0), (1, .ref 39), (2, .ref 143), (3, .int X3)]) (Ps := [.int V_970, .int V_975, .int V_980, .int V_985, .int V_990]) (rest := []) hq (z_at.mk 3 rfl rfl) (Or.inl ⟨rfl, rfl⟩) rfl rfl (by decide) (by decide) rfl (Nat.not_lt.mpr (Nat.le_of_ble_eq_true rfl)) rfl rfl (z_cat_le 0 rfl (by decide)) (z_lgl_le 6 rfl (by decide)) (by decide) (H.tg rfl) (by omega) (g_c_watch_ok hV_970 hV_975 hV_980 hV_985 hV_990 H h_991) rfl rfl ?_
        intro R_991 m_991 p_991 e_991 hR_991 H_991
        subst e_991
        refine r_p hq 6 (pc' := 1000) (L' := [(0, .ref 0), (1, .ref 39), (2, .ref 143), (3, .int X3)]) (st' := [.int (X3 + ((1 : Int32))), .ref 0, .ref 143]) rfl ?_
        obtain ⟨g_1000, h⟩ := z_ifo_some h
        refine r_iaS (pc' := 1001) (L' := [(0, .ref 0), (1, .ref 39), (2, .ref 143), (3, .int X3)]) H_991 hq (z_at.mk 1 rfl rfl) (tx_iadd hx3 (rfl : (1 : Int32).toInt = 1)) g_1000 rfl rfl ?_
        intro V_1000 hV_1000
        refine r_p hq 4 (pc' := 1005) (L' := [(0, .ref 0), (1, .ref 39), (2, .ref 143), (3, .int X3)]) (st' := [.int (X3 + ((2 : Int32))), .ref 0, .int V_1000, .ref 143]) rfl ?_
        obtain ⟨g_1005, h⟩ := z_ifo_some h
        refine r_iaS (pc' := 1006) (L' := [(0, .ref 0), (1, .ref 39), (2, .ref 143), (3, .int X3)]) H_991 hq (z_at.mk 1 rfl rfl) (tx_iadd hx3 (rfl : (2 : Int32).toInt = 2)) g_1005 rfl rfl ?_
        intro V_1005 hV_1005
        refine r_p hq 4 (pc' := 1010) (L' := [(0, .ref 0), (1, .ref 39), (2, .ref 143), (3, .int X3)]) (st' := [.int (X3 + ((3 : Int32))), .ref 0, .int V_1005, .int V_1000, .ref 143]) rfl ?_
        obtain ⟨g_1010, h⟩ := z_ifo_some h
        refine r_iaS (pc' := 1011) (L' := [(0, .ref 0), (1, .ref 39), (2, .ref 143), (3, .int X3)]) H_991 hq (z_at.mk 1 rfl rfl) (tx_iadd hx3 (rfl : (3 : Int32).toInt = 3)) g_1010 rfl rfl ?_
        intro V_1010 hV_1010
        refine r_p hq 4 (pc' := 1015) (L' := [(0, .ref 0), (1, .ref 39), (2, .ref 143), (3, .int X3)]) (st' := [.int (X3 + ((4 : Int32))), .ref 0, .int V_1010, .int V_1005, .int V_1000, .ref 143]) rfl ?_
        obtain ⟨g_1015, h⟩ := z_ifo_some h
        refine r_iaS (pc' := 1016) (L' := [(0, .ref 0), (1, .ref 39), (2, .ref 143), (3, .int X3)]) H_991 hq (z_at.mk 1 rfl rfl) (tx_iadd hx3 (rfl : (4 : Int32).toInt = 4)) g_1015 rfl rfl ?_
        intro V_1015 hV_1015
        refine r_p hq 4 (pc' := 1020) (L' := [(0, .ref 0), (1, .ref 39), (2, .ref 143), (3, .int X3)]) (st' := [.int (X3 + ((5 : Int32))), .ref 0, .int V_1015, .int V_1010, .int V_1005, .int V_1000, .ref 143]) rfl ?_
        obtain ⟨g_1020, h⟩ := z_ifo_some h
        refine r_iaS (pc' := 1021) (L' := [(0, .ref 0), (1, .ref 39), (2, .ref 143), (3, .int X3)]) H_991 hq (z_at.mk 1 rfl rfl) (tx_iadd hx3 (rfl : (5 : Int32).toInt = 5)) g_1020 rfl rfl ?_
        intro V_1020 hV_1020
        obtain ⟨o_1021, h_1021, h⟩ := Option.bind_eq_some_iff.mp h
        refine r_cvI (pc' := 1024) (L' := [(0, .ref 0), (1, .ref 39), (2, .ref 143), (3, .int X3)]) (Ps := [.int V_1000, .int V_1005, .int V_1010, .int V_1015, .int V_1020]) (rest := []) hq (z_at.mk 3 rfl rfl) (Or.inl ⟨rfl, rfl⟩) rfl rfl (by decide) (by decide) rfl (Nat.not_lt.mpr (Nat.le_of_ble_eq_true rfl)) rfl rfl (z_cat_le 0 rfl (by decide)) (z_lgl_le 6 rfl (by decide)) (by decide) (H_991.tg rfl) (by omega) (g_m_watch_ok hV_1000 hV_1005 hV_1010 hV_1015 hV_1020 H_991 h_1021) rfl rfl ?_
        intro R_1021 m_1021 p_1021 e_1021 hR_1021 H_1021
        subst e_1021
        refine r_p hq 2 (pc' := 1368) (L' := [(0, .ref 0), (1, .ref 39), (2, .ref 143), (3, .int X3)]) (st' := []) rfl ?_
        exact g_jRangeAnswersLaw_law_L1368_ok hxl ih hx3 H_1021 h
      rcases z_ite h with ⟨c_33_27, h⟩ | ⟨c_33_27, h⟩
      · refine r_sw (off := 995) (pc' := 1028) (L' := [(0, .ref 0), (1, .ref 39), (2, .ref 143), (3, .int X3)]) hq (z_at.mk 163 rfl rfl) (z_off_v ((tx_iand hV_29 (rfl : (63 : Int32).toInt = 63)).trans c_33_27) rfl) rfl rfl rfl ?_
        refine r_p hq 5 (pc' := 1033) (L' := [(0, .ref 0), (1, .ref 39), (2, .ref 143), (3, .int X3)]) (st' := [.int (X3 + ((1 : Int32))), .ref 0, .ref 39]) rfl ?_
        obtain ⟨g_1033, h⟩ := z_ifo_some h
        refine r_iaS (pc' := 1034) (L' := [(0, .ref 0), (1, .ref 39), (2, .ref 143), (3, .int X3)]) H hq (z_at.mk 1 rfl rfl) (tx_iadd hx3 (rfl : (1 : Int32).toInt = 1)) g_1033 rfl rfl ?_
        intro V_1033 hV_1033
        obtain ⟨o_1034, h_1034, h⟩ := Option.bind_eq_some_iff.mp h
        refine r_cvL (pc' := 1037) (L' := [(0, .ref 0), (1, .ref 39), (2, .ref 143), (3, .int X3)]) (Ps := [.int V_1033]) (rest := []) hq (z_at.mk 3 rfl rfl) (Or.inl ⟨rfl, rfl⟩) rfl rfl (by decide) (by decide) rfl (Nat.not_lt.mpr (Nat.le_of_ble_eq_true rfl)) rfl rfl (z_cat_le 0 rfl (by decide)) (z_lgl_le 2 rfl (by decide)) (by decide) (H.tg rfl) (by omega) (g_c_value_ok hV_1033 H h_1034) rfl rfl ?_
        intro R_1034 m_1034 p_1034 e_1034 hR_1034 H_1034
        subst e_1034
        refine r_p hq 6 (pc' := 1043) (L' := [(0, .ref 0), (1, .ref 39), (2, .ref 143), (3, .int X3)]) (st' := [.int (X3 + ((1 : Int32))), .ref 0, .ref 143]) rfl ?_
        obtain ⟨g_1043, h⟩ := z_ifo_some h
        refine r_iaS (pc' := 1044) (L' := [(0, .ref 0), (1, .ref 39), (2, .ref 143), (3, .int X3)]) H_1034 hq (z_at.mk 1 rfl rfl) (tx_iadd hx3 (rfl : (1 : Int32).toInt = 1)) g_1043 rfl rfl ?_
        intro V_1043 hV_1043
        obtain ⟨o_1044, h_1044, h⟩ := Option.bind_eq_some_iff.mp h
        refine r_cvL (pc' := 1047) (L' := [(0, .ref 0), (1, .ref 39), (2, .ref 143), (3, .int X3)]) (Ps := [.int V_1043]) (rest := []) hq (z_at.mk 3 rfl rfl) (Or.inl ⟨rfl, rfl⟩) rfl rfl (by decide) (by decide) rfl (Nat.not_lt.mpr (Nat.le_of_ble_eq_true rfl)) rfl rfl (z_cat_le 0 rfl (by decide)) (z_lgl_le 2 rfl (by decide)) (by decide) (H_1034.tg rfl) (by omega) (g_m_value_ok hV_1043 H_1034 h_1044) rfl rfl ?_
        intro R_1044 m_1044 p_1044 e_1044 hR_1044 H_1044
        subst e_1044
        refine r_p hq 2 (pc' := 1368) (L' := [(0, .ref 0), (1, .ref 39), (2, .ref 143), (3, .int X3)]) (st' := []) rfl ?_
        exact g_jRangeAnswersLaw_law_L1368_ok hxl ih hx3 H_1044 h
      rcases z_ite h with ⟨c_33_28, h⟩ | ⟨c_33_28, h⟩
      · refine r_sw (off := 1018) (pc' := 1051) (L' := [(0, .ref 0), (1, .ref 39), (2, .ref 143), (3, .int X3)]) hq (z_at.mk 163 rfl rfl) (z_off_v ((tx_iand hV_29 (rfl : (63 : Int32).toInt = 63)).trans c_33_28) rfl) rfl rfl rfl ?_
        refine r_p hq 5 (pc' := 1056) (L' := [(0, .ref 0), (1, .ref 39), (2, .ref 143), (3, .int X3)]) (st' := [.int (X3 + ((1 : Int32))), .ref 0, .ref 39]) rfl ?_
        obtain ⟨g_1056, h⟩ := z_ifo_some h
        refine r_iaS (pc' := 1057) (L' := [(0, .ref 0), (1, .ref 39), (2, .ref 143), (3, .int X3)]) H hq (z_at.mk 1 rfl rfl) (tx_iadd hx3 (rfl : (1 : Int32).toInt = 1)) g_1056 rfl rfl ?_
        intro V_1056 hV_1056
        obtain ⟨o_1057, h_1057, h⟩ := Option.bind_eq_some_iff.mp h
        refine r_cvI (pc' := 1060) (L' := [(0, .ref 0), (1, .ref 39), (2, .ref 143), (3, .int X3)]) (Ps := [.int V_1056]) (rest := []) hq (z_at.mk 3 rfl rfl) (Or.inl ⟨rfl, rfl⟩) rfl rfl (by decide) (by decide) rfl (Nat.not_lt.mpr (Nat.le_of_ble_eq_true rfl)) rfl rfl (z_cat_le 0 rfl (by decide)) (z_lgl_le 2 rfl (by decide)) (by decide) (H.tg rfl) (by omega) (g_c_changes_ok hV_1056 H h_1057) rfl rfl ?_
        intro R_1057 m_1057 p_1057 e_1057 hR_1057 H_1057
        subst e_1057
        refine r_p hq 6 (pc' := 1066) (L' := [(0, .ref 0), (1, .ref 39), (2, .ref 143), (3, .int X3)]) (st' := [.int (X3 + ((1 : Int32))), .ref 0, .ref 143]) rfl ?_
        obtain ⟨g_1066, h⟩ := z_ifo_some h
        refine r_iaS (pc' := 1067) (L' := [(0, .ref 0), (1, .ref 39), (2, .ref 143), (3, .int X3)]) H_1057 hq (z_at.mk 1 rfl rfl) (tx_iadd hx3 (rfl : (1 : Int32).toInt = 1)) g_1066 rfl rfl ?_
        intro V_1066 hV_1066
        obtain ⟨o_1067, h_1067, h⟩ := Option.bind_eq_some_iff.mp h
        refine r_cvI (pc' := 1070) (L' := [(0, .ref 0), (1, .ref 39), (2, .ref 143), (3, .int X3)]) (Ps := [.int V_1066]) (rest := []) hq (z_at.mk 3 rfl rfl) (Or.inl ⟨rfl, rfl⟩) rfl rfl (by decide) (by decide) rfl (Nat.not_lt.mpr (Nat.le_of_ble_eq_true rfl)) rfl rfl (z_cat_le 0 rfl (by decide)) (z_lgl_le 2 rfl (by decide)) (by decide) (H_1057.tg rfl) (by omega) (g_m_changes_ok hV_1066 H_1057 h_1067) rfl rfl ?_
        intro R_1067 m_1067 p_1067 e_1067 hR_1067 H_1067
        subst e_1067
        refine r_p hq 2 (pc' := 1368) (L' := [(0, .ref 0), (1, .ref 39), (2, .ref 143), (3, .int X3)]) (st' := []) rfl ?_
        exact g_jRangeAnswersLaw_law_L1368_ok hxl ih hx3 H_1067 h
      rcases z_ite h with ⟨c_33_29, h⟩ | ⟨c_33_29, h⟩
      · refine r_sw (off := 1041) (pc' := 1074) (L' := [(0, .ref 0), (1, .ref 39), (2, .ref 143), (3, .int X3)]) hq (z_at.mk 163 rfl rfl) (z_off_v ((tx_iand hV_29 (rfl : (63 : Int32).toInt = 63)).trans c_33_29) rfl) rfl rfl rfl ?_
        refine r_p hq 5 (pc' := 1079) (L' := [(0, .ref 0), (1, .ref 39), (2, .ref 143), (3, .int X3)]) (st' := [.int (X3 + ((1 : Int32))), .ref 0, .ref 39]) rfl ?_
        obtain ⟨g_1079, h⟩ := z_ifo_some h
        refine r_iaS (pc' := 1080) (L' := [(0, .ref 0), (1, .ref 39), (2, .ref 143), (3, .int X3)]) H hq (z_at.mk 1 rfl rfl) (tx_iadd hx3 (rfl : (1 : Int32).toInt = 1)) g_1079 rfl rfl ?_
        intro V_1079 hV_1079
        refine r_p hq 4 (pc' := 1084) (L' := [(0, .ref 0), (1, .ref 39), (2, .ref 143), (3, .int X3)]) (st' := [.int (X3 + ((2 : Int32))), .ref 0, .int V_1079, .ref 39]) rfl ?_
        obtain ⟨g_1084, h⟩ := z_ifo_some h
        refine r_iaS (pc' := 1085) (L' := [(0, .ref 0), (1, .ref 39), (2, .ref 143), (3, .int X3)]) H hq (z_at.mk 1 rfl rfl) (tx_iadd hx3 (rfl : (2 : Int32).toInt = 2)) g_1084 rfl rfl ?_
        intro V_1084 hV_1084
        obtain ⟨o_1085, h_1085, h⟩ := Option.bind_eq_some_iff.mp h
        refine r_cvI (pc' := 1088) (L' := [(0, .ref 0), (1, .ref 39), (2, .ref 143), (3, .int X3)]) (Ps := [.int V_1079, .int V_1084]) (rest := []) hq (z_at.mk 3 rfl rfl) (Or.inl ⟨rfl, rfl⟩) rfl rfl (by decide) (by decide) rfl (Nat.not_lt.mpr (Nat.le_of_ble_eq_true rfl)) rfl rfl (z_cat_le 0 rfl (by decide)) (z_lgl_le 3 rfl (by decide)) (by decide) (H.tg rfl) (by omega) (g_c_list_ok hV_1079 hV_1084 H h_1085) rfl rfl ?_
        intro R_1085 m_1085 p_1085 e_1085 hR_1085 H_1085
        subst e_1085
        refine r_p hq 6 (pc' := 1094) (L' := [(0, .ref 0), (1, .ref 39), (2, .ref 143), (3, .int X3)]) (st' := [.int (X3 + ((1 : Int32))), .ref 0, .ref 143]) rfl ?_
        obtain ⟨g_1094, h⟩ := z_ifo_some h
        refine r_iaS (pc' := 1095) (L' := [(0, .ref 0), (1, .ref 39), (2, .ref 143), (3, .int X3)]) H_1085 hq (z_at.mk 1 rfl rfl) (tx_iadd hx3 (rfl : (1 : Int32).toInt = 1)) g_1094 rfl rfl ?_
        intro V_1094 hV_1094
        refine r_p hq 4 (pc' := 1099) (L' := [(0, .ref 0), (1, .ref 39), (2, .ref 143), (3, .int X3)]) (st' := [.int (X3 + ((2 : Int32))), .ref 0, .int V_1094, .ref 143]) rfl ?_
        obtain ⟨g_1099, h⟩ := z_ifo_some h
        refine r_iaS (pc' := 1100) (L' := [(0, .ref 0), (1, .ref 39), (2, .ref 143), (3, .int X3)]) H_1085 hq (z_at.mk 1 rfl rfl) (tx_iadd hx3 (rfl : (2 : Int32).toInt = 2)) g_1099 rfl rfl ?_
        intro V_1099 hV_1099
        obtain ⟨o_1100, h_1100, h⟩ := Option.bind_eq_some_iff.mp h
        refine r_cvI (pc' := 1103) (L' := [(0, .ref 0), (1, .ref 39), (2, .ref 143), (3, .int X3)]) (Ps := [.int V_1094, .int V_1099]) (rest := []) hq (z_at.mk 3 rfl rfl) (Or.inl ⟨rfl, rfl⟩) rfl rfl (by decide) (by decide) rfl (Nat.not_lt.mpr (Nat.le_of_ble_eq_true rfl)) rfl rfl (z_cat_le 0 rfl (by decide)) (z_lgl_le 3 rfl (by decide)) (by decide) (H_1085.tg rfl) (by omega) (g_m_list_ok hV_1094 hV_1099 H_1085 h_1100) rfl rfl ?_
        intro R_1100 m_1100 p_1100 e_1100 hR_1100 H_1100
        subst e_1100
        refine r_p hq 2 (pc' := 1368) (L' := [(0, .ref 0), (1, .ref 39), (2, .ref 143), (3, .int X3)]) (st' := []) rfl ?_
        exact g_jRangeAnswersLaw_law_L1368_ok hxl ih hx3 H_1100 h
      rcases z_ite h with ⟨c_33_30, h⟩ | ⟨c_33_30, h⟩
      · refine r_sw (off := 1074) (pc' := 1107) (L' := [(0, .ref 0), (1, .ref 39), (2, .ref 143), (3, .int X3)]) hq (z_at.mk 163 rfl rfl) (z_off_v ((tx_iand hV_29 (rfl : (63 : Int32).toInt = 63)).trans c_33_30) rfl) rfl rfl rfl ?_
        refine r_p hq 5 (pc' := 1112) (L' := [(0, .ref 0), (1, .ref 39), (2, .ref 143), (3, .int X3)]) (st' := [.int (X3 + ((1 : Int32))), .ref 0, .ref 39]) rfl ?_
        obtain ⟨g_1112, h⟩ := z_ifo_some h
        refine r_iaS (pc' := 1113) (L' := [(0, .ref 0), (1, .ref 39), (2, .ref 143), (3, .int X3)]) H hq (z_at.mk 1 rfl rfl) (tx_iadd hx3 (rfl : (1 : Int32).toInt = 1)) g_1112 rfl rfl ?_
        intro V_1112 hV_1112
        refine r_p hq 4 (pc' := 1117) (L' := [(0, .ref 0), (1, .ref 39), (2, .ref 143), (3, .int X3)]) (st' := [.int (X3 + ((2 : Int32))), .ref 0, .int V_1112, .ref 39]) rfl ?_
        obtain ⟨g_1117, h⟩ := z_ifo_some h
        refine r_iaS (pc' := 1118) (L' := [(0, .ref 0), (1, .ref 39), (2, .ref 143), (3, .int X3)]) H hq (z_at.mk 1 rfl rfl) (tx_iadd hx3 (rfl : (2 : Int32).toInt = 2)) g_1117 rfl rfl ?_
        intro V_1117 hV_1117
        refine r_p hq 4 (pc' := 1122) (L' := [(0, .ref 0), (1, .ref 39), (2, .ref 143), (3, .int X3)]) (st' := [.int (X3 + ((3 : Int32))), .ref 0, .int V_1117, .int V_1112, .ref 39]) rfl ?_
        obtain ⟨g_1122, h⟩ := z_ifo_some h
        refine r_iaS (pc' := 1123) (L' := [(0, .ref 0), (1, .ref 39), (2, .ref 143), (3, .int X3)]) H hq (z_at.mk 1 rfl rfl) (tx_iadd hx3 (rfl : (3 : Int32).toInt = 3)) g_1122 rfl rfl ?_
        intro V_1122 hV_1122
        refine r_p hq 7 (pc' := 1131) (L' := [(0, .ref 0), (1, .ref 39), (2, .ref 143), (3, .int X3)]) (st' := [.int (X3 + ((4 : Int32))), .ref 0, .long (V_1122.toInt64 <<< (((32 : Int32)).toInt64 &&& 63)), .int V_1117, .int V_1112, .ref 39]) rfl ?_
        obtain ⟨g_1131, h⟩ := z_ifo_some h
        refine r_iaS (pc' := 1132) (L' := [(0, .ref 0), (1, .ref 39), (2, .ref 143), (3, .int X3)]) H hq (z_at.mk 1 rfl rfl) (tx_iadd hx3 (rfl : (4 : Int32).toInt = 4)) g_1131 rfl rfl ?_
        intro V_1131 hV_1131
        refine r_p hq 4 (pc' := 1138) (L' := [(0, .ref 0), (1, .ref 39), (2, .ref 143), (3, .int X3)]) (st' := [.long ((V_1122.toInt64 <<< (((32 : Int32)).toInt64 &&& 63)) ||| (V_1131.toInt64 &&& ((4294967295 : Int64)))), .int V_1117, .int V_1112, .ref 39]) rfl ?_
        obtain ⟨o_1138, h_1138, h⟩ := Option.bind_eq_some_iff.mp h
        refine r_cvI (pc' := 1141) (L' := [(0, .ref 0), (1, .ref 39), (2, .ref 143), (3, .int X3)]) (Ps := [.int V_1112, .int V_1117, .long ((V_1122.toInt64 <<< (((32 : Int32)).toInt64 &&& 63)) ||| (V_1131.toInt64 &&& ((4294967295 : Int64))))]) (rest := []) hq (z_at.mk 3 rfl rfl) (Or.inl ⟨rfl, rfl⟩) rfl rfl (by decide) (by decide) rfl (Nat.not_lt.mpr (Nat.le_of_ble_eq_true rfl)) rfl rfl (z_cat_le 0 rfl (by decide)) (z_lgl_le 5 rfl (by decide)) (by decide) (H.tg rfl) (by omega) (g_c_set_ok hV_1112 hV_1117 (tx_lor (tx_lshl (tx_i2l hV_1122) (rfl : (32 : Int32).toInt = 32)) (tx_land (tx_i2l hV_1131) (rfl : (4294967295 : Int64).toInt = 4294967295))) H h_1138) rfl rfl ?_
        intro R_1138 m_1138 p_1138 e_1138 hR_1138 H_1138
        subst e_1138
        refine r_p hq 6 (pc' := 1147) (L' := [(0, .ref 0), (1, .ref 39), (2, .ref 143), (3, .int X3)]) (st' := [.int (X3 + ((1 : Int32))), .ref 0, .ref 143]) rfl ?_
        obtain ⟨g_1147, h⟩ := z_ifo_some h
        refine r_iaS (pc' := 1148) (L' := [(0, .ref 0), (1, .ref 39), (2, .ref 143), (3, .int X3)]) H_1138 hq (z_at.mk 1 rfl rfl) (tx_iadd hx3 (rfl : (1 : Int32).toInt = 1)) g_1147 rfl rfl ?_
        intro V_1147 hV_1147
        refine r_p hq 4 (pc' := 1152) (L' := [(0, .ref 0), (1, .ref 39), (2, .ref 143), (3, .int X3)]) (st' := [.int (X3 + ((2 : Int32))), .ref 0, .int V_1147, .ref 143]) rfl ?_
        obtain ⟨g_1152, h⟩ := z_ifo_some h
        refine r_iaS (pc' := 1153) (L' := [(0, .ref 0), (1, .ref 39), (2, .ref 143), (3, .int X3)]) H_1138 hq (z_at.mk 1 rfl rfl) (tx_iadd hx3 (rfl : (2 : Int32).toInt = 2)) g_1152 rfl rfl ?_
        intro V_1152 hV_1152
        refine r_p hq 4 (pc' := 1157) (L' := [(0, .ref 0), (1, .ref 39), (2, .ref 143), (3, .int X3)]) (st' := [.int (X3 + ((3 : Int32))), .ref 0, .int V_1152, .int V_1147, .ref 143]) rfl ?_
        obtain ⟨g_1157, h⟩ := z_ifo_some h
        refine r_iaS (pc' := 1158) (L' := [(0, .ref 0), (1, .ref 39), (2, .ref 143), (3, .int X3)]) H_1138 hq (z_at.mk 1 rfl rfl) (tx_iadd hx3 (rfl : (3 : Int32).toInt = 3)) g_1157 rfl rfl ?_
        intro V_1157 hV_1157
        refine r_p hq 7 (pc' := 1166) (L' := [(0, .ref 0), (1, .ref 39), (2, .ref 143), (3, .int X3)]) (st' := [.int (X3 + ((4 : Int32))), .ref 0, .long (V_1157.toInt64 <<< (((32 : Int32)).toInt64 &&& 63)), .int V_1152, .int V_1147, .ref 143]) rfl ?_
        obtain ⟨g_1166, h⟩ := z_ifo_some h
        refine r_iaS (pc' := 1167) (L' := [(0, .ref 0), (1, .ref 39), (2, .ref 143), (3, .int X3)]) H_1138 hq (z_at.mk 1 rfl rfl) (tx_iadd hx3 (rfl : (4 : Int32).toInt = 4)) g_1166 rfl rfl ?_
        intro V_1166 hV_1166
        refine r_p hq 4 (pc' := 1173) (L' := [(0, .ref 0), (1, .ref 39), (2, .ref 143), (3, .int X3)]) (st' := [.long ((V_1157.toInt64 <<< (((32 : Int32)).toInt64 &&& 63)) ||| (V_1166.toInt64 &&& ((4294967295 : Int64)))), .int V_1152, .int V_1147, .ref 143]) rfl ?_
        obtain ⟨o_1173, h_1173, h⟩ := Option.bind_eq_some_iff.mp h
        refine r_cvI (pc' := 1176) (L' := [(0, .ref 0), (1, .ref 39), (2, .ref 143), (3, .int X3)]) (Ps := [.int V_1147, .int V_1152, .long ((V_1157.toInt64 <<< (((32 : Int32)).toInt64 &&& 63)) ||| (V_1166.toInt64 &&& ((4294967295 : Int64))))]) (rest := []) hq (z_at.mk 3 rfl rfl) (Or.inl ⟨rfl, rfl⟩) rfl rfl (by decide) (by decide) rfl (Nat.not_lt.mpr (Nat.le_of_ble_eq_true rfl)) rfl rfl (z_cat_le 0 rfl (by decide)) (z_lgl_le 5 rfl (by decide)) (by decide) (H_1138.tg rfl) (by omega) (g_m_set_ok hV_1147 hV_1152 (tx_lor (tx_lshl (tx_i2l hV_1157) (rfl : (32 : Int32).toInt = 32)) (tx_land (tx_i2l hV_1166) (rfl : (4294967295 : Int64).toInt = 4294967295))) H_1138 h_1173) rfl rfl ?_
        intro R_1173 m_1173 p_1173 e_1173 hR_1173 H_1173
        subst e_1173
        refine r_p hq 2 (pc' := 1368) (L' := [(0, .ref 0), (1, .ref 39), (2, .ref 143), (3, .int X3)]) (st' := []) rfl ?_
        exact g_jRangeAnswersLaw_law_L1368_ok hxl ih hx3 H_1173 h
      rcases z_ite h with ⟨c_33_31, h⟩ | ⟨c_33_31, h⟩
      · refine r_sw (off := 1147) (pc' := 1180) (L' := [(0, .ref 0), (1, .ref 39), (2, .ref 143), (3, .int X3)]) hq (z_at.mk 163 rfl rfl) (z_off_v ((tx_iand hV_29 (rfl : (63 : Int32).toInt = 63)).trans c_33_31) rfl) rfl rfl rfl ?_
        refine r_p hq 5 (pc' := 1185) (L' := [(0, .ref 0), (1, .ref 39), (2, .ref 143), (3, .int X3)]) (st' := [.int (X3 + ((1 : Int32))), .ref 0, .ref 39]) rfl ?_
        obtain ⟨g_1185, h⟩ := z_ifo_some h
        refine r_iaS (pc' := 1186) (L' := [(0, .ref 0), (1, .ref 39), (2, .ref 143), (3, .int X3)]) H hq (z_at.mk 1 rfl rfl) (tx_iadd hx3 (rfl : (1 : Int32).toInt = 1)) g_1185 rfl rfl ?_
        intro V_1185 hV_1185
        refine r_p hq 4 (pc' := 1190) (L' := [(0, .ref 0), (1, .ref 39), (2, .ref 143), (3, .int X3)]) (st' := [.int (X3 + ((2 : Int32))), .ref 0, .int V_1185, .ref 39]) rfl ?_
        obtain ⟨g_1190, h⟩ := z_ifo_some h
        refine r_iaS (pc' := 1191) (L' := [(0, .ref 0), (1, .ref 39), (2, .ref 143), (3, .int X3)]) H hq (z_at.mk 1 rfl rfl) (tx_iadd hx3 (rfl : (2 : Int32).toInt = 2)) g_1190 rfl rfl ?_
        intro V_1190 hV_1190
        obtain ⟨o_1191, h_1191, h⟩ := Option.bind_eq_some_iff.mp h
        refine r_cvL (pc' := 1194) (L' := [(0, .ref 0), (1, .ref 39), (2, .ref 143), (3, .int X3)]) (Ps := [.int V_1185, .int V_1190]) (rest := []) hq (z_at.mk 3 rfl rfl) (Or.inl ⟨rfl, rfl⟩) rfl rfl (by decide) (by decide) rfl (Nat.not_lt.mpr (Nat.le_of_ble_eq_true rfl)) rfl rfl (z_cat_le 0 rfl (by decide)) (z_lgl_le 3 rfl (by decide)) (by decide) (H.tg rfl) (by omega) (g_c_get_ok hV_1185 hV_1190 H h_1191) rfl rfl ?_
        intro R_1191 m_1191 p_1191 e_1191 hR_1191 H_1191
        subst e_1191
        refine r_p hq 6 (pc' := 1200) (L' := [(0, .ref 0), (1, .ref 39), (2, .ref 143), (3, .int X3)]) (st' := [.int (X3 + ((1 : Int32))), .ref 0, .ref 143]) rfl ?_
        obtain ⟨g_1200, h⟩ := z_ifo_some h
        refine r_iaS (pc' := 1201) (L' := [(0, .ref 0), (1, .ref 39), (2, .ref 143), (3, .int X3)]) H_1191 hq (z_at.mk 1 rfl rfl) (tx_iadd hx3 (rfl : (1 : Int32).toInt = 1)) g_1200 rfl rfl ?_
        intro V_1200 hV_1200
        refine r_p hq 4 (pc' := 1205) (L' := [(0, .ref 0), (1, .ref 39), (2, .ref 143), (3, .int X3)]) (st' := [.int (X3 + ((2 : Int32))), .ref 0, .int V_1200, .ref 143]) rfl ?_
        obtain ⟨g_1205, h⟩ := z_ifo_some h
        refine r_iaS (pc' := 1206) (L' := [(0, .ref 0), (1, .ref 39), (2, .ref 143), (3, .int X3)]) H_1191 hq (z_at.mk 1 rfl rfl) (tx_iadd hx3 (rfl : (2 : Int32).toInt = 2)) g_1205 rfl rfl ?_
        intro V_1205 hV_1205
        obtain ⟨o_1206, h_1206, h⟩ := Option.bind_eq_some_iff.mp h
        refine r_cvL (pc' := 1209) (L' := [(0, .ref 0), (1, .ref 39), (2, .ref 143), (3, .int X3)]) (Ps := [.int V_1200, .int V_1205]) (rest := []) hq (z_at.mk 3 rfl rfl) (Or.inl ⟨rfl, rfl⟩) rfl rfl (by decide) (by decide) rfl (Nat.not_lt.mpr (Nat.le_of_ble_eq_true rfl)) rfl rfl (z_cat_le 0 rfl (by decide)) (z_lgl_le 3 rfl (by decide)) (by decide) (H_1191.tg rfl) (by omega) (g_m_get_ok hV_1200 hV_1205 H_1191 h_1206) rfl rfl ?_
        intro R_1206 m_1206 p_1206 e_1206 hR_1206 H_1206
        subst e_1206
        refine r_p hq 2 (pc' := 1368) (L' := [(0, .ref 0), (1, .ref 39), (2, .ref 143), (3, .int X3)]) (st' := []) rfl ?_
        exact g_jRangeAnswersLaw_law_L1368_ok hxl ih hx3 H_1206 h
      rcases z_ite h with ⟨c_33_32, h⟩ | ⟨c_33_32, h⟩
      · refine r_sw (off := 1180) (pc' := 1213) (L' := [(0, .ref 0), (1, .ref 39), (2, .ref 143), (3, .int X3)]) hq (z_at.mk 163 rfl rfl) (z_off_v ((tx_iand hV_29 (rfl : (63 : Int32).toInt = 63)).trans c_33_32) rfl) rfl rfl rfl ?_
        refine r_p hq 5 (pc' := 1218) (L' := [(0, .ref 0), (1, .ref 39), (2, .ref 143), (3, .int X3)]) (st' := [.int (X3 + ((1 : Int32))), .ref 0, .ref 39]) rfl ?_
        obtain ⟨g_1218, h⟩ := z_ifo_some h
        refine r_iaS (pc' := 1219) (L' := [(0, .ref 0), (1, .ref 39), (2, .ref 143), (3, .int X3)]) H hq (z_at.mk 1 rfl rfl) (tx_iadd hx3 (rfl : (1 : Int32).toInt = 1)) g_1218 rfl rfl ?_
        intro V_1218 hV_1218
        refine r_p hq 4 (pc' := 1223) (L' := [(0, .ref 0), (1, .ref 39), (2, .ref 143), (3, .int X3)]) (st' := [.int (X3 + ((2 : Int32))), .ref 0, .int V_1218, .ref 39]) rfl ?_
        obtain ⟨g_1223, h⟩ := z_ifo_some h
        refine r_iaS (pc' := 1224) (L' := [(0, .ref 0), (1, .ref 39), (2, .ref 143), (3, .int X3)]) H hq (z_at.mk 1 rfl rfl) (tx_iadd hx3 (rfl : (2 : Int32).toInt = 2)) g_1223 rfl rfl ?_
        intro V_1223 hV_1223
        refine r_p hq 4 (pc' := 1228) (L' := [(0, .ref 0), (1, .ref 39), (2, .ref 143), (3, .int X3)]) (st' := [.int (X3 + ((3 : Int32))), .ref 0, .int V_1223, .int V_1218, .ref 39]) rfl ?_
        obtain ⟨g_1228, h⟩ := z_ifo_some h
        refine r_iaS (pc' := 1229) (L' := [(0, .ref 0), (1, .ref 39), (2, .ref 143), (3, .int X3)]) H hq (z_at.mk 1 rfl rfl) (tx_iadd hx3 (rfl : (3 : Int32).toInt = 3)) g_1228 rfl rfl ?_
        intro V_1228 hV_1228
        refine r_p hq 4 (pc' := 1233) (L' := [(0, .ref 0), (1, .ref 39), (2, .ref 143), (3, .int X3)]) (st' := [.int (X3 + ((4 : Int32))), .ref 0, .int V_1228, .int V_1223, .int V_1218, .ref 39]) rfl ?_
        obtain ⟨g_1233, h⟩ := z_ifo_some h
        refine r_iaS (pc' := 1234) (L' := [(0, .ref 0), (1, .ref 39), (2, .ref 143), (3, .int X3)]) H hq (z_at.mk 1 rfl rfl) (tx_iadd hx3 (rfl : (4 : Int32).toInt = 4)) g_1233 rfl rfl ?_
        intro V_1233 hV_1233
        refine r_p hq 4 (pc' := 1238) (L' := [(0, .ref 0), (1, .ref 39), (2, .ref 143), (3, .int X3)]) (st' := [.int (X3 + ((5 : Int32))), .ref 0, .int V_1233, .int V_1228, .int V_1223, .int V_1218, .ref 39]) rfl ?_
        obtain ⟨g_1238, h⟩ := z_ifo_some h
        refine r_iaS (pc' := 1239) (L' := [(0, .ref 0), (1, .ref 39), (2, .ref 143), (3, .int X3)]) H hq (z_at.mk 1 rfl rfl) (tx_iadd hx3 (rfl : (5 : Int32).toInt = 5)) g_1238 rfl rfl ?_
        intro V_1238 hV_1238
        obtain ⟨o_1239, h_1239, h⟩ := Option.bind_eq_some_iff.mp h
        refine r_cvI (pc' := 1242) (L' := [(0, .ref 0), (1, .ref 39), (2, .ref 143), (3, .int X3)]) (Ps := [.int V_1218, .int V_1223, .int V_1228, .int V_1233, .int V_1238]) (rest := []) hq (z_at.mk 3 rfl rfl) (Or.inl ⟨rfl, rfl⟩) rfl rfl (by decide) (by decide) rfl (Nat.not_lt.mpr (Nat.le_of_ble_eq_true rfl)) rfl rfl (z_cat_le 0 rfl (by decide)) (z_lgl_le 6 rfl (by decide)) (by decide) (H.tg rfl) (by omega) (g_c_move_ok hV_1218 hV_1223 hV_1228 hV_1233 hV_1238 H h_1239) rfl rfl ?_
        intro R_1239 m_1239 p_1239 e_1239 hR_1239 H_1239
        subst e_1239
        refine r_p hq 6 (pc' := 1248) (L' := [(0, .ref 0), (1, .ref 39), (2, .ref 143), (3, .int X3)]) (st' := [.int (X3 + ((1 : Int32))), .ref 0, .ref 143]) rfl ?_
        obtain ⟨g_1248, h⟩ := z_ifo_some h
        refine r_iaS (pc' := 1249) (L' := [(0, .ref 0), (1, .ref 39), (2, .ref 143), (3, .int X3)]) H_1239 hq (z_at.mk 1 rfl rfl) (tx_iadd hx3 (rfl : (1 : Int32).toInt = 1)) g_1248 rfl rfl ?_
        intro V_1248 hV_1248
        refine r_p hq 4 (pc' := 1253) (L' := [(0, .ref 0), (1, .ref 39), (2, .ref 143), (3, .int X3)]) (st' := [.int (X3 + ((2 : Int32))), .ref 0, .int V_1248, .ref 143]) rfl ?_
        obtain ⟨g_1253, h⟩ := z_ifo_some h
        refine r_iaS (pc' := 1254) (L' := [(0, .ref 0), (1, .ref 39), (2, .ref 143), (3, .int X3)]) H_1239 hq (z_at.mk 1 rfl rfl) (tx_iadd hx3 (rfl : (2 : Int32).toInt = 2)) g_1253 rfl rfl ?_
        intro V_1253 hV_1253
        refine r_p hq 4 (pc' := 1258) (L' := [(0, .ref 0), (1, .ref 39), (2, .ref 143), (3, .int X3)]) (st' := [.int (X3 + ((3 : Int32))), .ref 0, .int V_1253, .int V_1248, .ref 143]) rfl ?_
        obtain ⟨g_1258, h⟩ := z_ifo_some h
        refine r_iaS (pc' := 1259) (L' := [(0, .ref 0), (1, .ref 39), (2, .ref 143), (3, .int X3)]) H_1239 hq (z_at.mk 1 rfl rfl) (tx_iadd hx3 (rfl : (3 : Int32).toInt = 3)) g_1258 rfl rfl ?_
        intro V_1258 hV_1258
        refine r_p hq 4 (pc' := 1263) (L' := [(0, .ref 0), (1, .ref 39), (2, .ref 143), (3, .int X3)]) (st' := [.int (X3 + ((4 : Int32))), .ref 0, .int V_1258, .int V_1253, .int V_1248, .ref 143]) rfl ?_
        obtain ⟨g_1263, h⟩ := z_ifo_some h
        refine r_iaS (pc' := 1264) (L' := [(0, .ref 0), (1, .ref 39), (2, .ref 143), (3, .int X3)]) H_1239 hq (z_at.mk 1 rfl rfl) (tx_iadd hx3 (rfl : (4 : Int32).toInt = 4)) g_1263 rfl rfl ?_
        intro V_1263 hV_1263
        refine r_p hq 4 (pc' := 1268) (L' := [(0, .ref 0), (1, .ref 39), (2, .ref 143), (3, .int X3)]) (st' := [.int (X3 + ((5 : Int32))), .ref 0, .int V_1263, .int V_1258, .int V_1253, .int V_1248, .ref 143]) rfl ?_
        obtain ⟨g_1268, h⟩ := z_ifo_some h
        refine r_iaS (pc' := 1269) (L' := [(0, .ref 0), (1, .ref 39), (2, .ref 143), (3, .int X3)]) H_1239 hq (z_at.mk 1 rfl rfl) (tx_iadd hx3 (rfl : (5 : Int32).toInt = 5)) g_1268 rfl rfl ?_
        intro V_1268 hV_1268
        obtain ⟨o_1269, h_1269, h⟩ := Option.bind_eq_some_iff.mp h
        refine r_cvI (pc' := 1272) (L' := [(0, .ref 0), (1, .ref 39), (2, .ref 143), (3, .int X3)]) (Ps := [.int V_1248, .int V_1253, .int V_1258, .int V_1263, .int V_1268]) (rest := []) hq (z_at.mk 3 rfl rfl) (Or.inl ⟨rfl, rfl⟩) rfl rfl (by decide) (by decide) rfl (Nat.not_lt.mpr (Nat.le_of_ble_eq_true rfl)) rfl rfl (z_cat_le 0 rfl (by decide)) (z_lgl_le 6 rfl (by decide)) (by decide) (H_1239.tg rfl) (by omega) (g_m_move_ok hV_1248 hV_1253 hV_1258 hV_1263 hV_1268 H_1239 h_1269) rfl rfl ?_
        intro R_1269 m_1269 p_1269 e_1269 hR_1269 H_1269
        subst e_1269
        refine r_p hq 2 (pc' := 1368) (L' := [(0, .ref 0), (1, .ref 39), (2, .ref 143), (3, .int X3)]) (st' := []) rfl ?_
        exact g_jRangeAnswersLaw_law_L1368_ok hxl ih hx3 H_1269 h
      rcases z_ite h with ⟨c_33_33, h⟩ | ⟨c_33_33, h⟩
      · refine r_sw (off := 1243) (pc' := 1276) (L' := [(0, .ref 0), (1, .ref 39), (2, .ref 143), (3, .int X3)]) hq (z_at.mk 163 rfl rfl) (z_off_v ((tx_iand hV_29 (rfl : (63 : Int32).toInt = 63)).trans c_33_33) rfl) rfl rfl rfl ?_
        refine r_p hq 5 (pc' := 1281) (L' := [(0, .ref 0), (1, .ref 39), (2, .ref 143), (3, .int X3)]) (st' := [.int (X3 + ((1 : Int32))), .ref 0, .ref 39]) rfl ?_
        obtain ⟨g_1281, h⟩ := z_ifo_some h
        refine r_iaS (pc' := 1282) (L' := [(0, .ref 0), (1, .ref 39), (2, .ref 143), (3, .int X3)]) H hq (z_at.mk 1 rfl rfl) (tx_iadd hx3 (rfl : (1 : Int32).toInt = 1)) g_1281 rfl rfl ?_
        intro V_1281 hV_1281
        refine r_p hq 4 (pc' := 1286) (L' := [(0, .ref 0), (1, .ref 39), (2, .ref 143), (3, .int X3)]) (st' := [.int (X3 + ((2 : Int32))), .ref 0, .int V_1281, .ref 39]) rfl ?_
        obtain ⟨g_1286, h⟩ := z_ifo_some h
        refine r_iaS (pc' := 1287) (L' := [(0, .ref 0), (1, .ref 39), (2, .ref 143), (3, .int X3)]) H hq (z_at.mk 1 rfl rfl) (tx_iadd hx3 (rfl : (2 : Int32).toInt = 2)) g_1286 rfl rfl ?_
        intro V_1286 hV_1286
        obtain ⟨o_1287, h_1287, h⟩ := Option.bind_eq_some_iff.mp h
        refine r_cvI (pc' := 1290) (L' := [(0, .ref 0), (1, .ref 39), (2, .ref 143), (3, .int X3)]) (Ps := [.int V_1281, .int V_1286]) (rest := []) hq (z_at.mk 3 rfl rfl) (Or.inl ⟨rfl, rfl⟩) rfl rfl (by decide) (by decide) rfl (Nat.not_lt.mpr (Nat.le_of_ble_eq_true rfl)) rfl rfl (z_cat_le 0 rfl (by decide)) (z_lgl_le 3 rfl (by decide)) (by decide) (H.tg rfl) (by omega) (g_c_lay_ok hV_1281 hV_1286 H h_1287) rfl rfl ?_
        intro R_1287 m_1287 p_1287 e_1287 hR_1287 H_1287
        subst e_1287
        refine r_p hq 6 (pc' := 1296) (L' := [(0, .ref 0), (1, .ref 39), (2, .ref 143), (3, .int X3)]) (st' := [.int (X3 + ((1 : Int32))), .ref 0, .ref 143]) rfl ?_
        obtain ⟨g_1296, h⟩ := z_ifo_some h
        refine r_iaS (pc' := 1297) (L' := [(0, .ref 0), (1, .ref 39), (2, .ref 143), (3, .int X3)]) H_1287 hq (z_at.mk 1 rfl rfl) (tx_iadd hx3 (rfl : (1 : Int32).toInt = 1)) g_1296 rfl rfl ?_
        intro V_1296 hV_1296
        refine r_p hq 4 (pc' := 1301) (L' := [(0, .ref 0), (1, .ref 39), (2, .ref 143), (3, .int X3)]) (st' := [.int (X3 + ((2 : Int32))), .ref 0, .int V_1296, .ref 143]) rfl ?_
        obtain ⟨g_1301, h⟩ := z_ifo_some h
        refine r_iaS (pc' := 1302) (L' := [(0, .ref 0), (1, .ref 39), (2, .ref 143), (3, .int X3)]) H_1287 hq (z_at.mk 1 rfl rfl) (tx_iadd hx3 (rfl : (2 : Int32).toInt = 2)) g_1301 rfl rfl ?_
        intro V_1301 hV_1301
        obtain ⟨o_1302, h_1302, h⟩ := Option.bind_eq_some_iff.mp h
        refine r_cvI (pc' := 1305) (L' := [(0, .ref 0), (1, .ref 39), (2, .ref 143), (3, .int X3)]) (Ps := [.int V_1296, .int V_1301]) (rest := []) hq (z_at.mk 3 rfl rfl) (Or.inl ⟨rfl, rfl⟩) rfl rfl (by decide) (by decide) rfl (Nat.not_lt.mpr (Nat.le_of_ble_eq_true rfl)) rfl rfl (z_cat_le 0 rfl (by decide)) (z_lgl_le 3 rfl (by decide)) (by decide) (H_1287.tg rfl) (by omega) (g_m_lay_ok hV_1296 hV_1301 H_1287 h_1302) rfl rfl ?_
        intro R_1302 m_1302 p_1302 e_1302 hR_1302 H_1302
        subst e_1302
        refine r_p hq 2 (pc' := 1368) (L' := [(0, .ref 0), (1, .ref 39), (2, .ref 143), (3, .int X3)]) (st' := []) rfl ?_
        exact g_jRangeAnswersLaw_law_L1368_ok hxl ih hx3 H_1302 h
      rcases z_ite h with ⟨c_33_34, h⟩ | ⟨c_33_34, h⟩
      · refine r_sw (off := 1276) (pc' := 1309) (L' := [(0, .ref 0), (1, .ref 39), (2, .ref 143), (3, .int X3)]) hq (z_at.mk 163 rfl rfl) (z_off_v ((tx_iand hV_29 (rfl : (63 : Int32).toInt = 63)).trans c_33_34) rfl) rfl rfl rfl ?_
        refine r_p hq 5 (pc' := 1314) (L' := [(0, .ref 0), (1, .ref 39), (2, .ref 143), (3, .int X3)]) (st' := [.int (X3 + ((1 : Int32))), .ref 0, .ref 39]) rfl ?_
        obtain ⟨g_1314, h⟩ := z_ifo_some h
        refine r_iaS (pc' := 1315) (L' := [(0, .ref 0), (1, .ref 39), (2, .ref 143), (3, .int X3)]) H hq (z_at.mk 1 rfl rfl) (tx_iadd hx3 (rfl : (1 : Int32).toInt = 1)) g_1314 rfl rfl ?_
        intro V_1314 hV_1314
        refine r_p hq 4 (pc' := 1319) (L' := [(0, .ref 0), (1, .ref 39), (2, .ref 143), (3, .int X3)]) (st' := [.int (X3 + ((2 : Int32))), .ref 0, .int V_1314, .ref 39]) rfl ?_
        obtain ⟨g_1319, h⟩ := z_ifo_some h
        refine r_iaS (pc' := 1320) (L' := [(0, .ref 0), (1, .ref 39), (2, .ref 143), (3, .int X3)]) H hq (z_at.mk 1 rfl rfl) (tx_iadd hx3 (rfl : (2 : Int32).toInt = 2)) g_1319 rfl rfl ?_
        intro V_1319 hV_1319
        obtain ⟨o_1320, h_1320, h⟩ := Option.bind_eq_some_iff.mp h
        refine r_cvI (pc' := 1323) (L' := [(0, .ref 0), (1, .ref 39), (2, .ref 143), (3, .int X3)]) (Ps := [.int V_1314, .int V_1319]) (rest := []) hq (z_at.mk 3 rfl rfl) (Or.inl ⟨rfl, rfl⟩) rfl rfl (by decide) (by decide) rfl (Nat.not_lt.mpr (Nat.le_of_ble_eq_true rfl)) rfl rfl (z_cat_le 0 rfl (by decide)) (z_lgl_le 3 rfl (by decide)) (by decide) (H.tg rfl) (by omega) (g_c_judge_ok hV_1314 hV_1319 H h_1320) rfl rfl ?_
        intro R_1320 m_1320 p_1320 e_1320 hR_1320 H_1320
        subst e_1320
        refine r_p hq 6 (pc' := 1329) (L' := [(0, .ref 0), (1, .ref 39), (2, .ref 143), (3, .int X3)]) (st' := [.int (X3 + ((1 : Int32))), .ref 0, .ref 143]) rfl ?_
        obtain ⟨g_1329, h⟩ := z_ifo_some h
        refine r_iaS (pc' := 1330) (L' := [(0, .ref 0), (1, .ref 39), (2, .ref 143), (3, .int X3)]) H_1320 hq (z_at.mk 1 rfl rfl) (tx_iadd hx3 (rfl : (1 : Int32).toInt = 1)) g_1329 rfl rfl ?_
        intro V_1329 hV_1329
        refine r_p hq 4 (pc' := 1334) (L' := [(0, .ref 0), (1, .ref 39), (2, .ref 143), (3, .int X3)]) (st' := [.int (X3 + ((2 : Int32))), .ref 0, .int V_1329, .ref 143]) rfl ?_
        obtain ⟨g_1334, h⟩ := z_ifo_some h
        refine r_iaS (pc' := 1335) (L' := [(0, .ref 0), (1, .ref 39), (2, .ref 143), (3, .int X3)]) H_1320 hq (z_at.mk 1 rfl rfl) (tx_iadd hx3 (rfl : (2 : Int32).toInt = 2)) g_1334 rfl rfl ?_
        intro V_1334 hV_1334
        obtain ⟨o_1335, h_1335, h⟩ := Option.bind_eq_some_iff.mp h
        refine r_cvI (pc' := 1338) (L' := [(0, .ref 0), (1, .ref 39), (2, .ref 143), (3, .int X3)]) (Ps := [.int V_1329, .int V_1334]) (rest := []) hq (z_at.mk 3 rfl rfl) (Or.inl ⟨rfl, rfl⟩) rfl rfl (by decide) (by decide) rfl (Nat.not_lt.mpr (Nat.le_of_ble_eq_true rfl)) rfl rfl (z_cat_le 0 rfl (by decide)) (z_lgl_le 3 rfl (by decide)) (by decide) (H_1320.tg rfl) (by omega) (g_m_judge_ok hV_1329 hV_1334 H_1320 h_1335) rfl rfl ?_
        intro R_1335 m_1335 p_1335 e_1335 hR_1335 H_1335
        subst e_1335
        refine r_p hq 2 (pc' := 1368) (L' := [(0, .ref 0), (1, .ref 39), (2, .ref 143), (3, .int X3)]) (st' := []) rfl ?_
        exact g_jRangeAnswersLaw_law_L1368_ok hxl ih hx3 H_1335 h
      rcases z_ite h with ⟨c_33_35, h⟩ | ⟨c_33_35, h⟩
      · refine r_sw (off := 1309) (pc' := 1342) (L' := [(0, .ref 0), (1, .ref 39), (2, .ref 143), (3, .int X3)]) hq (z_at.mk 163 rfl rfl) (z_off_v ((tx_iand hV_29 (rfl : (63 : Int32).toInt = 63)).trans c_33_35) rfl) rfl rfl rfl ?_
        refine r_p hq 1 (pc' := 1343) (L' := [(0, .ref 0), (1, .ref 39), (2, .ref 143), (3, .int X3)]) (st' := [.ref 39]) rfl ?_
        obtain ⟨o_1343, h_1343, h⟩ := Option.bind_eq_some_iff.mp h
        refine r_cvI (pc' := 1346) (L' := [(0, .ref 0), (1, .ref 39), (2, .ref 143), (3, .int X3)]) (Ps := []) (rest := []) hq (z_at.mk 3 rfl rfl) (Or.inl ⟨rfl, rfl⟩) rfl rfl (by decide) (by decide) rfl (Nat.not_lt.mpr (Nat.le_of_ble_eq_true rfl)) rfl rfl (z_cat_le 0 rfl (by decide)) (z_lgl_le 1 rfl (by decide)) (by decide) (H.tg rfl) (by omega) (g_c_image_ok H h_1343) rfl rfl ?_
        intro R_1343 m_1343 p_1343 e_1343 hR_1343 H_1343
        subst e_1343
        refine r_p hq 2 (pc' := 1348) (L' := [(0, .ref 0), (1, .ref 39), (2, .ref 143), (3, .int X3)]) (st' := [.ref 143]) rfl ?_
        obtain ⟨o_1348, h_1348, h⟩ := Option.bind_eq_some_iff.mp h
        refine r_cvI (pc' := 1351) (L' := [(0, .ref 0), (1, .ref 39), (2, .ref 143), (3, .int X3)]) (Ps := []) (rest := []) hq (z_at.mk 3 rfl rfl) (Or.inl ⟨rfl, rfl⟩) rfl rfl (by decide) (by decide) rfl (Nat.not_lt.mpr (Nat.le_of_ble_eq_true rfl)) rfl rfl (z_cat_le 0 rfl (by decide)) (z_lgl_le 1 rfl (by decide)) (by decide) (H_1343.tg rfl) (by omega) (g_m_image_ok H_1343 h_1348) rfl rfl ?_
        intro R_1348 m_1348 p_1348 e_1348 hR_1348 H_1348
        subst e_1348
        refine r_p hq 2 (pc' := 1368) (L' := [(0, .ref 0), (1, .ref 39), (2, .ref 143), (3, .int X3)]) (st' := []) rfl ?_
        exact g_jRangeAnswersLaw_law_L1368_ok hxl ih hx3 H_1348 h
      rcases z_ite h with ⟨c_33_36, h⟩ | ⟨c_33_36, h⟩
      · refine r_sw (off := 1322) (pc' := 1355) (L' := [(0, .ref 0), (1, .ref 39), (2, .ref 143), (3, .int X3)]) hq (z_at.mk 163 rfl rfl) (z_off_v ((tx_iand hV_29 (rfl : (63 : Int32).toInt = 63)).trans c_33_36) rfl) rfl rfl rfl ?_
        refine r_p hq 1 (pc' := 1356) (L' := [(0, .ref 0), (1, .ref 39), (2, .ref 143), (3, .int X3)]) (st' := [.ref 39]) rfl ?_
        obtain ⟨o_1356, h_1356, h⟩ := Option.bind_eq_some_iff.mp h
        refine r_cvI (pc' := 1359) (L' := [(0, .ref 0), (1, .ref 39), (2, .ref 143), (3, .int X3)]) (Ps := []) (rest := []) hq (z_at.mk 3 rfl rfl) (Or.inl ⟨rfl, rfl⟩) rfl rfl (by decide) (by decide) rfl (Nat.not_lt.mpr (Nat.le_of_ble_eq_true rfl)) rfl rfl (z_cat_le 0 rfl (by decide)) (z_lgl_le 1 rfl (by decide)) (by decide) (H.tg rfl) (by omega) (g_c_undo_ok H h_1356) rfl rfl ?_
        intro R_1356 m_1356 p_1356 e_1356 hR_1356 H_1356
        subst e_1356
        refine r_p hq 2 (pc' := 1361) (L' := [(0, .ref 0), (1, .ref 39), (2, .ref 143), (3, .int X3)]) (st' := [.ref 143]) rfl ?_
        obtain ⟨o_1361, h_1361, h⟩ := Option.bind_eq_some_iff.mp h
        refine r_cvI (pc' := 1364) (L' := [(0, .ref 0), (1, .ref 39), (2, .ref 143), (3, .int X3)]) (Ps := []) (rest := []) hq (z_at.mk 3 rfl rfl) (Or.inl ⟨rfl, rfl⟩) rfl rfl (by decide) (by decide) rfl (Nat.not_lt.mpr (Nat.le_of_ble_eq_true rfl)) rfl rfl (z_cat_le 0 rfl (by decide)) (z_lgl_le 1 rfl (by decide)) (by decide) (H_1356.tg rfl) (by omega) (g_m_undo_ok H_1356 h_1361) rfl rfl ?_
        intro R_1361 m_1361 p_1361 e_1361 hR_1361 H_1361
        subst e_1361
        refine r_p hq 2 (pc' := 1368) (L' := [(0, .ref 0), (1, .ref 39), (2, .ref 143), (3, .int X3)]) (st' := []) rfl ?_
        exact g_jRangeAnswersLaw_law_L1368_ok hxl ih hx3 H_1361 h
      have hx_33 := (tx_iand hV_29 (rfl : (63 : Int32).toInt = 63))
      rw [show (63 : Int32).toInt = 63 from rfl] at hx_33
      refine r_sw (off := 1335) (pc' := 1368) (L' := [(0, .ref 0), (1, .ref 39), (2, .ref 143), (3, .int X3)]) hq (z_at.mk 163 rfl rfl) (z_off_out (by omega)) rfl rfl rfl ?_
      exact g_jRangeAnswersLaw_law_L1368_ok hxl ih hx3 H h
