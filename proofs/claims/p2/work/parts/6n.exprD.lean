/-! E OF THE CLASS, read through -/
def btE (I : Nat → Bool) (v : Int) (T : Int → Bool) : Prop := ∀ q : Nat, q < 60 → I q = true → bq v q = T (q : Int)
def exPo (I : Nat → Bool) (σ : zS) (r : zEx) (v : Int) (s : zS) : Prop := frTa σ s ∧ match r with
  | .inl q => s 120 3 = q
  | .inr x => s 120 2 = x.2 ∧ s 120 3 = -1 ∧ btE I v x.1
def exOk (I : Nat → Bool) (ev : Int → Int → Int) (σ : zS) : Prop := CI σ ∧ ST σ 41 I ∧ ∀ q : Nat, q < 60 → I q = true → ∀ l : Int, 0 ≤ l → l ≤ 3 → cev σ l (q : Int) = ev l (q : Int)
theorem CI_Ta {σ s : zS} (H : CI σ) (e : frTa σ s) (h : 0 ≤ s 120 2 ∧ s 120 2 ≤ 160) : CI s := by
  refine ⟨fun a j => ?_, ?_⟩
  · by_cases c : a = 120 ∧ (j = 2 ∨ j = 3)
    · obtain ⟨rfl, rfl | rfl⟩ := c
      · intro lo hi k
        have k2 : rng 120 2 = some (0, 160) := rfl
        rw [k2] at k
        cases k
        exact h
      · intro lo hi k
        have k2 : rng 120 3 = none := rfl
        rw [k2] at k
        cases k
    · rw [e a j (by omega)]
      exact H.1 a j
  · unfold PG
    rw [e 129 1 (Or.inl (by decide)), e 129 3 (Or.inl (by decide)), e 169 0 (Or.inl (by decide))]
    exact H.2
theorem exOk.f {I : Nat → Bool} {ev : Int → Int → Int} {σ s : zS} (h : exOk I ev σ) (e : frTa σ s) (t : tpL s) : exOk I ev s := by
  refine ⟨CI_Ta h.1 e ⟨t.2.1.1, Int.le_trans t.2.1.2 t.1.2⟩, ST_E h.2.1 (fun a j k => e a j (Or.inl (by unfold stK at k; omega))), fun q hq hI l l0 l3 => ?_⟩
  rw [← h.2.2 q hq hI l l0 l3]
  unfold cev
  rw [e 44 _ (Or.inl (by decide)), e 42 _ (Or.inl (by decide)), e 43 _ (Or.inl (by decide))]
/-! behind a fault -/
theorem c_129 {rec : Nat → Int → zS → Option (Int × zS)} {v c l : Int} {σ : zS} : zP' (g_qu_single_L129 rec v c l σ) (fun _ s => s = σ) := by
  unfold g_qu_single_L129
  exact zP'.bind p_rows0 (fun a s p => zP'.ret p)
theorem c_tst0c {rec : Nat → Int → zS → Option (Int × zS)} {l c : Int} {σ : zS} (hs : σ 120 3 ≠ -1) : zP' ((g_ta_takes 45 σ).bind fun o_91 => (g_ta_number 9 0 999999999 o_91.2).bind fun o_105 => if o_91.1 = 0 then g_qu_single_L129 rec o_105.1 c l o_105.2 else g_qu_single_L129 rec (w32 (-o_105.1)) c l o_105.2) (fun _ s => s = σ) := by
  rw [p_takes0 hs (by decide)]
  rw [Option.bind_some]
  try dsimp +instances only
  refine zP'.bind (p_number0 hs (by decide)) (fun v s p => ?_)
  try dsimp +instances only
  rw [p]
  exact zP'.ite (fun _ => c_129) (fun _ => c_129)
theorem c_tst0b {rec : Nat → Int → zS → Option (Int × zS)} {l : Int} {σ : zS} (hs : σ 120 3 ≠ -1) : zP' ((g_ta_oneOf 7 σ).bind fun o_81 => (g_ta_takes 45 o_81.2).bind fun o_91 => (g_ta_number 9 0 999999999 o_91.2).bind fun o_105 => if o_91.1 = 0 then g_qu_single_L129 rec o_105.1 o_81.1 l o_105.2 else g_qu_single_L129 rec (w32 (-o_105.1)) o_81.1 l o_105.2) (fun _ s => s = σ) := by
  refine zP'.bind (c_oneOf0 swk7 (by decide) (by rw [idx7]; decide) hs) (fun v s p => ?_)
  try dsimp +instances only
  rw [p]
  exact c_tst0c hs
theorem c_tst0 {rec : Nat → Int → zS → Option (Int × zS)} {σ : zS} (hs : σ 120 3 ≠ -1) : zP' (g_qu_single_L65 rec σ) (fun _ s => s = σ) := by
  unfold g_qu_single_L65
  refine zP'.bind (c_oneOf0 swk6 (by decide) (by rw [idx6]; decide) hs) (fun v s p => ?_)
  try dsimp +instances only
  rw [p]
  exact c_tst0b hs
theorem c_eloop0 {rec : Nat → Int → zS → Option (Int × zS)} {d y i : Int} {σ : zS} (hs : σ 120 3 ≠ -1) : ∀ n, zP' (g_qu_either_L9 rec n d y i σ) (fun _ s => s = σ)
  | 0 => zP'.no
  | n + 1 => by
    unfold g_qu_either_L9
    refine zP'.ite (fun _ => zP'.ret rfl) (fun _ => ?_)
    rw [p_takes0 hs (by decide)]
    rw [Option.bind_some]
    try dsimp +instances only
    rw [if_pos rfl]
    exact zP'.ret rfl
theorem c_bloop0 {rec : Nat → Int → zS → Option (Int × zS)} {d y i : Int} {σ : zS} (hs : σ 120 3 ≠ -1) : ∀ n, zP' (g_qu_both_L9 rec n d y i σ) (fun _ s => s = σ)
  | 0 => zP'.no
  | n + 1 => by
    unfold g_qu_both_L9
    refine zP'.ite (fun _ => zP'.ret rfl) (fun _ => ?_)
    rw [p_takes0 hs (by decide)]
    rw [Option.bind_some]
    try dsimp +instances only
    rw [if_pos rfl]
    exact zP'.ret rfl
theorem c_ex0 {σ : zS} (hs : σ 120 3 ≠ -1) : ∀ (n : Nat), (∀ d, zP' (g_grp68 n 68 d σ) (fun _ s => s = σ)) ∧ (∀ d, zP' (g_grp68 n 69 d σ) (fun _ s => s = σ)) ∧ ∀ d, zP' (g_grp68 n 70 d σ) (fun _ s => s = σ)
  | 0 => ⟨fun _ => zP'.no, fun _ => zP'.no, fun _ => zP'.no⟩
  | n + 1 => by
    obtain ⟨i1, i2, i3⟩ := c_ex0 hs n
    rw [grp68_68, grp68_69, grp68_70]
    refine ⟨fun d => ?_, fun d => ?_, fun d => ?_⟩
    · unfold g_qu_either
      refine zP'.bind (i2 d) (fun v s p => ?_)
      try dsimp +instances only
      rw [p]
      exact c_eloop0 hs _
    · unfold g_qu_both
      refine zP'.bind (i3 d) (fun v s p => ?_)
      try dsimp +instances only
      rw [p]
      exact c_bloop0 hs _
    · have l29 : zP' (g_qu_single_L29 (g_grp68 n) d σ) (fun _ s => s = σ) := by
        unfold g_qu_single_L29
        refine zP'.ite (fun _ => c_tst0 hs) (fun _ => ?_)
        rw [p_takes0 hs (by decide)]
        rw [Option.bind_some]
        try dsimp +instances only
        rw [if_pos rfl]
        exact c_tst0 hs
      unfold g_qu_single
      refine zP'.ite (fun _ => l29) (fun _ => ?_)
      rw [p_takes0 hs (by decide)]
      rw [Option.bind_some]
      try dsimp +instances only
      rw [if_pos rfl]
      exact l29
/-! a test -/
theorem c_tst {rec : Nat → Int → zS → Option (Int × zS)} {I : Nat → Bool} {ev : Int → Int → Int} {σ : zS} (h : tpL σ) (hs : σ 120 3 = -1) (O : exOk I ev σ) : zP' (g_qu_single_L65 rec σ) (exPo I σ (exTst ev (tstP (cT σ) (σ 120 1) (σ 120 2)))) := by
  have h2 := h.2.1
  unfold g_qu_single_L65 tstP tstC
  refine zP'.bind (c_ltr h hs) (fun l s1 p1 => ?_)
  try dsimp +instances only
  have b1 := ltrR_bd (f := cT σ) h2.2
  cases e1 : ltrR (cT σ) (σ 120 1) (σ 120 2) with
  | inl q =>
    obtain ⟨f1, f3⟩ := p1.no e1
    rw [e1] at b1
    have b1 : σ 120 2 ≤ q ∧ q ≤ σ 120 1 := b1
    exact (c_tst0b (by rw [f3]; omega)).imp (fun v s k => by
      rw [k]
      exact ⟨f1, f3⟩)
  | inr x =>
    obtain ⟨f1, fv, fp, f3⟩ := p1.ok e1
    have k1 := ltrR_ok (v := x.1) (p' := x.2) e1
    have t1 : tpL s1 := h.mv f1 (by omega)
    have L1 : s1 120 1 = σ 120 1 := f1 120 1 (Or.inr (by decide))
    subst fv
    try dsimp only
    refine zP'.bind (c_cmp t1 f3) (fun c s2 p2 => ?_)
    try dsimp +instances only
    rw [cT_f f1, L1, fp] at p2
    have b2 := cmpR_bd (f := cT σ) (L := σ 120 1) (p := x.2) (by omega)
    cases e2 : cmpR (cT σ) (σ 120 1) x.2 with
    | inl q =>
      obtain ⟨g1, g3⟩ := p2.no e2
      rw [e2] at b2
      have b2 : x.2 ≤ q ∧ q ≤ σ 120 1 := b2
      exact (c_tst0c (by rw [g3]; omega)).imp (fun v s k => by
        rw [k]
        exact ⟨f1.trans g1, g3⟩)
    | inr y =>
      obtain ⟨g1, gv, gp, g3⟩ := p2.ok e2
      have k2 := cmpR_ok (v := y.1) (p' := y.2) e2
      have g12 := f1.trans g1
      have t2 : tpL s2 := h.mv g12 (by omega)
      have L2 : s2 120 1 = σ 120 1 := g12 120 1 (Or.inr (by decide))
      subst gv
      try dsimp only
      -- a sign ahead, if one likes
      have fin : ∀ (s3 : zS) (sg : Int), frTa σ s3 → tpL s3 → s3 120 3 = -1 → s3 120 2 = (if negB (cT σ) (σ 120 1) y.2 = true then y.2 + 1 else y.2) → (sg = 0 ↔ negB (cT σ) (σ 120 1) y.2 = false) → zP' ((g_ta_number 9 0 999999999 s3).bind fun o_105 => if sg = 0 then g_qu_single_L129 rec o_105.1 y.1 x.1 o_105.2 else g_qu_single_L129 rec (w32 (-o_105.1)) y.1 x.1 o_105.2) (exPo I σ (exTst ev (tstV x.1 y.1 (negB (cT σ) (σ 120 1) y.2) (tstN (cT σ) (σ 120 1) y.2)))) := fun s3 sg i1 t3 i3 ip is => by
        have N := c_num (w := 9) (lo := 0) (hi := 999999999) t3 i3 (by decide)
        have L3 : s3 120 1 = σ 120 1 := i1 120 1 (Or.inr (by decide))
        rw [cT_f i1, L3, ip] at N
        have N : zP' (g_ta_number 9 0 999999999 s3) (cPo s3 (tstN (cT σ) (σ 120 1) y.2)) := N
        refine zP'.bind N (fun v s4 p4 => ?_)
        try dsimp +instances only
        have b3 := tstN_bd (f := cT σ) (L := σ 120 1) (p := y.2) (by omega)
        cases e3 : tstN (cT σ) (σ 120 1) y.2 with
        | inl q =>
          obtain ⟨j1, j3⟩ := p4.no e3
          have r : ∀ w, zP' (g_qu_single_L129 rec w y.1 x.1 s4) (exPo I σ (.inl q)) := fun w => c_129.imp (fun v s k => by
            rw [k]
            exact ⟨i1.trans j1, j3⟩)
          exact zP'.ite (fun _ => r _) (fun _ => r _)
        | inr z =>
          obtain ⟨j1, jv, jp, j3⟩ := p4.ok e3
          rw [e3] at b3
          have b3 : y.2 ≤ z.2 ∧ z.2 ≤ σ 120 1 := b3
          have k3 : 0 ≤ z.1 ∧ z.1 ≤ 999999999 := by
            have k := numR_ok (v := z.1) (p' := z.2) (show numR 9 0 999999999 (cT σ) (σ 120 1) _ = _ from e3)
            exact ⟨k.1, k.2.1⟩
          subst jv
          have i14 := i1.trans j1
          have t4 : tpL s4 := h.mv i14 (by omega)
          have O4 := O.f i14 t4
          have r : ∀ w, w = (if negB (cT σ) (σ 120 1) y.2 = true then -z.1 else z.1) → zP' (g_qu_single_L129 rec w y.1 x.1 s4) (exPo I σ (.inr (fun r => cmpB y.1 (ev x.1 r) (if negB (cT σ) (σ 120 1) y.2 = true then -z.1 else z.1), z.2))) := fun w hw => by
            unfold g_qu_single_L129
            refine zP'.bind (p_rows (l := x.1) (c := y.1) (v := w) O4.1 O4.2.1 (by omega)) (fun v5 s5 p5 => zP'.ret ?_)
            obtain ⟨q1, q2⟩ := p5
            try dsimp only
            rw [q1]
            refine ⟨i14, jp, j3, fun q hq hI => ?_⟩
            rw [q2 q hq hI, O4.2.2 q hq hI x.1 (by omega) (by omega), hw]
          refine zP'.ite (fun c => ?_) (fun c => ?_)
          · have hn := is.mp c
            exact r _ (by rw [hn]; rfl)
          · have hn : negB (cT σ) (σ 120 1) y.2 = true := by
              cases hb : negB (cT σ) (σ 120 1) y.2 with
              | true => rfl
              | false => exact absurd (is.mpr hb) c
            exact r _ (by rw [hn, if_pos rfl, w32_id (x := -z.1) (by omega) (by omega)])
      rw [p_takes t2.i g3 (by decide)]
      rw [Option.bind_some]
      try dsimp +instances only
      have eH : tpH s2 = 45 ↔ negB (cT σ) (σ 120 1) y.2 = true := by
        rw [tpH_cT t2, cT_f g12, L2, gp]
        unfold negB
        rw [decide_eq_true_iff]
        by_cases c : y.2 < σ 120 1
        · rw [if_pos c]
          exact ⟨fun e => ⟨c, e⟩, fun e => e.2⟩
        · rw [if_neg c]
          exact ⟨fun e => by omega, fun e => absurd e.1 c⟩
      by_cases c45 : tpH s2 = 45
      · have hn := eH.mp c45
        rw [if_pos c45, if_pos c45]
        have hp := (negB_t hn).1
        have e2 : zu s2 120 2 (s2 120 2 + 1) 120 2 = y.2 + 1 := by rw [zu_e rfl, gp]
        refine fin _ 1 (g12.trans (frTa.u (Or.inl rfl))) (t2.mv (frTa.u (Or.inl rfl)) (by rw [e2, L2]; omega)) ((zu_i (by decide)).trans g3) (by rw [hn, if_pos rfl]; exact e2) ⟨fun e => absurd e (by decide), fun e => by rw [hn] at e; cases e⟩
      · have hn : negB (cT σ) (σ 120 1) y.2 = false := Bool.eq_false_iff.mpr (fun e => c45 (eH.mpr e))
        rw [if_neg c45, if_neg c45]
        exact fin s2 0 g12 t2 g3 (by rw [hn]; exact gp) ⟨fun _ => hn, fun _ => rfl⟩
/-! the whole of E -/
theorem c_seq {I : Nat → Bool} {σ : zS} {x : Option (Int × zS)} {g : Int × zS → Option (Int × zS)} {r : zEx} {k : Int → (Int → Bool) → zEx} (h : tpL σ) (hx : zP' x (exPo I σ r)) (b0 : ∀ q, r = .inl q → σ 120 2 ≤ q) (b1 : ∀ y, r = .inr y → σ 120 2 ≤ y.2 ∧ y.2 ≤ σ 120 1) (h0 : ∀ v s, s 120 3 ≠ -1 → zP' (g (v, s)) (fun _ t => t = s)) (hk : ∀ v s y, r = .inr y → frTa σ s → tpL s → s 120 3 = -1 → s 120 2 = y.2 → btE I v y.1 → zP' (g (v, s)) (exPo I s (k y.2 y.1))) : zP' (x.bind g) (exPo I σ (exSeq k r)) := by
  refine zP'.bind hx (fun v s p => ?_)
  obtain ⟨f, p⟩ := p
  cases e : r with
  | inl q =>
    rw [e] at p
    have p : s 120 3 = q := p
    have := b0 q e
    have h2 := h.2.1
    exact (h0 v s (by omega)).imp (fun v t kk => by
      rw [kk]
      exact ⟨f, p⟩)
  | inr y =>
    rw [e] at p
    obtain ⟨p1, p2, p3⟩ := p
    have b := b1 y e
    have h2 := h.2.1
    refine (hk v s y e f (h.mv f (by omega)) p2 p1 p3).imp (fun v t kk => ?_)
    obtain ⟨f2, kk⟩ := kk
    exact ⟨f.trans f2, kk⟩
def c_all (I : Nat → Bool) (ev : Int → Int → Int) (m : Nat) : Prop :=
  (∀ (n : Nat) (d : Int) (T : Int → Bool) (σ : zS), tpL σ → σ 120 3 = -1 → exOk I ev σ → 0 ≤ d → d ≤ 4 → 4 * (σ 120 1 - σ 120 2) + 3 ≤ (m : Int) → zP' (g_grp68 n 68 d σ) (exPo I σ (eP ev (cT σ) (σ 120 1) m 0 d (σ 120 2) T))) ∧
  (∀ (n : Nat) (d : Int) (T : Int → Bool) (σ : zS), tpL σ → σ 120 3 = -1 → exOk I ev σ → 0 ≤ d → d ≤ 4 → 4 * (σ 120 1 - σ 120 2) + 2 ≤ (m : Int) → zP' (g_grp68 n 69 d σ) (exPo I σ (eP ev (cT σ) (σ 120 1) m 1 d (σ 120 2) T))) ∧
  (∀ (n : Nat) (d : Int) (T : Int → Bool) (σ : zS), tpL σ → σ 120 3 = -1 → exOk I ev σ → 0 ≤ d → d ≤ 4 → 4 * (σ 120 1 - σ 120 2) + 1 ≤ (m : Int) → zP' (g_grp68 n 70 d σ) (exPo I σ (eP ev (cT σ) (σ 120 1) m 2 d (σ 120 2) T))) ∧
  (∀ (n w : Nat) (d y i : Int) (T : Int → Bool) (σ : zS), tpL σ → σ 120 3 = -1 → exOk I ev σ → 0 ≤ d → d ≤ 4 → 0 ≤ i → i ≤ σ 120 2 → btE I y T → 4 * (σ 120 1 - σ 120 2) + 1 ≤ (m : Int) → zP' (g_qu_either_L9 (g_grp68 n) w d y i σ) (exPo I σ (eP ev (cT σ) (σ 120 1) m 3 d (σ 120 2) T))) ∧
  (∀ (n w : Nat) (d y i : Int) (T : Int → Bool) (σ : zS), tpL σ → σ 120 3 = -1 → exOk I ev σ → 0 ≤ d → d ≤ 4 → 0 ≤ i → i ≤ σ 120 2 → btE I y T → 4 * (σ 120 1 - σ 120 2) + 1 ≤ (m : Int) → zP' (g_qu_both_L9 (g_grp68 n) w d y i σ) (exPo I σ (eP ev (cT σ) (σ 120 1) m 4 d (σ 120 2) T)))
theorem tpH_is {σ : zS} (h : tpL σ) {x : Int} (hx : 1 ≤ x) : tpH σ = x ↔ σ 120 2 < σ 120 1 ∧ cT σ (σ 120 2) = x := by
  rw [tpH_cT h]
  by_cases c : σ 120 2 < σ 120 1
  · rw [if_pos c]
    exact ⟨fun e => ⟨c, e⟩, fun e => e.2⟩
  · rw [if_neg c]
    exact ⟨fun e => by omega, fun e => absurd e.1 c⟩
theorem tk_st {σ : zS} (h : tpL σ) (hs : σ 120 3 = -1) (hp : σ 120 2 < σ 120 1) : frTa σ (zu σ 120 2 (σ 120 2 + 1)) ∧ tpL (zu σ 120 2 (σ 120 2 + 1)) ∧ zu σ 120 2 (σ 120 2 + 1) 120 3 = -1 ∧ zu σ 120 2 (σ 120 2 + 1) 120 2 = σ 120 2 + 1 ∧ cT (zu σ 120 2 (σ 120 2 + 1)) = cT σ ∧ zu σ 120 2 (σ 120 2 + 1) 120 1 = σ 120 1 := by
  have f : frTa σ (zu σ 120 2 (σ 120 2 + 1)) := frTa.u (Or.inl rfl)
  have e2 : zu σ 120 2 (σ 120 2 + 1) 120 2 = σ 120 2 + 1 := zu_e rfl
  have h2 := h.2.1
  exact ⟨f, h.mv f (by rw [e2]; omega), (zu_i (by decide)).trans hs, e2, cT_f f, f 120 1 (Or.inr (by decide))⟩
theorem exPo.tr {I : Nat → Bool} {σ s : zS} {r : zEx} {v : Int} {t : zS} (f : frTa σ s) (h : exPo I s r v t) : exPo I σ r v t := by
  obtain ⟨h1, h2⟩ := h
  exact ⟨f.trans h1, h2⟩
theorem c_expr {I : Nat → Bool} {ev : Int → Int → Int} : ∀ m : Nat, c_all I ev m
  | 0 => ⟨fun n d T σ h hs _ _ _ hm => by have := h.2.1; omega, fun n d T σ h hs _ _ _ hm => by have := h.2.1; omega, fun n d T σ h hs _ _ _ hm => by have := h.2.1; omega, fun n w d y i T σ h hs _ _ _ _ _ _ hm => by have := h.2.1; omega, fun n w d y i T σ h hs _ _ _ _ _ _ hm => by have := h.2.1; omega⟩
  | m + 1 => by
    obtain ⟨A0, A1, A2, A3, A4⟩ := c_expr (I := I) (ev := ev) m
    have bd : ∀ (k : Nat) (d p : Int) (T : Int → Bool) (f : Int → Int) (L : Int), k ≤ 4 → p ≤ L → (∀ q, eP ev f L m k d p T = .inl q → p ≤ q) ∧ ∀ x, eP ev f L m k d p T = .inr x → p ≤ x.2 ∧ x.2 ≤ L := fun k d p T f L hk h => by
      obtain ⟨b1, b2⟩ := eP_bd (ev := ev) (f := f) m k d p T hk h
      exact ⟨fun q e => (b1 q e).1, fun x e => ⟨(b2 x e).1, (b2 x e).2.1⟩⟩
    have st : ∀ (k : Nat) (d p : Int) (T : Int → Bool) (f : Int → Int) (L : Int), k ≤ 2 → p ≤ L → ∀ x, eP ev f L m k d p T = .inr x → p < x.2 := fun k d p T f L hk h x e => ((eP_bd (ev := ev) (f := f) m k d p T (by omega) h).2 x e).2.2 (by omega) (by omega)
    refine ⟨fun n d T σ h hs O d0 d4 hm => ?_, fun n d T σ h hs O d0 d4 hm => ?_, fun n d T σ h hs O d0 d4 hm => ?_, fun n w d y i T σ h hs O d0 d4 i0 i1 hy hm => ?_, fun n w d y i T σ h hs O d0 d4 i0 i1 hy hm => ?_⟩
    · cases n with
      | zero => exact zP'.no
      | succ n =>
        have h2 := h.2.1
        rw [grp68_68, eP_0]
        unfold g_qu_either
        obtain ⟨c1, c2⟩ := bd 1 d (σ 120 2) T (cT σ) (σ 120 1) (by decide) h2.2
        refine c_seq h (A1 n d T σ h hs O d0 d4 (by omega)) c1 c2 (fun v s k => c_eloop0 k _) (fun v s y e f t k2 kp hy => ?_)
        have hl := st 1 d _ T _ _ (by decide) h2.2 y e
        have L1 : s 120 1 = σ 120 1 := f 120 1 (Or.inr (by decide))
        have R := A3 n zK d v 0 y.1 s t k2 (O.f f t) d0 d4 (by omega) (by omega) hy (by rw [L1, kp]; omega)
        rw [cT_f f, L1, kp] at R
        exact R
    · cases n with
      | zero => exact zP'.no
      | succ n =>
        have h2 := h.2.1
        rw [grp68_69, eP_1]
        unfold g_qu_both
        obtain ⟨c1, c2⟩ := bd 2 d (σ 120 2) T (cT σ) (σ 120 1) (by decide) h2.2
        refine c_seq h (A2 n d T σ h hs O d0 d4 (by omega)) c1 c2 (fun v s k => c_bloop0 k _) (fun v s y e f t k2 kp hy => ?_)
        have hl := st 2 d _ T _ _ (by decide) h2.2 y e
        have L1 : s 120 1 = σ 120 1 := f 120 1 (Or.inr (by decide))
        have R := A4 n zK d v 0 y.1 s t k2 (O.f f t) d0 d4 (by omega) (by omega) hy (by rw [L1, kp]; omega)
        rw [cT_f f, L1, kp] at R
        exact R
    · cases n with
      | zero => exact zP'.no
      | succ n =>
        have h2 := h.2.1
        rw [grp68_70, eP_2]
        have l65 : zP' (g_qu_single_L65 (g_grp68 n) σ) (exPo I σ (exTst ev (tstP (cT σ) (σ 120 1) (σ 120 2)))) := c_tst h hs O
        unfold g_qu_single
        refine zP'.ite (fun c => ?_) (fun c => ?_)
        · rw [if_neg (by omega), if_neg (by omega)]
          unfold g_qu_single_L29
          rw [if_pos c]
          exact l65
        · rw [p_takes h.i hs (by decide)]
          rw [Option.bind_some]
          try dsimp +instances only
          by_cases c33 : tpH σ = 33
          · have k := (tpH_is h (by decide)).mp c33
            rw [if_pos c33, if_pos c33, if_neg (by decide), if_pos ⟨by omega, k⟩, w32_id (x := d + 1) (by omega) (by omega)]
            obtain ⟨f, t, s3, s2, sT, sL⟩ := tk_st h hs k.1
            have R := A2 n (d + 1) T _ t s3 (O.f f t) (by omega) (by omega) (by rw [sL, s2]; omega)
            rw [sT, sL, s2] at R
            refine zP'.bind R (fun v s p => zP'.ret ?_)
            obtain ⟨p1, p2⟩ := p
            try dsimp only
            cases e : eP ev (cT σ) (σ 120 1) m 2 (d + 1) (σ 120 2 + 1) T with
            | inl q =>
              rw [e] at p2
              exact ⟨f.trans p1, p2⟩
            | inr x =>
              rw [e] at p2
              obtain ⟨n1, n2, n3⟩ := p2
              refine ⟨f.trans p1, n1, n2, fun q hq hI => ?_⟩
              rw [bq_not _ (by omega), n3 q hq hI]
          · have nk : ¬ (d < 4 ∧ σ 120 2 < σ 120 1 ∧ cT σ (σ 120 2) = 33) := fun e => c33 ((tpH_is h (by decide)).mpr e.2)
            rw [if_neg c33, if_neg c33, if_pos rfl, if_neg nk]
            unfold g_qu_single_L29
            rw [if_neg c, p_takes h.i hs (by decide)]
            rw [Option.bind_some]
            try dsimp +instances only
            by_cases c40 : tpH σ = 40
            · have k := (tpH_is h (by decide)).mp c40
              rw [if_pos c40, if_pos c40, if_neg (by decide), if_pos ⟨by omega, k⟩, w32_id (x := d + 1) (by omega) (by omega)]
              obtain ⟨f, t, s3, s2, sT, sL⟩ := tk_st h hs k.1
              have R := A0 n (d + 1) T _ t s3 (O.f f t) (by omega) (by omega) (by rw [sL, s2]; omega)
              rw [sT, sL, s2] at R
              obtain ⟨c1, c2⟩ := bd 0 (d + 1) (σ 120 2 + 1) T (cT σ) (σ 120 1) (by decide) (by omega)
              refine zP'.bind R (fun v s p => ?_)
              obtain ⟨p1, p2⟩ := p
              try dsimp +instances only
              cases e : eP ev (cT σ) (σ 120 1) m 0 (d + 1) (σ 120 2 + 1) T with
              | inl q =>
                rw [e] at p2
                have p2 : s 120 3 = q := p2
                have := c1 q e
                rw [p_wants0 (by omega) (by decide)]
                rw [Option.bind_some]
                exact zP'.ret ⟨f.trans p1, p2⟩
              | inr x =>
                rw [e] at p2
                obtain ⟨n1, n2, n3⟩ := p2
                have b := c2 x e
                have fs := f.trans p1
                have ts : tpL s := h.mv fs (by omega)
                have L1 : s 120 1 = σ 120 1 := fs 120 1 (Or.inr (by decide))
                have W := c_sgn' (x := 41) ts n2 (by decide)
                rw [cT_f fs, L1, n1] at W
                refine zP'.bind W (fun u s4 p4 => zP'.ret ?_)
                unfold exPar
                try dsimp only
                cases e4 : sgnR 41 (cT σ) (σ 120 1) x.2 with
                | inl q =>
                  obtain ⟨g1, g3⟩ := p4.no e4
                  exact ⟨fs.trans g1, g3⟩
                | inr z =>
                  obtain ⟨g1, -, gp, g3⟩ := p4.ok e4
                  exact ⟨fs.trans g1, gp, g3, n3⟩
            · have nk2 : ¬ (d < 4 ∧ σ 120 2 < σ 120 1 ∧ cT σ (σ 120 2) = 40) := fun e => c40 ((tpH_is h (by decide)).mpr e.2)
              rw [if_neg c40, if_neg c40, if_pos rfl, if_neg nk2]
              exact l65
    · cases w with
      | zero => exact zP'.no
      | succ w =>
        have h1 := h.1
        have h2 := h.2.1
        rw [eP_3]
        unfold g_qu_either_L9
        refine zP'.ite (fun c => ?_) (fun c => ?_)
        · rw [if_neg (fun e => by omega)]
          exact zP'.ret ⟨frTa.refl σ, rfl, hs, hy⟩
        · rw [p_takes h.i hs (by decide)]
          rw [Option.bind_some]
          try dsimp +instances only
          by_cases c124 : tpH σ = 124
          · have k := (tpH_is h (by decide)).mp c124
            rw [if_pos c124, if_pos c124, if_neg (by decide), if_pos k]
            obtain ⟨f, t, s3, s2, sT, sL⟩ := tk_st h hs k.1
            have R := A1 n d T _ t s3 (O.f f t) d0 d4 (by rw [sL, s2]; omega)
            rw [sT, sL, s2] at R
            obtain ⟨c1, c2⟩ := bd 1 d (σ 120 2 + 1) T (cT σ) (σ 120 1) (by decide) (by omega)
            refine (c_seq t R (fun q e => by rw [s2]; exact c1 q e) (fun y e => by rw [s2, sL]; exact c2 y e) (fun v s kk => c_eloop0 kk _) (fun v s x e g tg k2 kp hx => ?_)).imp (fun v s p => p.tr f)
            have fg := f.trans g
            have L1 : s 120 1 = σ 120 1 := fg 120 1 (Or.inr (by decide))
            have b := c2 x e
            have R2 := A3 n w d (lOr y v) (i + 1) (fun r => T r || x.1 r) s tg k2 (O.f fg tg) d0 d4 (by omega) (by omega) (fun q hq hI => by rw [bq_or, hy q hq hI, hx q hq hI]) (by rw [L1, kp]; omega)
            rw [cT_f fg, L1, kp] at R2
            try dsimp +instances only
            rw [w32_id (x := i + 1) (by omega) (by omega)]
            exact R2
          · have nk : ¬ (σ 120 2 < σ 120 1 ∧ cT σ (σ 120 2) = 124) := fun e => c124 ((tpH_is h (by decide)).mpr e)
            rw [if_neg c124, if_neg c124, if_pos rfl, if_neg nk]
            exact zP'.ret ⟨frTa.refl σ, rfl, hs, hy⟩
    · cases w with
      | zero => exact zP'.no
      | succ w =>
        have h1 := h.1
        have h2 := h.2.1
        rw [eP_4]
        unfold g_qu_both_L9
        refine zP'.ite (fun c => ?_) (fun c => ?_)
        · rw [if_neg (fun e => by omega)]
          exact zP'.ret ⟨frTa.refl σ, rfl, hs, hy⟩
        · rw [p_takes h.i hs (by decide)]
          rw [Option.bind_some]
          try dsimp +instances only
          by_cases c38 : tpH σ = 38
          · have k := (tpH_is h (by decide)).mp c38
            rw [if_pos c38, if_pos c38, if_neg (by decide), if_pos k]
            obtain ⟨f, t, s3, s2, sT, sL⟩ := tk_st h hs k.1
            have R := A2 n d T _ t s3 (O.f f t) d0 d4 (by rw [sL, s2]; omega)
            rw [sT, sL, s2] at R
            obtain ⟨c1, c2⟩ := bd 2 d (σ 120 2 + 1) T (cT σ) (σ 120 1) (by decide) (by omega)
            refine (c_seq t R (fun q e => by rw [s2]; exact c1 q e) (fun y e => by rw [s2, sL]; exact c2 y e) (fun v s kk => c_bloop0 kk _) (fun v s x e g tg k2 kp hx => ?_)).imp (fun v s p => p.tr f)
            have fg := f.trans g
            have L1 : s 120 1 = σ 120 1 := fg 120 1 (Or.inr (by decide))
            have b := c2 x e
            have R2 := A4 n w d (lAnd y v) (i + 1) (fun r => T r && x.1 r) s tg k2 (O.f fg tg) d0 d4 (by omega) (by omega) (fun q hq hI => by rw [bq_and, hy q hq hI, hx q hq hI]) (by rw [L1, kp]; omega)
            rw [cT_f fg, L1, kp] at R2
            try dsimp +instances only
            rw [w32_id (x := i + 1) (by omega) (by omega)]
            exact R2
          · have nk : ¬ (σ 120 2 < σ 120 1 ∧ cT σ (σ 120 2) = 38) := fun e => c38 ((tpH_is h (by decide)).mpr e)
            rw [if_neg c38, if_neg c38, if_pos rfl, if_neg nk]
            exact zP'.ret ⟨frTa.refl σ, rfl, hs, hy⟩
