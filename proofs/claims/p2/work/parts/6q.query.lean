/-! A QUERY AS A TEXT, told once for both sides -/
def rngR2 (a : Int) : zRd → Sum Int ((Int × Int) × Int)
  | .inl q => .inl q
  | .inr y => .inr ((a, y.1), y.2)
def rngR1 (f : Int → Int) (L : Int) : zRd → Sum Int ((Int × Int) × Int)
  | .inl q => .inl q
  | .inr x => if x.2 < L ∧ f x.2 = 45 then rngR2 x.1 (numR 2 x.1 31 f L (x.2 + 1)) else .inr ((x.1, x.1), x.2)
def rngR (f : Int → Int) (L p : Int) : Sum Int ((Int × Int) × Int) := if p < L ∧ f p = 42 then .inr ((0, 31), p + 1) else rngR1 f L (numR 2 0 31 f L p)
def gBd (p L : Int) : Sum Int ((Int × Int) × Int) → Prop
  | .inl q => p ≤ q ∧ q ≤ L
  | .inr x => p < x.2 ∧ x.2 ≤ L ∧ 0 ≤ x.1.1 ∧ x.1.1 ≤ x.1.2 ∧ x.1.2 ≤ 31
theorem rngR_bd {f : Int → Int} {L p : Int} (h : p ≤ L) : gBd p L (rngR f L p) := by
  unfold rngR
  by_cases c : p < L ∧ f p = 42
  · rw [if_pos c]
    exact ⟨by show p < p + 1; omega, by show p + 1 ≤ L; omega, by show (0 : Int) ≤ 0; omega, by show (0 : Int) ≤ 31; omega, by show (31 : Int) ≤ 31; omega⟩
  · rw [if_neg c]
    have b := numR_bd (w := 2) (lo := 0) (hi := 31) (f := f) h
    cases e : numR 2 0 31 f L p with
    | inl q =>
      rw [e] at b
      exact b
    | inr x =>
      rw [e] at b
      have b : p ≤ x.2 ∧ x.2 ≤ L := b
      have k := numR_ok (v := x.1) (p' := x.2) e
      unfold rngR1
      try dsimp only
      by_cases c2 : x.2 < L ∧ f x.2 = 45
      · rw [if_pos c2]
        have b2 := numR_bd (w := 2) (lo := x.1) (hi := 31) (f := f) (L := L) (p := x.2 + 1) (by omega)
        cases e2 : numR 2 x.1 31 f L (x.2 + 1) with
        | inl q =>
          rw [e2] at b2
          have b2 : x.2 + 1 ≤ q ∧ q ≤ L := b2
          exact ⟨by omega, b2.2⟩
        | inr y =>
          rw [e2] at b2
          have b2 : x.2 + 1 ≤ y.2 ∧ y.2 ≤ L := b2
          have k2 := numR_ok (v := y.1) (p' := y.2) e2
          exact ⟨by show p < y.2; omega, b2.2, k.1, k2.1, k2.2.1⟩
      · rw [if_neg c2]
        exact ⟨k.2.2, b.2, k.1, Int.le_refl _, k.2.1⟩
/-- the measure, the box, where E begins (-1: there is none), for which rows it holds -/
abbrev zQy : Type := Int × Bx × Int × (Int → Bool)
abbrev zQr : Type := Sum Int (zQy × Int)
def qryE (m : Int) (B : Bx) (e : Int) : zEx → zQr
  | .inl q => .inl q
  | .inr x => .inr ((m, B, e, x.1), x.2)
def qryS (ev : Int → Int → Int) (f : Int → Int) (L : Int) (m : Int) (B : Bx) : zRd → zQr
  | .inl q => .inl q
  | .inr x => qryE m B x.2 (eP ev f L 700 0 0 x.2 (fun _ => true))
def qryI (ev : Int → Int → Int) (f : Int → Int) (L : Int) (m : Int) (B : Bx) : zRd → zQr
  | .inl q => .inl q
  | .inr x => qryS ev f L m B (sgnR 32 f L x.2)
def qryF (ev : Int → Int → Int) (f : Int → Int) (L : Int) (m : Int) (B : Bx) (p : Int) : zQr := if p < L ∧ f p = 32 then qryI ev f L m B (wrdR 5 2 f L (p + 1)) else .inr ((m, B, -1, fun _ => true), p)
def qryY (ev : Int → Int → Int) (f : Int → Int) (L : Int) (m : Int) (a : Int × Int) : Sum Int ((Int × Int) × Int) → zQr
  | .inl q => .inl q
  | .inr y => qryF ev f L m (a.1, a.2, y.1.1, y.1.2) y.2
def qryB (ev : Int → Int → Int) (f : Int → Int) (L : Int) (m : Int) (a : Int × Int) : zRd → zQr
  | .inl q => .inl q
  | .inr x => qryY ev f L m a (rngR f L x.2)
def qryX (ev : Int → Int → Int) (f : Int → Int) (L : Int) (m : Int) : Sum Int ((Int × Int) × Int) → zQr
  | .inl q => .inl q
  | .inr x => qryB ev f L m x.1 (sgnR 32 f L x.2)
def qryA (ev : Int → Int → Int) (f : Int → Int) (L : Int) (m : Int) : zRd → zQr
  | .inl q => .inl q
  | .inr x => qryX ev f L m (rngR f L x.2)
def qryV (ev : Int → Int → Int) (f : Int → Int) (L : Int) : zRd → zQr
  | .inl q => .inl q
  | .inr x => qryA ev f L x.1 (sgnR 32 f L x.2)
def qryR (ev : Int → Int → Int) (f : Int → Int) (L p : Int) : zQr := qryV ev f L (wrdR 4 36 f L p)
theorem wordV4_le {f : Int → Int} {L p : Int} : wordV 4 36 f L p ≤ 6 := by
  have h := wordG_le (c := charC 4) (f := f) (b := p) (e := wend f L 160 p) 36 0 0 0 (Int.le_refl 0)
  have e : bkC (charC 4) 36 0 = 6 := by decide +kernel
  rw [e] at h
  exact h
theorem wrdR_v {a Ln : Nat} {f : Int → Int} {L p v p' : Int} (h : wrdR a Ln f L p = .inr (v, p')) : v = wordV a Ln f L p := by
  unfold wrdR at h
  split at h
  · cases h
  · exact (congrArg (·.1) (Sum.inr.inj h)).symm
/-- a query read: its bounds; where it has an E, that E is read there -/
def qOkP (ev : Int → Int → Int) (f : Int → Int) (L : Int) (Q : zQy) : Prop := (0 ≤ Q.1 ∧ Q.1 ≤ 6) ∧ bOk Q.2.1 ∧ ((Q.2.2.1 < 0 ∧ ∀ r, Q.2.2.2 r = true) ∨ (0 ≤ Q.2.2.1 ∧ Q.2.2.1 ≤ L ∧ ∃ p', eP ev f L 700 0 0 Q.2.2.1 (fun _ => true) = .inr (Q.2.2.2, p')))
theorem qryR_ok {ev : Int → Int → Int} {f : Int → Int} {L p : Int} (h0 : 0 ≤ p) (h : p ≤ L) : (∀ q, qryR ev f L p = .inl q → p ≤ q ∧ q ≤ L) ∧ ∀ x, qryR ev f L p = .inr x → p < x.2 ∧ x.2 ≤ L ∧ qOkP ev f L x.1 := by
  unfold qryR
  have b1 := wrdR_bd (a := 4) (Ln := 36) (f := f) h
  cases e1 : wrdR 4 36 f L p with
  | inl q =>
    rw [e1] at b1
    exact ⟨fun q' e => (by cases e; exact b1), fun x e => (by cases e)⟩
  | inr v =>
    rw [e1] at b1
    have b1 : p ≤ v.2 ∧ v.2 ≤ L := b1
    have k1 := wrdR_ok (v := v.1) (p' := v.2) e1
    have k1b : v.1 ≤ 6 := by
      rw [wrdR_v (v := v.1) (p' := v.2) e1]
      exact wordV4_le
    have b2 := sgnR_bd (x := 32) (f := f) b1.2
    dsimp only [qryV]
    cases e2 : sgnR 32 f L v.2 with
    | inl q =>
      rw [e2] at b2
      have b2 : v.2 ≤ q ∧ q ≤ L := b2
      exact ⟨fun q' e => (by cases e; omega), fun x e => (by cases e)⟩
    | inr s =>
      rw [e2] at b2
      have b2 : v.2 ≤ s.2 ∧ s.2 ≤ L := b2
      have b3 := rngR_bd (f := f) b2.2
      dsimp only [qryA]
      cases e3 : rngR f L s.2 with
      | inl q =>
        rw [e3] at b3
        have b3 : s.2 ≤ q ∧ q ≤ L := b3
        exact ⟨fun q' e => (by cases e; omega), fun x e => (by cases e)⟩
      | inr a =>
        rw [e3] at b3
        obtain ⟨b3, b3', c1, c2, c3⟩ := b3
        have b4 := sgnR_bd (x := 32) (f := f) b3'
        dsimp only [qryX]
        cases e4 : sgnR 32 f L a.2 with
        | inl q =>
          rw [e4] at b4
          have b4 : a.2 ≤ q ∧ q ≤ L := b4
          exact ⟨fun q' e => (by cases e; omega), fun x e => (by cases e)⟩
        | inr t =>
          rw [e4] at b4
          have b4 : a.2 ≤ t.2 ∧ t.2 ≤ L := b4
          have b5 := rngR_bd (f := f) b4.2
          dsimp only [qryB]
          cases e5 : rngR f L t.2 with
          | inl q =>
            rw [e5] at b5
            have b5 : t.2 ≤ q ∧ q ≤ L := b5
            exact ⟨fun q' e => (by cases e; omega), fun x e => (by cases e)⟩
          | inr y =>
            rw [e5] at b5
            obtain ⟨b5, b5', d1, d2, d3⟩ := b5
            dsimp only [qryY]
            unfold qryF
            have hB : bOk (a.1.1, a.1.2, y.1.1, y.1.2) := ⟨c1, c2, c3, d1, d2, d3⟩
            by_cases c : y.2 < L ∧ f y.2 = 32
            · rw [if_pos c]
              have b6 := wrdR_bd (a := 5) (Ln := 2) (f := f) (L := L) (p := y.2 + 1) (by omega)
              cases e6 : wrdR 5 2 f L (y.2 + 1) with
              | inl q =>
                rw [e6] at b6
                have b6 : y.2 + 1 ≤ q ∧ q ≤ L := b6
                exact ⟨fun q' e => (by cases e; omega), fun x e => (by cases e)⟩
              | inr w =>
                rw [e6] at b6
                have b6 : y.2 + 1 ≤ w.2 ∧ w.2 ≤ L := b6
                have b7 := sgnR_bd (x := 32) (f := f) b6.2
                dsimp only [qryI]
                cases e7 : sgnR 32 f L w.2 with
                | inl q =>
                  rw [e7] at b7
                  have b7 : w.2 ≤ q ∧ q ≤ L := b7
                  exact ⟨fun q' e => (by cases e; omega), fun x e => (by cases e)⟩
                | inr u =>
                  rw [e7] at b7
                  have b7 : w.2 ≤ u.2 ∧ u.2 ≤ L := b7
                  obtain ⟨b8, b9⟩ := eP_bd (ev := ev) (f := f) 700 0 0 u.2 (fun _ => true) (by decide) b7.2
                  dsimp only [qryS]
                  cases e8 : eP ev f L 700 0 0 u.2 (fun _ => true) with
                  | inl q =>
                    have b8 := b8 q e8
                    exact ⟨fun q' e => (by cases e; omega), fun x e => (by cases e)⟩
                  | inr z =>
                    have b9 := b9 z e8
                    exact ⟨fun q' e => (by cases e), fun x e => (by cases e; exact ⟨by (try dsimp only); omega, b9.2.1, ⟨k1.1, k1b⟩, hB, Or.inr ⟨by (try dsimp only); omega, b7.2, z.2, e8⟩⟩)⟩
            · rw [if_neg c]
              exact ⟨fun q' e => (by cases e), fun x e => (by cases e; exact ⟨by (try dsimp only); omega, b5', ⟨k1.1, k1b⟩, hB, Or.inl ⟨by show (-1 : Int) < 0; omega, fun _ => rfl⟩⟩)⟩
def runP (ev : Int → Int → Int) (f : Int → Int) (L : Int) : Nat → Int → List zQy → Sum Int (List zQy)
  | 0, p, _ => .inl p
  | m + 1, p, l => match qryR ev f L p with
    | .inl q => .inl q
    | .inr x => if x.2 < L then (if l.length + 1 < 8 ∧ f x.2 = 59 then runP ev f L m (x.2 + 1) (l ++ [x.1]) else .inl x.2) else .inr (l ++ [x.1])
theorem runP_1 {ev : Int → Int → Int} {f : Int → Int} {L : Int} {m : Nat} {p : Int} {l : List zQy} : runP ev f L (m + 1) p l = match qryR ev f L p with
    | .inl q => .inl q
    | .inr x => if x.2 < L then (if l.length + 1 < 8 ∧ f x.2 = 59 then runP ev f L m (x.2 + 1) (l ++ [x.1]) else .inl x.2) else .inr (l ++ [x.1]) := rfl
theorem runP_ok {ev : Int → Int → Int} {f : Int → Int} {L : Int} : ∀ (m : Nat) (p : Int) (l : List zQy), 0 ≤ p → p ≤ L → l.length + m = 8 → (∀ Q ∈ l, qOkP ev f L Q) → (∀ q, runP ev f L m p l = .inl q → p ≤ q ∧ q ≤ L) ∧ ∀ r, runP ev f L m p l = .inr r → r.length ≤ 8 ∧ 0 < r.length ∧ ∀ Q ∈ r, qOkP ev f L Q
  | 0, p, l, h0, h, hl, hq => ⟨fun q e => (by cases e; exact ⟨Int.le_refl p, h⟩), fun r e => (by cases e)⟩
  | m + 1, p, l, h0, h, hl, hq => by
    rw [runP_1]
    obtain ⟨b1, b2⟩ := qryR_ok (ev := ev) (f := f) h0 h
    cases e1 : qryR ev f L p with
    | inl q => exact ⟨fun q' e => (by cases e; exact b1 q e1), fun x e => (by cases e)⟩
    | inr x =>
      have b := b2 x e1
      have hq' : ∀ Q ∈ l ++ [x.1], qOkP ev f L Q := fun Q hQ => by
        rcases List.mem_append.mp hQ with k | k
        · exact hq Q k
        · rw [List.mem_singleton.mp k]
          exact b.2.2
      try dsimp only
      by_cases c : x.2 < L
      · rw [if_pos c]
        by_cases c2 : l.length + 1 < 8 ∧ f x.2 = 59
        · rw [if_pos c2]
          obtain ⟨k1, k2⟩ := runP_ok (ev := ev) (f := f) (L := L) m (x.2 + 1) (l ++ [x.1]) (by omega) (by omega) (by rw [List.length_append]; show l.length + 1 + m = 8; omega) hq'
          exact ⟨fun q e => (by have := k1 q e; omega), k2⟩
        · rw [if_neg c2]
          exact ⟨fun q e => (by cases e; omega), fun r e => (by cases e)⟩
      · rw [if_neg c]
        exact ⟨fun q e => (by cases e), fun r e => (by cases e; rw [List.length_append]; exact ⟨by show l.length + 1 ≤ 8; omega, by show 0 < l.length + 1; omega, hq'⟩)⟩
/-! the class -/
theorem takes_is {σ : zS} (h : tpL σ) (hs : σ 120 3 = -1) {x : Int} (hx : 1 ≤ x) : (σ 120 2 < σ 120 1 ∧ cT σ (σ 120 2) = x → g_ta_takes x σ = some (1, zu σ 120 2 (σ 120 2 + 1))) ∧ (¬ (σ 120 2 < σ 120 1 ∧ cT σ (σ 120 2) = x) → g_ta_takes x σ = some (0, σ)) := by
  rw [p_takes h.i hs hx]
  refine ⟨fun k => ?_, fun k => ?_⟩
  · have e := (tpH_is h hx).mpr k
    rw [if_pos e, if_pos e]
  · have e : ¬ tpH σ = x := fun e => k ((tpH_is h hx).mp e)
    rw [if_neg e, if_neg e]
def rgPo (σ : zS) (r : Sum Int ((Int × Int) × Int)) (v : Int) (s : zS) : Prop := frTa σ s ∧ match r with
  | .inl q => s 120 3 = q
  | .inr x => v = x.1.1 * 32 + x.1.2 ∧ s 120 2 = x.2 ∧ s 120 3 = -1
theorem c_range {σ : zS} (h : tpL σ) (hs : σ 120 3 = -1) : zP' (g_ta_range σ) (rgPo σ (rngR (cT σ) (σ 120 1) (σ 120 2))) := by
  have h2 := h.2.1
  unfold g_ta_range rngR
  obtain ⟨y1, y2⟩ := takes_is h hs (x := 42) (by decide)
  by_cases c : σ 120 2 < σ 120 1 ∧ cT σ (σ 120 2) = 42
  · rw [y1 c, if_pos c]
    rw [Option.bind_some]
    try dsimp +instances only
    rw [if_neg (by decide)]
    exact zP'.ret ⟨frTa.u (Or.inl rfl), rfl, zu_e rfl, (zu_i (by decide)).trans hs⟩
  · rw [y2 c, if_neg c]
    rw [Option.bind_some]
    try dsimp +instances only
    rw [if_pos rfl]
    have N := c_num (w := 2) (lo := 0) (hi := 31) h hs (by decide)
    refine zP'.bind N (fun v s1 p1 => ?_)
    have p1 : cPo σ (numR 2 0 31 (cT σ) (σ 120 1) (σ 120 2)) v s1 := p1
    try dsimp +instances only
    have b1 := numR_bd (w := 2) (lo := 0) (hi := 31) (f := cT σ) h2.2
    cases e1 : numR 2 0 31 (cT σ) (σ 120 1) (σ 120 2) with
    | inl q =>
      obtain ⟨f1, f3⟩ := p1.no e1
      rw [e1] at b1
      have b1 : σ 120 2 ≤ q ∧ q ≤ σ 120 1 := b1
      rw [p_takes0 (by omega) (by decide)]
      rw [Option.bind_some]
      try dsimp +instances only
      rw [if_pos rfl]
      exact zP'.ret ⟨f1, f3⟩
    | inr x =>
      obtain ⟨f1, fv, fp, f3⟩ := p1.ok e1
      rw [e1] at b1
      have b1 : σ 120 2 ≤ x.2 ∧ x.2 ≤ σ 120 1 := b1
      have k := numR_ok (v := x.1) (p' := x.2) e1
      subst fv
      have t1 : tpL s1 := h.mv f1 (by omega)
      have L1 : s1 120 1 = σ 120 1 := f1 120 1 (Or.inr (by decide))
      obtain ⟨z1, z2⟩ := takes_is t1 f3 (x := 45) (by decide)
      rw [cT_f f1, L1, fp] at z1 z2
      unfold rngR1
      try dsimp only
      by_cases c2 : x.2 < σ 120 1 ∧ cT σ x.2 = 45
      · rw [z1 c2, if_pos c2]
        rw [Option.bind_some]
        try dsimp +instances only
        rw [if_neg (by decide)]
        obtain ⟨f, t, s3, s2, sT, sL⟩ := tk_st t1 f3 (by omega)
        rw [fp] at f t s3 s2 sT sL
        generalize zu s1 120 2 (x.2 + 1) = s2' at f t s3 s2 sT sL
        have N2 := c_num (w := 2) (lo := x.1) (hi := 31) t s3 (by decide)
        rw [sT, sL, s2, cT_f f1, L1] at N2
        refine zP'.bind N2 (fun v s3 p3 => ?_)
        have p3 : cPo s2' (numR 2 x.1 31 (cT σ) (σ 120 1) (x.2 + 1)) v s3 := p3
        try dsimp +instances only
        refine zP'.ret ?_
        cases e3 : numR 2 x.1 31 (cT σ) (σ 120 1) (x.2 + 1) with
        | inl q =>
          obtain ⟨g1, g3⟩ := p3.no e3
          exact ⟨(f1.trans f).trans g1, g3⟩
        | inr y =>
          obtain ⟨g1, gv, gp, g3⟩ := p3.ok e3
          have k2 := numR_ok (v := y.1) (p' := y.2) e3
          refine ⟨(f1.trans f).trans g1, ?_, gp, g3⟩
          try dsimp only
          rw [gv, w32_id (x := x.1 * 32) (by omega) (by omega), w32_id (x := x.1 * 32 + y.1) (by omega) (by omega)]
      · rw [z2 c2, if_neg c2]
        rw [Option.bind_some]
        try dsimp +instances only
        rw [if_pos rfl]
        refine zP'.ret ⟨f1, ?_, fp, f3⟩
        try dsimp only
        rw [w32_id (x := x.1 * 32) (by omega) (by omega), w32_id (x := x.1 * 32 + x.1) (by omega) (by omega)]
theorem c_range0 {σ : zS} (hs : σ 120 3 ≠ -1) : zP' (g_ta_range σ) (fun _ s => s = σ) := by
  unfold g_ta_range
  rw [p_takes0 hs (by decide)]
  rw [Option.bind_some]
  try dsimp +instances only
  rw [if_pos rfl]
  refine zP'.bind (p_number0 hs (by decide)) (fun v s p => ?_)
  try dsimp +instances only
  rw [p, p_takes0 hs (by decide)]
  rw [Option.bind_some]
  try dsimp +instances only
  rw [if_pos rfl]
  exact zP'.ret rfl
theorem c_ranges0b {x : Int} {σ : zS} (hs : σ 120 3 ≠ -1) : zP' ((g_ta_wants 32 σ).bind fun o_8 => (g_ta_range o_8.2).bind fun o_12 => (g_ta_isSound o_12.2).bind fun o_17 => if o_17.1 = 0 then some (-1, o_17.2) else (g_b_of (w32 (Int.tdiv x 32)) (Int.tmod x 32) (w32 (Int.tdiv o_12.1 32)) (Int.tmod o_12.1 32) o_17.2).bind fun o_39 => some (o_39.1, o_39.2)) (fun _ s => s = σ) := by
  rw [p_wants0 hs (by decide)]
  rw [Option.bind_some]
  try dsimp +instances only
  refine zP'.bind (c_range0 hs) (fun v s p => ?_)
  try dsimp +instances only
  rw [p, p_isSound, if_neg hs]
  rw [Option.bind_some]
  try dsimp +instances only
  rw [if_pos rfl]
  exact zP'.ret rfl
theorem c_ranges0 {σ : zS} (hs : σ 120 3 ≠ -1) : zP' (g_ta_ranges σ) (fun _ s => s = σ) := by
  unfold g_ta_ranges
  refine zP'.bind (c_range0 hs) (fun v s p => ?_)
  try dsimp +instances only
  rw [p]
  exact c_ranges0b hs
theorem tdm {a b : Int} (ha : 0 ≤ a ∧ a ≤ 31) (hb : 0 ≤ b ∧ b ≤ 31) : w32 (Int.tdiv (a * 32 + b) 32) = a ∧ Int.tmod (a * 32 + b) 32 = b := by
  have e1 : Int.tdiv (a * 32 + b) 32 = a := by
    rw [Int.tdiv_eq_ediv_of_nonneg (by omega)]
    omega
  have e2 : Int.tmod (a * 32 + b) 32 = b := by
    rw [Int.tmod_eq_emod_of_nonneg (by omega)]
    omega
  rw [e1, e2, w32_id (by omega) (by omega)]
  exact ⟨rfl, rfl⟩
/-- the two ranges: the box -/
def rgsR (f : Int → Int) (L : Int) : Sum Int ((Int × Int) × Int) → Sum Int (Bx × Int)
  | .inl q => .inl q
  | .inr x => match sgnR 32 f L x.2 with
    | .inl q => .inl q
    | .inr t => match rngR f L t.2 with
      | .inl q => .inl q
      | .inr y => .inr ((x.1.1, x.1.2, y.1.1, y.1.2), y.2)
def bxPo (σ : zS) (r : Sum Int (Bx × Int)) (v : Int) (s : zS) : Prop := frTa σ s ∧ match r with
  | .inl q => s 120 3 = q
  | .inr x => v = enc x.1 ∧ s 120 2 = x.2 ∧ s 120 3 = -1
theorem c_ranges {σ : zS} (h : tpL σ) (hs : σ 120 3 = -1) : zP' (g_ta_ranges σ) (bxPo σ (rgsR (cT σ) (σ 120 1) (rngR (cT σ) (σ 120 1) (σ 120 2)))) := by
  have h2 := h.2.1
  unfold g_ta_ranges
  refine zP'.bind (c_range h hs) (fun v s1 p1 => ?_)
  obtain ⟨f1, p1⟩ := p1
  try dsimp +instances only
  have b1 := rngR_bd (f := cT σ) h2.2
  cases e1 : rngR (cT σ) (σ 120 1) (σ 120 2) with
  | inl q =>
    rw [e1] at b1 p1
    have b1 : σ 120 2 ≤ q ∧ q ≤ σ 120 1 := b1
    have p1 : s1 120 3 = q := p1
    exact (c_ranges0b (by omega)).imp (fun v s k => by
      rw [k]
      exact ⟨f1, p1⟩)
  | inr x =>
    rw [e1] at b1 p1
    obtain ⟨b1, b1', x1, x2, x3⟩ := b1
    obtain ⟨pv, pp, p3⟩ := p1
    have t1 : tpL s1 := h.mv f1 (by omega)
    have L1 : s1 120 1 = σ 120 1 := f1 120 1 (Or.inr (by decide))
    have W := c_sgn' (x := 32) t1 p3 (by decide)
    rw [cT_f f1, L1, pp] at W
    unfold rgsR
    try dsimp only
    refine zP'.bind W (fun u s2 p2 => ?_)
    try dsimp +instances only
    have b2 := sgnR_bd (x := 32) (f := cT σ) b1'
    cases e2 : sgnR 32 (cT σ) (σ 120 1) x.2 with
    | inl q =>
      obtain ⟨g1, g3⟩ := p2.no e2
      rw [e2] at b2
      have b2 : x.2 ≤ q ∧ q ≤ σ 120 1 := b2
      refine zP'.bind (c_range0 (by omega)) (fun w s3 p3' => ?_)
      try dsimp +instances only
      rw [p3', p_isSound, if_neg (by omega)]
      rw [Option.bind_some]
      try dsimp +instances only
      rw [if_pos rfl]
      exact zP'.ret ⟨f1.trans g1, g3⟩
    | inr t =>
      obtain ⟨g1, -, gp, g3⟩ := p2.ok e2
      rw [e2] at b2
      have b2 : x.2 ≤ t.2 ∧ t.2 ≤ σ 120 1 := b2
      have g12 := f1.trans g1
      have t2 : tpL s2 := h.mv g12 (by omega)
      have L2 : s2 120 1 = σ 120 1 := g12 120 1 (Or.inr (by decide))
      have R := c_range t2 g3
      rw [cT_f g12, L2, gp] at R
      try dsimp only
      refine zP'.bind R (fun w s3 p3' => ?_)
      obtain ⟨i1, p3'⟩ := p3'
      try dsimp +instances only
      have b3 := rngR_bd (f := cT σ) b2.2
      rw [p_isSound]
      rw [Option.bind_some]
      try dsimp +instances only
      cases e3 : rngR (cT σ) (σ 120 1) t.2 with
      | inl q =>
        rw [e3] at b3 p3'
        have b3 : t.2 ≤ q ∧ q ≤ σ 120 1 := b3
        have p3' : s3 120 3 = q := p3'
        have n3 : ¬ s3 120 3 = -1 := by omega
        rw [if_neg n3, if_pos rfl]
        exact zP'.ret ⟨g12.trans i1, p3'⟩
      | inr y =>
        rw [e3] at b3 p3'
        obtain ⟨-, -, y1, y2, y3⟩ := b3
        obtain ⟨qv, qp, q3⟩ := p3'
        obtain ⟨m1, m2⟩ := tdm (a := x.1.1) (b := x.1.2) (by omega) (by omega)
        obtain ⟨m3, m4⟩ := tdm (a := y.1.1) (b := y.1.2) (by omega) (by omega)
        have hB := b_of (b := (x.1.1, x.1.2, y.1.1, y.1.2)) (by dsimp only [sOk]; omega) s3
        dsimp only at hB
        rw [if_pos q3, if_neg (by decide), pv, qv, m1, m2, m3, m4, hB]
        rw [Option.bind_some]
        exact zP'.ret ⟨g12.trans i1, rfl, qp, q3⟩
