/-! E, told once: its signs, and for which rows it holds -/
abbrev zEx : Type := Sum Int ((Int → Bool) × Int)
def ltrR (f : Int → Int) (L p : Int) : zRd := if p < L then (if f p = 119 then .inr (0, p + 1) else if f p = 120 then .inr (1, p + 1) else if f p = 121 then .inr (2, p + 1) else if f p = 114 then .inr (3, p + 1) else .inl p) else .inl p
def cmpR (f : Int → Int) (L p : Int) : zRd := if p < L then (if f p = 60 then .inr (0, p + 1) else if f p = 61 then .inr (1, p + 1) else if f p = 62 then .inr (2, p + 1) else .inl p) else .inl p
def negB (f : Int → Int) (L p : Int) : Bool := decide (p < L ∧ f p = 45)
def tstN (f : Int → Int) (L p : Int) : zRd := numR 9 0 999999999 f L (if negB f L p = true then p + 1 else p)
def tstV (l c : Int) (n : Bool) : zRd → Sum Int ((Int × Int × Int) × Int)
  | .inl q => .inl q
  | .inr x => .inr ((l, c, if n = true then -x.1 else x.1), x.2)
def tstC (l : Int) (f : Int → Int) (L p : Int) : Sum Int ((Int × Int × Int) × Int) := match cmpR f L p with
  | .inl q => .inl q
  | .inr y => tstV l y.1 (negB f L y.2) (tstN f L y.2)
def tstP (f : Int → Int) (L p : Int) : Sum Int ((Int × Int × Int) × Int) := match ltrR f L p with
  | .inl q => .inl q
  | .inr x => tstC x.1 f L x.2
def cmpB (c a b : Int) : Bool := if c = 0 then decide (a < b) else if c = 1 then decide (a = b) else decide (b < a)
def exTst (ev : Int → Int → Int) : Sum Int ((Int × Int × Int) × Int) → zEx
  | .inl q => .inl q
  | .inr x => .inr (fun r => cmpB x.1.2.1 (ev x.1.1 r) x.1.2.2, x.2)
def exNot : zEx → zEx
  | .inl q => .inl q
  | .inr x => .inr (fun r => !x.1 r, x.2)
def exPar (f : Int → Int) (L : Int) : zEx → zEx
  | .inl q => .inl q
  | .inr x => match sgnR 41 f L x.2 with
    | .inl q => .inl q
    | .inr y => .inr (x.1, y.2)
def exSeq (k : Int → (Int → Bool) → zEx) : zEx → zEx
  | .inl q => .inl q
  | .inr x => k x.2 x.1
/-- kinds: 0 either, 1 both, 2 single, 3 and 4 their loops behind T -/
def eP (ev : Int → Int → Int) (f : Int → Int) (L : Int) : Nat → Nat → Int → Int → (Int → Bool) → zEx
  | 0, _, _, p, _ => .inl p
  | n + 1, 0, d, p, T => exSeq (fun p' T' => eP ev f L n 3 d p' T') (eP ev f L n 1 d p T)
  | n + 1, 1, d, p, T => exSeq (fun p' T' => eP ev f L n 4 d p' T') (eP ev f L n 2 d p T)
  | n + 1, 3, d, p, T => if p < L ∧ f p = 124 then exSeq (fun p' T' => eP ev f L n 3 d p' (fun r => T r || T' r)) (eP ev f L n 1 d (p + 1) T) else .inr (T, p)
  | n + 1, 4, d, p, T => if p < L ∧ f p = 38 then exSeq (fun p' T' => eP ev f L n 4 d p' (fun r => T r && T' r)) (eP ev f L n 2 d (p + 1) T) else .inr (T, p)
  | n + 1, _, d, p, T => if d < 4 ∧ p < L ∧ f p = 33 then exNot (eP ev f L n 2 (d + 1) (p + 1) T) else if d < 4 ∧ p < L ∧ f p = 40 then exPar f L (eP ev f L n 0 (d + 1) (p + 1) T) else exTst ev (tstP f L p)
def eN (k : Nat) : Int := if k = 0 then 3 else if k = 1 then 2 else 1
theorem ltrR_ok {f : Int → Int} {L p v p' : Int} (h : ltrR f L p = .inr (v, p')) : p < L ∧ p' = p + 1 ∧ ((v = 0 ∧ f p = 119) ∨ (v = 1 ∧ f p = 120) ∨ (v = 2 ∧ f p = 121) ∨ (v = 3 ∧ f p = 114)) := by
  unfold ltrR at h
  repeat' (split at h)
  all_goals first
    | (cases h; refine ⟨by assumption, rfl, ?_⟩; omega)
    | cases h
theorem ltrR_no {f : Int → Int} {L p q : Int} (h : ltrR f L p = .inl q) : q = p ∧ (p < L → f p ≠ 119 ∧ f p ≠ 120 ∧ f p ≠ 121 ∧ f p ≠ 114) := by
  unfold ltrR at h
  repeat' (split at h)
  all_goals first
    | (cases h; exact ⟨rfl, fun _ => ⟨by assumption, by assumption, by assumption, by assumption⟩⟩)
    | (cases h; exact ⟨rfl, fun _ => by omega⟩)
    | cases h
theorem cmpR_ok {f : Int → Int} {L p v p' : Int} (h : cmpR f L p = .inr (v, p')) : p < L ∧ p' = p + 1 ∧ ((v = 0 ∧ f p = 60) ∨ (v = 1 ∧ f p = 61) ∨ (v = 2 ∧ f p = 62)) := by
  unfold cmpR at h
  repeat' (split at h)
  all_goals first
    | (cases h; refine ⟨by assumption, rfl, ?_⟩; omega)
    | cases h
theorem cmpR_no {f : Int → Int} {L p q : Int} (h : cmpR f L p = .inl q) : q = p ∧ (p < L → f p ≠ 60 ∧ f p ≠ 61 ∧ f p ≠ 62) := by
  unfold cmpR at h
  repeat' (split at h)
  all_goals first
    | (cases h; exact ⟨rfl, fun _ => ⟨by assumption, by assumption, by assumption⟩⟩)
    | (cases h; exact ⟨rfl, fun _ => by omega⟩)
    | cases h
theorem ltrR_bd {f : Int → Int} {L p : Int} (h : p ≤ L) : rBd p L (ltrR f L p) := by
  cases e : ltrR f L p with
  | inl q =>
    have k := (ltrR_no e).1
    exact ⟨by omega, by omega⟩
  | inr x =>
    have k := ltrR_ok (v := x.1) (p' := x.2) e
    exact ⟨by omega, by omega⟩
theorem cmpR_bd {f : Int → Int} {L p : Int} (h : p ≤ L) : rBd p L (cmpR f L p) := by
  cases e : cmpR f L p with
  | inl q =>
    have k := (cmpR_no e).1
    exact ⟨by omega, by omega⟩
  | inr x =>
    have k := cmpR_ok (v := x.1) (p' := x.2) e
    exact ⟨by omega, by omega⟩
theorem negB_t {f : Int → Int} {L p : Int} (h : negB f L p = true) : p < L ∧ f p = 45 := of_decide_eq_true h
theorem negB_f {f : Int → Int} {L p : Int} (h : negB f L p = false) : ¬ (p < L ∧ f p = 45) := of_decide_eq_false h
theorem tstN_bd {f : Int → Int} {L p : Int} (h : p ≤ L) : rBd p L (tstN f L p) := by
  unfold tstN
  cases e : negB f L p with
  | true =>
    have k := (negB_t e).1
    have b := numR_bd (w := 9) (lo := 0) (hi := 999999999) (f := f) (L := L) (p := p + 1) (by omega)
    rw [if_pos rfl]
    cases e2 : numR 9 0 999999999 f L (p + 1) with
    | inl q =>
      rw [e2] at b
      exact ⟨by have := b.1; omega, b.2⟩
    | inr x =>
      rw [e2] at b
      exact ⟨by have := b.1; omega, b.2⟩
  | false =>
    rw [if_neg (by decide)]
    exact numR_bd h
/-- places go on -/
def xBd (p L : Int) : zEx → Prop
  | .inl q => p ≤ q ∧ q ≤ L
  | .inr x => p < x.2 ∧ x.2 ≤ L
def tBd (p L : Int) : Sum Int ((Int × Int × Int) × Int) → Prop
  | .inl q => p ≤ q ∧ q ≤ L
  | .inr x => p < x.2 ∧ x.2 ≤ L
theorem tstP_bd {f : Int → Int} {L p : Int} (h : p ≤ L) : tBd p L (tstP f L p) := by
  unfold tstP tstC
  have b1 := ltrR_bd (f := f) h
  cases e1 : ltrR f L p with
  | inl q =>
    rw [e1] at b1
    exact b1
  | inr x =>
    rw [e1] at b1
    have k1 := ltrR_ok (v := x.1) (p' := x.2) e1
    have b1 : p ≤ x.2 ∧ x.2 ≤ L := b1
    have b2 := cmpR_bd (f := f) b1.2
    try dsimp only
    cases e2 : cmpR f L x.2 with
    | inl q =>
      rw [e2] at b2
      exact ⟨by have := b2.1; omega, b2.2⟩
    | inr y =>
      rw [e2] at b2
      have b2 : x.2 ≤ y.2 ∧ y.2 ≤ L := b2
      have b3 := tstN_bd (f := f) b2.2
      try dsimp only
      cases e3 : tstN f L y.2 with
      | inl q =>
        rw [e3] at b3
        exact ⟨by have := b3.1; omega, b3.2⟩
      | inr z =>
        rw [e3] at b3
        have b3 : y.2 ≤ z.2 ∧ z.2 ≤ L := b3
        exact ⟨by show p < z.2; omega, b3.2⟩
theorem eP_z {ev : Int → Int → Int} {f : Int → Int} {L : Int} {k : Nat} {d p : Int} {T : Int → Bool} : eP ev f L 0 k d p T = .inl p := rfl
theorem eP_0 {ev : Int → Int → Int} {f : Int → Int} {L : Int} {n : Nat} {d p : Int} {T : Int → Bool} : eP ev f L (n + 1) 0 d p T = exSeq (fun p' T' => eP ev f L n 3 d p' T') (eP ev f L n 1 d p T) := rfl
theorem eP_1 {ev : Int → Int → Int} {f : Int → Int} {L : Int} {n : Nat} {d p : Int} {T : Int → Bool} : eP ev f L (n + 1) 1 d p T = exSeq (fun p' T' => eP ev f L n 4 d p' T') (eP ev f L n 2 d p T) := rfl
theorem eP_3 {ev : Int → Int → Int} {f : Int → Int} {L : Int} {n : Nat} {d p : Int} {T : Int → Bool} : eP ev f L (n + 1) 3 d p T = if p < L ∧ f p = 124 then exSeq (fun p' T' => eP ev f L n 3 d p' (fun r => T r || T' r)) (eP ev f L n 1 d (p + 1) T) else .inr (T, p) := rfl
theorem eP_4 {ev : Int → Int → Int} {f : Int → Int} {L : Int} {n : Nat} {d p : Int} {T : Int → Bool} : eP ev f L (n + 1) 4 d p T = if p < L ∧ f p = 38 then exSeq (fun p' T' => eP ev f L n 4 d p' (fun r => T r && T' r)) (eP ev f L n 2 d (p + 1) T) else .inr (T, p) := rfl
theorem eP_2 {ev : Int → Int → Int} {f : Int → Int} {L : Int} {n : Nat} {d p : Int} {T : Int → Bool} : eP ev f L (n + 1) 2 d p T = if d < 4 ∧ p < L ∧ f p = 33 then exNot (eP ev f L n 2 (d + 1) (p + 1) T) else if d < 4 ∧ p < L ∧ f p = 40 then exPar f L (eP ev f L n 0 (d + 1) (p + 1) T) else exTst ev (tstP f L p) := rfl
/-- from its place on, kind k comes to a place that is further, its loops to one not ahead -/
theorem eP_bd {ev : Int → Int → Int} {f : Int → Int} {L : Int} : ∀ (n k : Nat) (d p : Int) (T : Int → Bool), k ≤ 4 → p ≤ L → (∀ q, eP ev f L n k d p T = .inl q → p ≤ q ∧ q ≤ L) ∧ ∀ x, eP ev f L n k d p T = .inr x → p ≤ x.2 ∧ x.2 ≤ L ∧ (k ≠ 3 → k ≠ 4 → p < x.2)
  | 0, k, d, p, T, _, h => by
    refine ⟨fun q e => ?_, fun x e => ?_⟩
    · rw [eP_z] at e
      cases e
      exact ⟨Int.le_refl p, h⟩
    · rw [eP_z] at e
      cases e
  | n + 1, 0, d, p, T, _, h => by
    obtain ⟨a1, a2⟩ := eP_bd (ev := ev) (f := f) (L := L) n 1 d p T (by decide) h
    rw [eP_0]
    cases e1 : eP ev f L n 1 d p T with
    | inl q => exact ⟨fun q' e => (by cases e; exact a1 _ e1), fun x e => (by cases e)⟩
    | inr x =>
      have b := a2 x e1
      have b3 := b.2.2 (by decide) (by decide)
      obtain ⟨c1, c2⟩ := eP_bd (ev := ev) (f := f) (L := L) n 3 d x.2 x.1 (by decide) b.2.1
      refine ⟨fun q e => ?_, fun y e => ?_⟩
      · have := c1 q e
        omega
      · have := c2 y e
        omega
  | n + 1, 1, d, p, T, _, h => by
    obtain ⟨a1, a2⟩ := eP_bd (ev := ev) (f := f) (L := L) n 2 d p T (by decide) h
    rw [eP_1]
    cases e1 : eP ev f L n 2 d p T with
    | inl q => exact ⟨fun q' e => (by cases e; exact a1 _ e1), fun x e => (by cases e)⟩
    | inr x =>
      have b := a2 x e1
      have b3 := b.2.2 (by decide) (by decide)
      obtain ⟨c1, c2⟩ := eP_bd (ev := ev) (f := f) (L := L) n 4 d x.2 x.1 (by decide) b.2.1
      refine ⟨fun q e => ?_, fun y e => ?_⟩
      · have := c1 q e
        omega
      · have := c2 y e
        omega
  | n + 1, 3, d, p, T, _, h => by
    rw [eP_3]
    by_cases c : p < L ∧ f p = 124
    · rw [if_pos c]
      obtain ⟨a1, a2⟩ := eP_bd (ev := ev) (f := f) (L := L) n 1 d (p + 1) T (by decide) (by omega)
      cases e1 : eP ev f L n 1 d (p + 1) T with
      | inl q => exact ⟨fun q' e => (by cases e; have := a1 _ e1; omega), fun x e => (by cases e)⟩
      | inr x =>
        have b := a2 x e1
        obtain ⟨c1, c2⟩ := eP_bd (ev := ev) (f := f) (L := L) n 3 d x.2 (fun r => T r || x.1 r) (by decide) b.2.1
        refine ⟨fun q e => ?_, fun y e => ?_⟩
        · have := c1 q e
          omega
        · have := c2 y e
          exact ⟨by omega, by omega, fun hk => absurd rfl hk⟩
    · rw [if_neg c]
      exact ⟨fun q e => (by cases e), fun x e => (by cases e; exact ⟨Int.le_refl p, h, fun hk => absurd rfl hk⟩)⟩
  | n + 1, 4, d, p, T, _, h => by
    rw [eP_4]
    by_cases c : p < L ∧ f p = 38
    · rw [if_pos c]
      obtain ⟨a1, a2⟩ := eP_bd (ev := ev) (f := f) (L := L) n 2 d (p + 1) T (by decide) (by omega)
      cases e1 : eP ev f L n 2 d (p + 1) T with
      | inl q => exact ⟨fun q' e => (by cases e; have := a1 _ e1; omega), fun x e => (by cases e)⟩
      | inr x =>
        have b := a2 x e1
        obtain ⟨c1, c2⟩ := eP_bd (ev := ev) (f := f) (L := L) n 4 d x.2 (fun r => T r && x.1 r) (by decide) b.2.1
        refine ⟨fun q e => ?_, fun y e => ?_⟩
        · have := c1 q e
          omega
        · have := c2 y e
          exact ⟨by omega, by omega, fun _ hk => absurd rfl hk⟩
    · rw [if_neg c]
      exact ⟨fun q e => (by cases e), fun x e => (by cases e; exact ⟨Int.le_refl p, h, fun _ hk => absurd rfl hk⟩)⟩
  | n + 1, 2, d, p, T, _, h => by
    rw [eP_2]
    by_cases c : d < 4 ∧ p < L ∧ f p = 33
    · rw [if_pos c]
      obtain ⟨a1, a2⟩ := eP_bd (ev := ev) (f := f) (L := L) n 2 (d + 1) (p + 1) T (by decide) (by omega)
      cases e1 : eP ev f L n 2 (d + 1) (p + 1) T with
      | inl q => exact ⟨fun q' e => (by cases e; have := a1 _ e1; omega), fun x e => (by cases e)⟩
      | inr x =>
        have b := a2 x e1
        exact ⟨fun q e => (by cases e), fun y e => (by cases e; exact ⟨by dsimp only; omega, b.2.1, fun _ _ => by dsimp only; omega⟩)⟩
    · rw [if_neg c]
      by_cases c2 : d < 4 ∧ p < L ∧ f p = 40
      · rw [if_pos c2]
        obtain ⟨a1, a2⟩ := eP_bd (ev := ev) (f := f) (L := L) n 0 (d + 1) (p + 1) T (by decide) (by omega)
        cases e1 : eP ev f L n 0 (d + 1) (p + 1) T with
        | inl q => exact ⟨fun q' e => (by cases e; have := a1 _ e1; omega), fun x e => (by cases e)⟩
        | inr x =>
          have b := a2 x e1
          have s := sgnR_bd (x := 41) (f := f) b.2.1
          unfold exPar
          try dsimp only
          cases e2 : sgnR 41 f L x.2 with
          | inl q =>
            rw [e2] at s
            have s : x.2 ≤ q ∧ q ≤ L := s
            exact ⟨fun q' e => (by cases e; omega), fun x e => (by cases e)⟩
          | inr y =>
            rw [e2] at s
            have s : x.2 ≤ y.2 ∧ y.2 ≤ L := s
            exact ⟨fun q' e => (by cases e), fun x e => (by cases e; exact ⟨by dsimp only; omega, s.2, fun _ _ => by dsimp only; omega⟩)⟩
      · rw [if_neg c2]
        have b := tstP_bd (f := f) h
        cases e1 : tstP f L p with
        | inl q =>
          rw [e1] at b
          exact ⟨fun q' e => (by cases e; exact b), fun x e => (by cases e)⟩
        | inr x =>
          rw [e1] at b
          have b : p < x.2 ∧ x.2 ≤ L := b
          exact ⟨fun q' e => (by cases e), fun y e => (by cases e; exact ⟨by dsimp only; omega, b.2, fun _ _ => b.1⟩)⟩
  | n + 1, k + 5, d, p, T, hk, h => absurd hk (by omega)
