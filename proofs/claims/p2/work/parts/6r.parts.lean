/-! QUERIES AS A TEXT: the class -/
def frQu (σ s : zS) : Prop := ∀ a j, (a ≠ 120 ∨ (j ≠ 2 ∧ j ≠ 3)) → a ≠ 123 → a ≠ 124 → a ≠ 125 → (a ≠ 122 ∨ j ≠ 5) → s a j = σ a j
theorem frQu.refl (σ : zS) : frQu σ σ := fun _ _ _ _ _ _ _ => rfl
theorem frQu.of {σ s : zS} (h : frTa σ s) : frQu σ s := fun a j k _ _ _ _ => h a j k
theorem frQu.trans {σ s t : zS} (h1 : frQu σ s) (h2 : frQu s t) : frQu σ t := fun a j k1 k2 k3 k4 k5 => (h2 a j k1 k2 k3 k4 k5).trans (h1 a j k1 k2 k3 k4 k5)
theorem frQu.u {σ : zS} {a : Nat} {i v : Int} (h : a = 123 ∨ a = 124 ∨ a = 125 ∨ (a = 122 ∧ i = 5)) : frQu σ (zu σ a i v) := fun b j k1 k2 k3 k4 k5 => zu_c (by omega)
/-- what a part's reading leaves: the tape, the rows -/
theorem frQu.L {σ s : zS} (f : frQu σ s) : s 120 1 = σ 120 1 := f 120 1 (Or.inr (by decide)) (by decide) (by decide) (by decide) (Or.inl (by decide))
theorem frQu.T {σ s : zS} (f : frQu σ s) : cT s = cT σ := by
  funext j
  unfold cT
  rw [f.L, f 121 j (Or.inl (by decide)) (by decide) (by decide) (by decide) (Or.inl (by decide))]
theorem frQu.t {σ s : zS} (f : frQu σ s) (h : tpL σ) (h2 : 0 ≤ s 120 2 ∧ s 120 2 ≤ σ 120 1) : tpL s := by
  have e2 : s 121 = σ 121 := funext (fun j => f 121 j (Or.inl (by decide)) (by decide) (by decide) (by decide) (Or.inl (by decide)))
  unfold tpL
  rw [f.L, e2]
  exact ⟨h.1, h2, h.2.2⟩
theorem exOk.q {I : Nat → Bool} {ev : Int → Int → Int} {σ s : zS} (h : exOk I ev σ) (f : frQu σ s) (H : CI s) : exOk I ev s := by
  refine ⟨H, ST_E h.2.1 (fun a j k => f a j (Or.inl (by unfold stK at k; omega)) (by unfold stK at k; omega) (by unfold stK at k; omega) (by unfold stK at k; omega) (Or.inl (by unfold stK at k; omega))), fun q hq hI l l0 l3 => ?_⟩
  rw [← h.2.2 q hq hI l l0 l3]
  unfold cev
  rw [f 44 _ (Or.inl (by decide)) (by decide) (by decide) (by decide) (Or.inl (by decide)), f 42 _ (Or.inl (by decide)) (by decide) (by decide) (by decide) (Or.inl (by decide)), f 43 _ (Or.inl (by decide)) (by decide) (by decide) (by decide) (Or.inl (by decide))]
def riPo (I : Nat → Bool) (σ : zS) (r : zQr) (v : Int) (s : zS) : Prop := frTa σ s ∧ match r with
  | .inl q => s 120 3 = q
  | .inr x => s 120 2 = x.2 ∧ s 120 3 = -1 ∧ btE I v x.1.2.2.2
theorem c_if0b {σ : zS} (hs : σ 120 3 ≠ -1) : zP' ((g_ta_wants 32 σ).bind fun o_32 => (g_grp68 zR 68 0 o_32.2).bind fun o_37 => some (o_37.1, o_37.2)) (fun _ s => s = σ) := by
  rw [p_wants0 hs (by decide)]
  rw [Option.bind_some]
  try dsimp +instances only
  exact zP'.bind ((c_ex0 hs zR).1 0) (fun v s p => zP'.ret p)
theorem c_if0 {σ : zS} (hs : σ 120 3 ≠ -1) : zP' (g_qu_readIf σ) (fun _ s => s = σ) := by
  unfold g_qu_readIf
  rw [p_takes0 hs (by decide)]
  rw [Option.bind_some]
  try dsimp +instances only
  rw [if_neg (by decide)]
  exact zP'.ret rfl
theorem c_if {I : Nat → Bool} {ev : Int → Int → Int} {m : Int} {B : Bx} {σ : zS} (h : tpL σ) (hs : σ 120 3 = -1) (O : exOk I ev σ) : zP' (g_qu_readIf σ) (riPo I σ (qryF ev (cT σ) (σ 120 1) m B (σ 120 2))) := by
  have h1 := h.1
  have h2 := h.2.1
  unfold g_qu_readIf qryF
  obtain ⟨y1, y2⟩ := takes_is h hs (x := 32) (by decide)
  by_cases c : σ 120 2 < σ 120 1 ∧ cT σ (σ 120 2) = 32
  · rw [y1 c, if_pos c]
    rw [Option.bind_some]
    try dsimp +instances only
    rw [if_pos (by decide)]
    obtain ⟨f, t, s3, s2, sT, sL⟩ := tk_st h hs c.1
    generalize zu σ 120 2 (σ 120 2 + 1) = s1 at f t s3 s2 sT sL
    have W := c_wrd swk5 t s3
    rw [sT, sL, s2] at W
    refine zP'.bind W (fun w s4 p4 => ?_)
    obtain ⟨p4, -⟩ := p4
    try dsimp +instances only
    have b1 := wrdR_bd (a := 5) (Ln := 2) (f := cT σ) (L := σ 120 1) (p := σ 120 2 + 1) (by omega)
    cases e1 : wrdR 5 2 (cT σ) (σ 120 1) (σ 120 2 + 1) with
    | inl q =>
      obtain ⟨g1, g3⟩ := p4.no e1
      rw [e1] at b1
      have b1 : σ 120 2 + 1 ≤ q ∧ q ≤ σ 120 1 := b1
      exact (c_if0b (by omega)).imp (fun v s k => by
        rw [k]
        exact ⟨f.trans g1, g3⟩)
    | inr x =>
      obtain ⟨g1, -, gp, g3⟩ := p4.ok e1
      rw [e1] at b1
      have b1 : σ 120 2 + 1 ≤ x.2 ∧ x.2 ≤ σ 120 1 := b1
      have fg := f.trans g1
      have t4 : tpL s4 := h.mv fg (by omega)
      have L4 : s4 120 1 = σ 120 1 := fg 120 1 (Or.inr (by decide))
      have W2 := c_sgn' (x := 32) t4 g3 (by decide)
      rw [cT_f fg, L4, gp] at W2
      dsimp only [qryI]
      refine zP'.bind W2 (fun u s5 p5 => ?_)
      try dsimp +instances only
      have b2 := sgnR_bd (x := 32) (f := cT σ) b1.2
      cases e2 : sgnR 32 (cT σ) (σ 120 1) x.2 with
      | inl q =>
        obtain ⟨i1, i3⟩ := p5.no e2
        rw [e2] at b2
        have b2 : x.2 ≤ q ∧ q ≤ σ 120 1 := b2
        refine zP'.bind ((c_ex0 (by omega) zR).1 0) (fun v s p => zP'.ret ?_)
        try dsimp only
        rw [p]
        exact ⟨fg.trans i1, i3⟩
      | inr y =>
        obtain ⟨i1, -, ip, i3⟩ := p5.ok e2
        rw [e2] at b2
        have b2 : x.2 ≤ y.2 ∧ y.2 ≤ σ 120 1 := b2
        have fi := fg.trans i1
        have t5 : tpL s5 := h.mv fi (by omega)
        have L5 : s5 120 1 = σ 120 1 := fi 120 1 (Or.inr (by decide))
        have X := (c_expr (I := I) (ev := ev) 700).1 zR 0 (fun _ => true) s5 t5 i3 (O.f fi t5) (by decide) (by decide) (by rw [L5, ip]; omega)
        rw [cT_f fi, L5, ip] at X
        dsimp only [qryS]
        refine zP'.bind X (fun v s p => zP'.ret ?_)
        obtain ⟨p1, p2⟩ := p
        try dsimp only
        cases e3 : eP ev (cT σ) (σ 120 1) 700 0 0 y.2 (fun _ => true) with
        | inl q =>
          rw [e3] at p2
          exact ⟨fi.trans p1, p2⟩
        | inr z =>
          rw [e3] at p2
          exact ⟨fi.trans p1, p2⟩
  · rw [y2 c, if_neg c]
    rw [Option.bind_some]
    try dsimp +instances only
    rw [if_neg (by decide)]
    exact zP'.ret ⟨frTa.refl σ, rfl, hs, fun q hq _ => bq_m1 (by omega)⟩
/-! the parts -/
def quT4 (n : Nat) (x : Int) (σ : zS) : Option (Unit × zS) := if 8 ≤ zu σ 122 5 (w32 (x + 1)) 122 5 then g_qu_readParts_L91 (g_qu_readParts_L9 n) x 0 (zu σ 122 5 (w32 (x + 1))) else g_qu_readParts_L91 (g_qu_readParts_L9 n) x 1 (zu σ 122 5 (w32 (x + 1)))
def quT3 (n : Nat) (x : Int) (σ : zS) : Option (Unit × zS) := (g_qu_readIf σ).bind fun o => if 0 ≤ x ∧ x < 8 then quT4 n x (zu o.2 125 x o.1) else none
def quT2 (n : Nat) (x : Int) (σ : zS) : Option (Unit × zS) := (g_ta_ranges σ).bind fun o => if 0 ≤ x ∧ x < 8 then quT3 n x (zu o.2 124 x o.1) else none
def quT1 (n : Nat) (x : Int) (σ : zS) : Option (Unit × zS) := (g_ta_wants 32 σ).bind fun o => quT2 n x o.2
theorem qu_eq {n : Nat} {x : Int} {σ : zS} (hx : x < 8) : g_qu_readParts_L9 (n + 1) 1 x σ = (g_ta_word 4 σ).bind fun o => if 0 ≤ x ∧ x < 8 then quT1 n x (zu o.2 123 x o.1) else none := by
  conv => lhs; unfold g_qu_readParts_L9
  rw [if_neg (by decide), if_neg (by omega)]
  rfl
def quN (σ : zS) (s : zS) : Prop := frQu σ s ∧ s 120 3 = σ 120 3
theorem q_t4 {n : Nat} {x : Int} {σ : zS} (hs : σ 120 3 ≠ -1) : zP' (quT4 n x σ) (fun _ s => quN σ s) := by
  have k : ∀ (m : Int) (s : zS), s 120 3 ≠ -1 → zP' (g_qu_readParts_L91 (g_qu_readParts_L9 n) x m s) (fun _ t => t = s) := fun m s h => by
    unfold g_qu_readParts_L91
    rw [p_another0 h]
    rw [Option.bind_some]
    try dsimp +instances only
    cases n with
    | zero => exact zP'.no
    | succ n =>
      unfold g_qu_readParts_L9
      rw [if_pos rfl]
      exact zP'.ret rfl
  have z3 : zu σ 122 5 (w32 (x + 1)) 120 3 = σ 120 3 := zu_a (by decide)
  have fin : ∀ t : zS, t = zu σ 122 5 (w32 (x + 1)) → quN σ t := fun t e => by
    rw [e]
    exact ⟨frQu.u (by omega), z3⟩
  unfold quT4
  exact zP'.ite (fun _ => (k _ _ (by rw [z3]; exact hs)).imp (fun _ t e => fin t e)) (fun _ => (k _ _ (by rw [z3]; exact hs)).imp (fun _ t e => fin t e))
theorem quN.tr {σ s t : zS} (f : frQu σ s) (e : s 120 3 = σ 120 3) (h : quN s t) : quN σ t := ⟨f.trans h.1, h.2.trans e⟩
theorem q_t3 {n : Nat} {x : Int} {σ : zS} (hs : σ 120 3 ≠ -1) : zP' (quT3 n x σ) (fun _ s => quN σ s) := by
  unfold quT3
  refine zP'.bind (c_if0 hs) (fun v s p => ?_)
  try dsimp +instances only
  rw [p]
  refine zP'.gd (fun _ => ?_)
  have z3 : zu σ 125 x v 120 3 = σ 120 3 := zu_a (by decide)
  exact (q_t4 (by rw [z3]; exact hs)).imp (fun _ t k => k.tr (frQu.u (by omega)) z3)
theorem q_t2 {n : Nat} {x : Int} {σ : zS} (hs : σ 120 3 ≠ -1) : zP' (quT2 n x σ) (fun _ s => quN σ s) := by
  unfold quT2
  refine zP'.bind (c_ranges0 hs) (fun v s p => ?_)
  try dsimp +instances only
  rw [p]
  refine zP'.gd (fun _ => ?_)
  have z3 : zu σ 124 x v 120 3 = σ 120 3 := zu_a (by decide)
  exact (q_t3 (by rw [z3]; exact hs)).imp (fun _ t k => k.tr (frQu.u (by omega)) z3)
theorem q_t1 {n : Nat} {x : Int} {σ : zS} (hs : σ 120 3 ≠ -1) : zP' (quT1 n x σ) (fun _ s => quN σ s) := by
  unfold quT1
  rw [p_wants0 hs (by decide)]
  rw [Option.bind_some]
  exact q_t2 hs
/-- what the class has of the parts read so far -/
def quH (I : Nat → Bool) (l : List zQy) (s : zS) : Prop := ∀ (i : Nat) (hi : i < l.length), s 123 (i : Int) = l[i].1 ∧ s 124 (i : Int) = enc l[i].2.1 ∧ btE I (s 125 (i : Int)) l[i].2.2.2
def quPo (I : Nat → Bool) (σ : zS) (r : Sum Int (List zQy)) (s : zS) : Prop := frQu σ s ∧ match r with
  | .inl q => s 120 3 = q
  | .inr l => s 120 3 = -1 ∧ s 122 5 = (l.length : Int) ∧ quH I l s
theorem quPo.tr {I : Nat → Bool} {σ s t : zS} {r : Sum Int (List zQy)} (f : frQu σ s) (h : quPo I s r t) : quPo I σ r t := by
  obtain ⟨h1, h2⟩ := h
  exact ⟨f.trans h1, h2⟩
theorem quN.po {I : Nat → Bool} {σ s t : zS} {q : Int} (f : frQu σ s) (e : s 120 3 = q) (h : quN s t) : quPo I σ (.inl q) t := ⟨f.trans h.1, h.2.trans e⟩
theorem CI_Qu {σ s : zS} (H : CI σ) (f : frQu σ s) (h2 : 0 ≤ s 120 2 ∧ s 120 2 ≤ 160) (h5 : 0 ≤ s 122 5 ∧ s 122 5 ≤ 8) : CI s := by
  refine ⟨fun a j => ?_, ?_⟩
  · by_cases c : (a = 120 ∧ (j = 2 ∨ j = 3)) ∨ a = 123 ∨ a = 124 ∨ a = 125 ∨ (a = 122 ∧ j = 5)
    · intro lo hi k
      rcases c with ⟨rfl, rfl | rfl⟩ | rfl | rfl | rfl | ⟨rfl, rfl⟩
      · have k2 : rng 120 2 = some (0, 160) := rfl
        rw [k2] at k
        cases k
        exact h2
      · have k2 : rng 120 3 = none := rfl
        rw [k2] at k
        cases k
      · have k2 : rng 123 j = none := rfl
        rw [k2] at k
        cases k
      · have k2 : rng 124 j = none := rfl
        rw [k2] at k
        cases k
      · have k2 : rng 125 j = none := rfl
        rw [k2] at k
        cases k
      · have k2 : rng 122 5 = some (0, 8) := rfl
        rw [k2] at k
        cases k
        exact h5
    · rw [f a j (by omega) (by omega) (by omega) (by omega) (by omega)]
      exact H.1 a j
  · unfold PG
    rw [f 129 1 (Or.inl (by decide)) (by decide) (by decide) (by decide) (Or.inl (by decide)), f 129 3 (Or.inl (by decide)) (by decide) (by decide) (by decide) (Or.inl (by decide)), f 169 0 (Or.inl (by decide)) (by decide) (by decide) (by decide) (Or.inl (by decide))]
    exact H.2
theorem quH_snoc {I : Nat → Bool} {l : List zQy} {Q : zQy} {σ s : zS} (hq : quH I l σ) (o : ∀ (a : Nat) (i : Nat), i < l.length → (a = 123 ∨ a = 124 ∨ a = 125) → s a (i : Int) = σ a (i : Int)) (n1 : s 123 (l.length : Int) = Q.1) (n2 : s 124 (l.length : Int) = enc Q.2.1) (n3 : btE I (s 125 (l.length : Int)) Q.2.2.2) : quH I (l ++ [Q]) s := fun i hi => by
  rw [List.length_append] at hi
  have hi : i < l.length + 1 := hi
  by_cases ci : i < l.length
  · rw [List.getElem_append_left ci, o 123 i ci (by omega), o 124 i ci (by omega), o 125 i ci (by omega)]
    exact hq i ci
  · have ei : i = l.length := by omega
    subst ei
    rw [List.getElem_append_right (by omega)]
    have e0 : ([Q] : List zQy)[l.length - l.length]'(by rw [Nat.sub_self]; exact Nat.one_pos) = Q := by
      simp
    rw [e0]
    exact ⟨n1, n2, n3⟩
theorem app_len {l : List zQy} {Q : zQy} : ((l ++ [Q]).length : Int) = (l.length : Int) + 1 := by
  rw [List.length_append]
  show ((l.length + 1 : Nat) : Int) = (l.length : Int) + 1
  omega
/-- behind a part that was read -/
theorem c_tail {I : Nat → Bool} {ev : Int → Int → Int} {n m : Nat} {l : List zQy} {Q : zQy} {p' : Int} {σ s5 : zS} (h : tpL σ) (F5 : frQu σ s5) (h0 : 0 ≤ p') (h1 : p' ≤ σ 120 1) (e52 : s5 120 2 = p') (e53 : s5 120 3 = -1) (e5b : s5 122 5 = (l.length : Int) + 1) (O5 : exOk I ev s5) (hq5 : quH I (l ++ [Q]) s5) (hl : l.length + 1 + m = 8) (rec : 0 < m → ∀ s6, tpL s6 → s6 120 3 = -1 → exOk I ev s6 → s6 120 2 = p' + 1 → frQu σ s6 → quH I (l ++ [Q]) s6 → zP' (g_qu_readParts_L9 n 1 ((l ++ [Q]).length : Int) s6) (fun _ s => quPo I s6 (runP ev (cT σ) (σ 120 1) m (p' + 1) (l ++ [Q])) s)) : zP' (if 8 ≤ (l.length : Int) + 1 then g_qu_readParts_L91 (g_qu_readParts_L9 n) (l.length : Int) 0 s5 else g_qu_readParts_L91 (g_qu_readParts_L9 n) (l.length : Int) 1 s5) (fun _ s => quPo I σ (if p' < σ 120 1 then (if l.length + 1 < 8 ∧ cT σ p' = 59 then runP ev (cT σ) (σ 120 1) m (p' + 1) (l ++ [Q]) else .inl p') else .inr (l ++ [Q])) s) := by
  have t5 : tpL s5 := F5.t h (by rw [e52]; exact ⟨h0, h1⟩)
  have ex := w32_id (x := (l.length : Int) + 1) (by omega) (by omega)
  have stop : ∀ (k : Nat) (x : Int) (s6 : zS), zP' (g_qu_readParts_L9 k 0 x s6) (fun _ s => s = s6) := fun k x s6 => by
    cases k with
    | zero => exact zP'.no
    | succ k =>
      unfold g_qu_readParts_L9
      rw [if_pos rfl]
      exact zP'.ret rfl
  refine zP'.ite (fun c8 => ?_) (fun c8 => ?_)
  · unfold g_qu_readParts_L91 g_ta_another
    rw [if_pos rfl]
    unfold g_ta_another_L15
    rw [p_here t5.i e53, tpH_cT t5, F5.T, F5.L, e52]
    rw [Option.bind_some]
    try dsimp +instances only
    by_cases cl : p' < σ 120 1
    · have nb := h.2.2 p' h0 cl
      rw [cT_e (p := p') h0 p' (Int.le_refl _) cl] at nb
      have n8 : ¬ (l.length + 1 < 8 ∧ cT σ p' = 59) := fun k => by omega
      have nz : ¬ cT σ p' = 0 := by omega
      rw [if_pos cl, if_pos cl, if_neg nz, if_neg n8, p_blame, if_pos e53]
      rw [Option.bind_some]
      rw [Option.bind_some]
      try dsimp +instances only
      exact (stop n _ _).imp (fun _ s k => by
        rw [k]
        exact ⟨F5.trans (frQu.of (frTa.u (Or.inr rfl))), by show zu s5 120 3 (s5 120 2) 120 3 = p'; rw [zu_e rfl, e52]⟩)
    · rw [if_neg cl, if_neg cl, if_pos rfl]
      rw [Option.bind_some]
      try dsimp +instances only
      exact (stop n _ s5).imp (fun _ s k => by
        rw [k]
        exact ⟨F5, e53, e5b.trans app_len.symm, hq5⟩)
  · unfold g_qu_readParts_L91
    refine zP'.bind (c_more t5 e53) (fun a' s6 p6 => ?_)
    obtain ⟨m0, m1, m2, m3⟩ := p6
    rw [e52, F5.L] at m1 m2 m3
    rw [F5.T] at m2 m3
    try dsimp +instances only
    by_cases cl : p' < σ 120 1
    · rw [if_pos cl]
      by_cases c59 : cT σ p' = 59
      · obtain ⟨rfl, m2b, m2c⟩ := m2 ⟨cl, c59⟩
        rw [if_pos ⟨by omega, c59⟩, ex, ← app_len (Q := Q)]
        have F6 := F5.trans (frQu.of m0)
        have t6 : tpL s6 := F6.t h (by rw [m2b]; omega)
        have hq6 : quH I (l ++ [Q]) s6 := fun i hi => by
          have k := hq5 i hi
          rw [m0 123 _ (Or.inl (by decide)), m0 124 _ (Or.inl (by decide)), m0 125 _ (Or.inl (by decide))]
          exact k
        exact (rec (by omega) s6 t6 m2c (O5.f m0 t6) m2b F6 hq6).imp (fun _ s k => k.tr F6)
      · obtain ⟨rfl, m3b⟩ := m3 ⟨cl, c59⟩
        rw [if_neg (fun k => c59 k.2)]
        exact (stop n _ s6).imp (fun _ s k => by
          rw [k]
          exact ⟨F5.trans (frQu.of m0), m3b⟩)
    · obtain ⟨rfl, rfl⟩ := m1 (by omega)
      rw [if_neg cl]
      exact (stop n _ s6).imp (fun _ s k => by
        rw [k]
        exact ⟨F5, e53, e5b.trans app_len.symm, hq5⟩)
theorem c_runP {I : Nat → Bool} {ev : Int → Int → Int} : ∀ (n m : Nat) (l : List zQy) (σ : zS), tpL σ → σ 120 3 = -1 → exOk I ev σ → l.length + m = 8 → 0 < m → quH I l σ → zP' (g_qu_readParts_L9 n 1 (l.length : Int) σ) (fun _ s => quPo I σ (runP ev (cT σ) (σ 120 1) m (σ 120 2) l) s)
  | 0, _, _, _, _, _, _, _, _, _ => zP'.no
  | n + 1, m, l, σ, h, hs, O, hl, hm, hq => by
    have h1 := h.1
    have h2 := h.2.1
    obtain ⟨m, rfl⟩ : ∃ q, m = q + 1 := ⟨m - 1, by omega⟩
    have len7 : 0 ≤ (l.length : Int) + 1 ∧ (l.length : Int) + 1 ≤ 8 := by omega
    rw [qu_eq (by omega), runP_1]
    unfold qryR
    refine zP'.bind (c_wrd swk4 h hs) (fun v s1 p1 => ?_)
    obtain ⟨p1, -⟩ := p1
    refine zP'.gd (fun _ => ?_)
    try dsimp +instances only
    have b1 := wrdR_bd (a := 4) (Ln := 36) (f := cT σ) h2.2
    have z : frQu s1 (zu s1 123 (l.length : Int) v) := frQu.u (by omega)
    have z3 : zu s1 123 (l.length : Int) v 120 3 = s1 120 3 := zu_a (by decide)
    have z2 : zu s1 123 (l.length : Int) v 120 2 = s1 120 2 := zu_a (by decide)
    have zv : zu s1 123 (l.length : Int) v 123 (l.length : Int) = v := zu_e rfl
    have zo : ∀ a j, (a ≠ 123 ∨ j ≠ (l.length : Int)) → zu s1 123 (l.length : Int) v a j = s1 a j := fun a j k => zu_c k
    generalize zu s1 123 (l.length : Int) v = s1' at z z3 z2 zv zo
    cases e1 : wrdR 4 36 (cT σ) (σ 120 1) (σ 120 2) with
    | inl q =>
      obtain ⟨f1, f3⟩ := p1.no e1
      rw [e1] at b1
      have b1 : σ 120 2 ≤ q ∧ q ≤ σ 120 1 := b1
      exact (q_t1 (by omega)).imp (fun _ t k => k.po ((frQu.of f1).trans z) (z3.trans f3))
    | inr x =>
      obtain ⟨f1, fv, fp, f3⟩ := p1.ok e1
      rw [e1] at b1
      have b1 : σ 120 2 ≤ x.2 ∧ x.2 ≤ σ 120 1 := b1
      subst fv
      have F1 := (frQu.of f1).trans z
      have t1 : tpL s1' := F1.t h (by omega)
      have W := c_sgn' (x := 32) t1 (by omega) (by decide)
      rw [F1.T, F1.L, z2, fp] at W
      dsimp only [qryV]
      unfold quT1
      refine zP'.bind W (fun u s2 p2 => ?_)
      try dsimp +instances only
      have b2 := sgnR_bd (x := 32) (f := cT σ) b1.2
      cases e2 : sgnR 32 (cT σ) (σ 120 1) x.2 with
      | inl q =>
        obtain ⟨g1, g3⟩ := p2.no e2
        rw [e2] at b2
        have b2 : x.2 ≤ q ∧ q ≤ σ 120 1 := b2
        exact (q_t2 (by omega)).imp (fun _ t k => k.po (F1.trans (frQu.of g1)) g3)
      | inr y =>
        obtain ⟨g1, -, gp, g3⟩ := p2.ok e2
        rw [e2] at b2
        have b2 : x.2 ≤ y.2 ∧ y.2 ≤ σ 120 1 := b2
        have F2 := F1.trans (frQu.of g1)
        have t2 : tpL s2 := F2.t h (by omega)
        have R := c_ranges t2 g3
        rw [F2.T, F2.L, gp] at R
        dsimp only [qryA]
        unfold quT2
        refine zP'.bind R (fun bx s3 p3 => ?_)
        obtain ⟨i1, p3⟩ := p3
        refine zP'.gd (fun _ => ?_)
        try dsimp +instances only
        have F3 := F2.trans (frQu.of i1)
        have w : frQu s3 (zu s3 124 (l.length : Int) bx) := frQu.u (by omega)
        have w3 : zu s3 124 (l.length : Int) bx 120 3 = s3 120 3 := zu_a (by decide)
        have w2 : zu s3 124 (l.length : Int) bx 120 2 = s3 120 2 := zu_a (by decide)
        have wv : zu s3 124 (l.length : Int) bx 124 (l.length : Int) = bx := zu_e rfl
        have wo : ∀ a j, (a ≠ 124 ∨ j ≠ (l.length : Int)) → zu s3 124 (l.length : Int) bx a j = s3 a j := fun a j k => zu_c k
        generalize zu s3 124 (l.length : Int) bx = s3' at w w3 w2 wv wo
        have F3' := F3.trans w
        have b3 := rngR_bd (f := cT σ) b2.2
        cases e3 : rngR (cT σ) (σ 120 1) y.2 with
        | inl q =>
          rw [e3] at b3 p3
          have b3 : y.2 ≤ q ∧ q ≤ σ 120 1 := b3
          have p3 : s3 120 3 = q := p3
          exact (q_t3 (by omega)).imp (fun _ t k => k.po F3' (w3.trans p3))
        | inr a =>
          rw [e3] at b3 p3
          obtain ⟨b3, b3', a1, a2, a3⟩ := b3
          unfold rgsR at p3
          dsimp only [qryX] at p3 ⊢
          have b4 := sgnR_bd (x := 32) (f := cT σ) b3'
          cases e4 : sgnR 32 (cT σ) (σ 120 1) a.2 with
          | inl q =>
            rw [e4] at b4 p3
            have b4 : a.2 ≤ q ∧ q ≤ σ 120 1 := b4
            have p3 : s3 120 3 = q := p3
            exact (q_t3 (by omega)).imp (fun _ t k => k.po F3' (w3.trans p3))
          | inr t =>
            rw [e4] at b4 p3
            have b4 : a.2 ≤ t.2 ∧ t.2 ≤ σ 120 1 := b4
            dsimp only [qryB] at p3 ⊢
            have b5 := rngR_bd (f := cT σ) b4.2
            cases e5 : rngR (cT σ) (σ 120 1) t.2 with
            | inl q =>
              rw [e5] at b5 p3
              have b5 : t.2 ≤ q ∧ q ≤ σ 120 1 := b5
              have p3 : s3 120 3 = q := p3
              exact (q_t3 (by omega)).imp (fun _ t k => k.po F3' (w3.trans p3))
            | inr c =>
              rw [e5] at b5 p3
              obtain ⟨b5, b5', -⟩ := b5
              obtain ⟨pb, pp, p33⟩ := p3
              have pb : bx = enc (a.1.1, a.1.2, c.1.1, c.1.2) := pb
              have pp : s3 120 2 = c.2 := pp
              dsimp only [qryY]
              have t3 : tpL s3' := F3'.t h (by omega)
              have e5' : s3' 122 5 = σ 122 5 := by
                rw [wo 122 5 (Or.inl (by decide)), i1 122 5 (Or.inl (by decide)), g1 122 5 (Or.inl (by decide)), zo 122 5 (Or.inl (by decide)), f1 122 5 (Or.inl (by decide))]
              have O3 : exOk I ev s3' := O.q F3' (CI_Qu O.1 F3' (by omega) (by rw [e5']; exact CI.cq O.1))
              have X := c_if (I := I) (ev := ev) (m := x.1) (B := (a.1.1, a.1.2, c.1.1, c.1.2)) t3 (by omega) O3
              rw [F3'.T, F3'.L, w2, pp] at X
              unfold quT3
              refine zP'.bind X (fun rw' s4 p4 => ?_)
              obtain ⟨j1, p4⟩ := p4
              refine zP'.gd (fun _ => ?_)
              try dsimp +instances only
              have F4 := F3'.trans (frQu.of j1)
              have y0 : frQu s4 (zu s4 125 (l.length : Int) rw') := frQu.u (by omega)
              have y3 : zu s4 125 (l.length : Int) rw' 120 3 = s4 120 3 := zu_a (by decide)
              have y2 : zu s4 125 (l.length : Int) rw' 120 2 = s4 120 2 := zu_a (by decide)
              have yv : zu s4 125 (l.length : Int) rw' 125 (l.length : Int) = rw' := zu_e rfl
              have yo : ∀ a j, (a ≠ 125 ∨ j ≠ (l.length : Int)) → zu s4 125 (l.length : Int) rw' a j = s4 a j := fun a j k => zu_c k
              generalize zu s4 125 (l.length : Int) rw' = s4' at y0 y3 y2 yv yo
              have F4' := F4.trans y0
              obtain ⟨d1, d2⟩ := qryR_ok (ev := ev) (f := cT σ) (L := σ 120 1) h2.1 h2.2
              have eR : qryR ev (cT σ) (σ 120 1) (σ 120 2) = qryF ev (cT σ) (σ 120 1) x.1 (a.1.1, a.1.2, c.1.1, c.1.2) c.2 := by
                unfold qryR
                rw [e1]
                dsimp only [qryV]
                rw [e2]
                dsimp only [qryA]
                rw [e3]
                dsimp only [qryX]
                rw [e4]
                dsimp only [qryB]
                rw [e5]
                rfl
              rw [eR] at d1 d2
              cases e6 : qryF ev (cT σ) (σ 120 1) x.1 (a.1.1, a.1.2, c.1.1, c.1.2) c.2 with
              | inl q =>
                have d1 := d1 q e6
                rw [e6] at p4
                have p4 : s4 120 3 = q := p4
                exact (q_t4 (by omega)).imp (fun _ t k => k.po F4' (y3.trans p4))
              | inr Q =>
                have d2 := d2 Q e6
                rw [e6] at p4
                obtain ⟨q2, q3, qb⟩ := p4
                have qm : Q.1.1 = x.1 ∧ Q.1.2.1 = (a.1.1, a.1.2, c.1.1, c.1.2) := by
                  unfold qryF at e6
                  split at e6
                  · cases k1 : wrdR 5 2 (cT σ) (σ 120 1) (c.2 + 1) with
                    | inl q =>
                      rw [k1] at e6
                      cases e6
                    | inr r =>
                      rw [k1] at e6
                      dsimp only [qryI] at e6
                      cases k2 : sgnR 32 (cT σ) (σ 120 1) r.2 with
                      | inl q =>
                        rw [k2] at e6
                        cases e6
                      | inr r2 =>
                        rw [k2] at e6
                        dsimp only [qryS] at e6
                        cases k3 : eP ev (cT σ) (σ 120 1) 700 0 0 r2.2 (fun _ => true) with
                        | inl q =>
                          rw [k3] at e6
                          cases e6
                        | inr r3 =>
                          rw [k3] at e6
                          cases e6
                          exact ⟨rfl, rfl⟩
                  · cases e6
                    exact ⟨rfl, rfl⟩
                try dsimp only
                have ex := w32_id (x := (l.length : Int) + 1) (by omega) (by omega)
                have v0 : frQu s4' (zu s4' 122 5 ((l.length : Int) + 1)) := frQu.u (Or.inr (Or.inr (Or.inr ⟨rfl, rfl⟩)))
                have v3 : zu s4' 122 5 ((l.length : Int) + 1) 120 3 = s4' 120 3 := zu_a (by decide)
                have v2 : zu s4' 122 5 ((l.length : Int) + 1) 120 2 = s4' 120 2 := zu_a (by decide)
                have v5 : zu s4' 122 5 ((l.length : Int) + 1) 122 5 = (l.length : Int) + 1 := zu_e rfl
                have vo : ∀ a j, a ≠ 122 → zu s4' 122 5 ((l.length : Int) + 1) a j = s4' a j := fun a j k => zu_a k
                unfold quT4
                rw [ex]
                generalize zu s4' 122 5 ((l.length : Int) + 1) = s5 at v0 v3 v2 v5 vo
                rw [v5]
                have F5 := F4'.trans v0
                have e52 : s5 120 2 = Q.2 := by rw [v2, y2, q2]
                have e53 : s5 120 3 = -1 := by rw [v3, y3, q3]
                have hQ0 : 0 ≤ Q.2 := Int.le_of_lt (Int.lt_of_le_of_lt h2.1 d2.1)
                have O5 : exOk I ev s5 := O.q F5 (CI_Qu O.1 F5 (by rw [e52]; exact ⟨hQ0, Int.le_trans d2.2.1 h1.2⟩) (by rw [v5]; exact len7))
                have hq5 : quH I (l ++ [Q.1]) s5 := by
                  refine quH_snoc hq (fun a i ci ha => ?_) ?_ ?_ ?_
                  · have hne : (i : Int) ≠ (l.length : Int) := fun e => Nat.ne_of_lt ci (Int.ofNat.inj e)
                    rcases ha with rfl | rfl | rfl
                    · rw [vo 123 _ (by decide), yo 123 _ (Or.inl (by decide)), j1 123 _ (Or.inl (by decide)), wo 123 _ (Or.inl (by decide)), i1 123 _ (Or.inl (by decide)), g1 123 _ (Or.inl (by decide)), zo 123 _ (Or.inr hne), f1 123 _ (Or.inl (by decide))]
                    · rw [vo 124 _ (by decide), yo 124 _ (Or.inl (by decide)), j1 124 _ (Or.inl (by decide)), wo 124 _ (Or.inr hne), i1 124 _ (Or.inl (by decide)), g1 124 _ (Or.inl (by decide)), zo 124 _ (Or.inl (by decide)), f1 124 _ (Or.inl (by decide))]
                    · rw [vo 125 _ (by decide), yo 125 _ (Or.inr hne), j1 125 _ (Or.inl (by decide)), wo 125 _ (Or.inl (by decide)), i1 125 _ (Or.inl (by decide)), g1 125 _ (Or.inl (by decide)), zo 125 _ (Or.inl (by decide)), f1 125 _ (Or.inl (by decide))]
                  · rw [vo 123 _ (by decide), yo 123 _ (Or.inl (by decide)), j1 123 _ (Or.inl (by decide)), wo 123 _ (Or.inl (by decide)), i1 123 _ (Or.inl (by decide)), g1 123 _ (Or.inl (by decide)), zv, qm.1]
                  · rw [vo 124 _ (by decide), yo 124 _ (Or.inl (by decide)), j1 124 _ (Or.inl (by decide)), wv, pb, qm.2]
                  · rw [vo 125 _ (by decide), yv]
                    exact qb
                refine c_tail (ev := ev) h F5 hQ0 d2.2.1 e52 e53 v5 O5 hq5 ((Nat.add_right_comm l.length 1 m).trans hl) (fun m0 s6 t6 k3 O6 k2 F6 hq6 => ?_)
                have IH := c_runP (I := I) (ev := ev) n m (l ++ [Q.1]) s6 t6 k3 O6 (by rw [List.length_append]; exact (Nat.add_right_comm l.length 1 m).trans hl) m0 hq6
                rw [F6.T, F6.L, k2] at IH
                exact IH
