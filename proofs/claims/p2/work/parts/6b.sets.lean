/-! SETTINGS AS A TEXT, told once for both sides -/
def bkC (c : Int → Int) : Nat → Int → Int
  | 0, _ => 0
  | n + 1, i => (if c i = 32 then 1 else 0) + bkC c n (i + 1)
theorem bkC_0 {c : Int → Int} : ∀ (n : Nat) (i : Int), 0 ≤ bkC c n i
  | 0, _ => Int.le_refl 0
  | n + 1, i => by
    show 0 ≤ (if c i = 32 then 1 else 0) + bkC c n (i + 1)
    have := bkC_0 (c := c) n (i + 1)
    split <;> omega
theorem wordG_le {c f : Int → Int} {b e : Int} : ∀ (n : Nat) (i st w : Int), 0 ≤ w → wordG c f b e n i st w ≤ w + bkC c n i
  | 0, i, st, w, h => by
    show (if wsE c f b e st i = true then w else -1) ≤ w + 0
    split <;> omega
  | n + 1, i, st, w, h => by
    show (if c i = 32 then (if wsE c f b e st i = true then w else wordG c f b e n (i + 1) (i + 1) (w + 1)) else wordG c f b e n (i + 1) st w) ≤ w + ((if c i = 32 then 1 else 0) + bkC c n (i + 1))
    have h0 := bkC_0 (c := c) n (i + 1)
    by_cases c1 : c i = 32
    · rw [if_pos c1, if_pos c1]
      split
      · omega
      · have := wordG_le (c := c) (f := f) (b := b) (e := e) n (i + 1) (i + 1) (w + 1) (by omega)
        omega
    · rw [if_neg c1, if_neg c1]
      have := wordG_le (c := c) (f := f) (b := b) (e := e) n (i + 1) st w h
      omega
theorem wordV1_le {f : Int → Int} {L p : Int} : wordV 1 39 f L p ≤ 6 := by
  have h := wordG_le (c := charC 1) (f := f) (b := p) (e := wend f L 160 p) 39 0 0 0 (Int.le_refl 0)
  have e : bkC (charC 1) 39 0 = 6 := by decide +kernel
  rw [e] at h
  exact h
def setV (w : Int) (f : Int → Int) (L p : Int) : zRd := if w = 0 then numR 2 0 99 f L p else if w = 1 then numR 2 1 99 f L p else if w = 2 then numR 2 1 12 f L p else if w = 3 then wrdR 2 14 f L p else if w = 6 then numR 4 1 1024 f L p else wrdR 3 6 f L p
def set1v (w : Int) : zRd → Sum Int ((Int × Int) × Int)
  | .inl q => .inl q
  | .inr z => .inr ((w, z.1), z.2)
def set1 (f : Int → Int) (L p : Int) : Sum Int ((Int × Int) × Int) := match wrdR 1 39 f L p with
  | .inl q => .inl q
  | .inr x => match sgnR 32 f L x.2 with
    | .inl q => .inl q
    | .inr y => set1v x.1 (setV x.1 f L y.2)
def updS (g : Int → Int) (i v : Int) : Int → Int := fun j => if j = i then v else g j
def setP (f : Int → Int) (L : Int) : Nat → Int → Int → (Int → Int) → Sum Int (Int × (Int → Int))
  | 0, p, _, _ => .inl p
  | m + 1, p, n, g => match set1 f L p with
    | .inl q => .inl q
    | .inr x => if x.2 < L then (if f x.2 = 59 then setP f L m (x.2 + 1) (n + 1) (updS g x.1.1 x.1.2) else .inl x.2) else .inr (n + 1, updS g x.1.1 x.1.2)
theorem setV_bd {w : Int} {f : Int → Int} {L p : Int} (h : p ≤ L) : rBd p L (setV w f L p) := by
  unfold setV
  repeat' split
  all_goals first
    | exact numR_bd h
    | exact wrdR_bd h
theorem set1_bd {f : Int → Int} {L p : Int} (h : p ≤ L) : (∀ q, set1 f L p = .inl q → p ≤ q ∧ q ≤ L) ∧ ∀ x, set1 f L p = .inr x → p < x.2 ∧ x.2 ≤ L ∧ 0 ≤ x.1.1 ∧ x.1.1 ≤ 6 := by
  unfold set1
  have h1 := wrdR_bd (a := 1) (Ln := 39) (f := f) h
  cases e1 : wrdR 1 39 f L p with
  | inl q =>
    rw [e1] at h1
    exact ⟨fun q' e => by cases e; exact h1, fun x e => by cases e⟩
  | inr x =>
    rw [e1] at h1
    have h1 : p ≤ x.2 ∧ x.2 ≤ L := h1
    have k1 := wrdR_ok (v := x.1) (p' := x.2) e1
    have k2 : x.1 ≤ 6 := by
      have e2 : wordV 1 39 f L p = x.1 := by
        unfold wrdR at e1
        split at e1
        · cases e1
        · exact congrArg (·.1) (Sum.inr.inj e1)
      rw [← e2]
      exact wordV1_le
    have h2 := sgnR_bd (x := 32) (f := f) h1.2
    dsimp only
    cases e2 : sgnR 32 f L x.2 with
    | inl q =>
      rw [e2] at h2
      have h2 : x.2 ≤ q ∧ q ≤ L := h2
      exact ⟨fun q' e => by cases e; omega, fun y e => by cases e⟩
    | inr y =>
      rw [e2] at h2
      have h2 : x.2 ≤ y.2 ∧ y.2 ≤ L := h2
      have k3 := sgnR_ok (v := y.1) (p' := y.2) e2
      have h3 := setV_bd (w := x.1) (f := f) h2.2
      dsimp only
      cases e3 : setV x.1 f L y.2 with
      | inl q =>
        rw [e3] at h3
        have h3 : y.2 ≤ q ∧ q ≤ L := h3
        exact ⟨fun q' e => (by dsimp only [set1v] at e; cases e; omega), fun z e => (by dsimp only [set1v] at e; cases e)⟩
      | inr z =>
        rw [e3] at h3
        have h3 : y.2 ≤ z.2 ∧ z.2 ≤ L := h3
        exact ⟨fun q' e => (by dsimp only [set1v] at e; cases e), fun z' e => by dsimp only [set1v] at e; cases e; exact ⟨by dsimp only; omega, h3.2, k1.1, k2⟩⟩
theorem setP_bd {f : Int → Int} {L : Int} : ∀ (m : Nat) (p n : Int) (g : Int → Int), p ≤ L → ∀ q, setP f L m p n g = .inl q → p ≤ q ∧ q ≤ L
  | 0, p, n, g, h, q, e => by
    cases e
    exact ⟨Int.le_refl p, h⟩
  | m + 1, p, n, g, h, q, e => by
    unfold setP at e
    obtain ⟨b1, b2⟩ := set1_bd (f := f) h
    cases e1 : set1 f L p with
    | inl q' =>
      rw [e1] at e
      cases e
      exact b1 _ e1
    | inr x =>
      rw [e1] at e
      dsimp only at e
      have b := b2 x e1
      split at e
      · split at e
        · have := setP_bd m (x.2 + 1) (n + 1) _ (by omega) q e
          omega
        · cases e
          omega
      · cases e
/-! the class -/
def frSe (σ s : zS) : Prop := ∀ a j, (a ≠ 120 ∨ (j ≠ 2 ∧ j ≠ 3)) → a ≠ 119 → s a j = σ a j
theorem frSe.of {σ s : zS} (h : frTa σ s) : frSe σ s := fun a j k _ => h a j k
theorem frSe.trans {σ s t : zS} (h1 : frSe σ s) (h2 : frSe s t) : frSe σ t := fun a j k1 k2 => (h2 a j k1 k2).trans (h1 a j k1 k2)
theorem c_setV {w : Int} {σ : zS} (h : tpL σ) (hs : σ 120 3 = -1) : zP' (g_se_readValue w σ) (cPo σ (setV w (cT σ) (σ 120 1) (σ 120 2))) := by
  have pass : ∀ {x : Option (Int × zS)} {r : zRd}, zP' x (cPo σ r) → zP' (x.bind fun o => some (o.1, o.2)) (cPo σ r) := fun hx => zP'.bind hx (fun v s p => zP'.ret p)
  unfold g_se_readValue setV
  refine zP'.ite (fun c => ?_) (fun c => ?_)
  · rw [if_pos c]
    exact pass (c_num h hs (by decide))
  rw [if_neg c]
  refine zP'.ite (fun c => ?_) (fun c => ?_)
  · rw [if_pos c]
    exact pass (c_num h hs (by decide))
  rw [if_neg c]
  refine zP'.ite (fun c => ?_) (fun c => ?_)
  · rw [if_pos c]
    exact pass (c_num h hs (by decide))
  rw [if_neg c]
  refine zP'.ite (fun c => ?_) (fun c => ?_)
  · rw [if_pos c]
    exact pass ((c_wrd swk2 h hs).imp (fun _ _ p => p.1))
  rw [if_neg c]
  refine zP'.ite (fun c => ?_) (fun c => ?_)
  · rw [if_pos c]
    exact pass (c_num h hs (by decide))
  rw [if_neg c]
  exact pass ((c_wrd swk3 h hs).imp (fun _ _ p => p.1))
theorem c_setV0 {w : Int} {σ : zS} (hs : σ 120 3 ≠ -1) : zP' (g_se_readValue w σ) (fun _ s => s = σ) := by
  have pass : ∀ {x : Option (Int × zS)}, zP' x (fun _ s => s = σ) → zP' (x.bind fun o => some (o.1, o.2)) (fun _ s => s = σ) := fun hx => zP'.bind hx (fun v s p => zP'.ret p)
  unfold g_se_readValue
  refine zP'.ite (fun c => pass (p_number0 hs (by decide))) (fun c => ?_)
  refine zP'.ite (fun c => pass (p_number0 hs (by decide))) (fun c => ?_)
  refine zP'.ite (fun c => pass (p_number0 hs (by decide))) (fun c => ?_)
  refine zP'.ite (fun c => pass ((p_word0 swk2 hs).imp (fun _ _ p => p.1))) (fun c => ?_)
  refine zP'.ite (fun c => pass (p_number0 hs (by decide))) (fun c => ?_)
  exact pass ((p_word0 swk3 hs).imp (fun _ _ p => p.1))
theorem c_become {w v : Int} {σ : zS} : zP' (g_se_become 118 w v σ) (fun _ s => (0 ≤ w ∧ w < 7 → s = zu σ 119 w v) ∧ (¬ (0 ≤ w ∧ w < 7) → s = σ)) := by
  unfold g_se_become
  refine zP'.ite (fun c => zP'.ret ⟨fun h => by omega, fun _ => rfl⟩) (fun c => ?_)
  refine zP'.ite (fun c2 => zP'.ret ⟨fun h => by omega, fun _ => rfl⟩) (fun c2 => ?_)
  rw [if_pos (by omega)]
  exact zP'.ret ⟨fun _ => rfl, fun h => absurd ⟨by omega, by omega⟩ h⟩
theorem c_become' {w v : Int} {σ : zS} : zP' (g_se_become 118 w v σ) (fun _ s => ∀ a j, a ≠ 119 → s a j = σ a j) := c_become.imp (fun _ s p a j k => by
  by_cases c : 0 ≤ w ∧ w < 7
  · rw [p.1 c, zu_a k]
  · rw [p.2 c])
/-- behind a fault: the part's rest, and the end -/
theorem c_set0v {w n : Int} {k : Nat} {σ : zS} (hs : σ 120 3 ≠ -1) : zP' ((g_se_readValue w σ).bind fun o_36 => (g_se_become 118 w o_36.1 o_36.2).bind fun o_39 => (g_ta_another 1 o_39.2).bind fun o_44 => (g_se_readParts_L4 k) n o_44.1 o_44.2) (fun _ s => frSe σ s ∧ s 120 3 = σ 120 3) := by
  refine zP'.bind (c_setV0 hs) (fun v s p => ?_)
  subst p
  try dsimp +instances only
  refine zP'.bind c_become' (fun _ s1 p1 => ?_)
  have e3 : s1 120 3 = s 120 3 := p1 120 3 (by decide)
  try dsimp +instances only
  rw [p_another0 (by rw [e3]; exact hs)]
  rw [Option.bind_some]
  try dsimp +instances only
  cases k with
  | zero => exact zP'.no
  | succ k =>
    unfold g_se_readParts_L4
    rw [if_pos rfl]
    exact zP'.ret ⟨fun a j _ k2 => p1 a j k2, e3⟩
theorem c_set0 {w n : Int} {k : Nat} {σ : zS} (hs : σ 120 3 ≠ -1) : zP' ((g_ta_wants 32 σ).bind fun o_26 => (g_se_readValue w o_26.2).bind fun o_36 => (g_se_become 118 w o_36.1 o_36.2).bind fun o_39 => (g_ta_another 1 o_39.2).bind fun o_44 => (g_se_readParts_L4 k) n o_44.1 o_44.2) (fun _ s => frSe σ s ∧ s 120 3 = σ 120 3) := by
  rw [p_wants0 hs (by decide)]
  rw [Option.bind_some]
  try dsimp +instances only
  exact c_set0v hs
def sePo (σ : zS) (r : Sum Int (Int × (Int → Int))) (v : Int) (s : zS) : Prop := frSe σ s ∧ match r with
  | .inl q => s 120 3 = q
  | .inr x => v = x.1 ∧ s 120 3 = -1 ∧ ∀ j, 0 ≤ j → j < 7 → s 119 j = x.2 j
theorem setP_1 {f : Int → Int} {L : Int} {m : Nat} {p n : Int} {g : Int → Int} : setP f L (m + 1) p n g = match set1 f L p with
    | .inl q => .inl q
    | .inr x => if x.2 < L then (if f x.2 = 59 then setP f L m (x.2 + 1) (n + 1) (updS g x.1.1 x.1.2) else .inl x.2) else .inr (n + 1, updS g x.1.1 x.1.2) := rfl
theorem c_parts : ∀ (n m : Nat) (x : Int) (g : Int → Int) (σ : zS), tpL σ → σ 120 3 = -1 → 0 ≤ x → 2 * x ≤ σ 120 2 → σ 120 1 - σ 120 2 < (m : Int) → (∀ j, 0 ≤ j → j < 7 → σ 119 j = g j) → zP' (g_se_readParts_L4 n x 1 σ) (sePo σ (setP (cT σ) (σ 120 1) m (σ 120 2) x g))
  | 0, _, _, _, _, _, _, _, _, _, _ => zP'.no
  | n + 1, m, x, g, σ, h, hs, hx, hx2, hm, hg => by
    have h1 := h.1
    have h2 := h.2.1
    obtain ⟨m, rfl⟩ : ∃ q, m = q + 1 := ⟨m - 1, by omega⟩
    have ex := w32_id (x := x + 1) (by omega) (by omega)
    unfold g_se_readParts_L4
    rw [if_neg (by decide), if_neg (by omega), setP_1]
    unfold set1
    refine zP'.bind (c_wrd swk1 h hs) (fun w s1 p1 => ?_)
    obtain ⟨p1, pw⟩ := p1
    try dsimp +instances only
    have r1 := wrdR_bd (a := 1) (Ln := 39) (f := cT σ) h2.2
    cases e1 : wrdR 1 39 (cT σ) (σ 120 1) (σ 120 2) with
    | inl q =>
      obtain ⟨f1, f3⟩ := p1.no e1
      rw [e1] at r1
      have r1 : σ 120 2 ≤ q ∧ q ≤ σ 120 1 := r1
      exact (c_set0 (by rw [f3]; omega)).imp (fun v s k => ⟨(frSe.of f1).trans k.1, by show s 120 3 = q; rw [k.2, f3]⟩)
    | inr y =>
      obtain ⟨f1, fv, fp, f3⟩ := p1.ok e1
      rw [e1] at r1
      have r1 : σ 120 2 ≤ y.2 ∧ y.2 ≤ σ 120 1 := r1
      have k1 := wrdR_ok (v := y.1) (p' := y.2) e1
      have k2 : y.1 ≤ 6 := by
        rw [← fv, pw]
        exact wordV1_le
      have t1 : tpL s1 := h.mv f1 (by rw [fp]; omega)
      have L1 : s1 120 1 = σ 120 1 := f1 120 1 (Or.inr (by decide))
      subst fv
      dsimp only
      refine zP'.bind (c_sgn' t1 f3 (by decide)) (fun u s2 p2 => ?_)
      try dsimp +instances only
      rw [cT_f f1, L1, fp] at p2
      have r2 := sgnR_bd (x := 32) (f := cT σ) r1.2
      cases e2 : sgnR 32 (cT σ) (σ 120 1) y.2 with
      | inl q =>
        obtain ⟨g1, g3⟩ := p2.no e2
        rw [e2] at r2
        have r2 : y.2 ≤ q ∧ q ≤ σ 120 1 := r2
        exact (c_set0v (by rw [g3]; omega)).imp (fun v s k => ⟨(frSe.of (f1.trans g1)).trans k.1, by show s 120 3 = q; rw [k.2, g3]⟩)
      | inr z =>
        obtain ⟨g1, -, gp, g3⟩ := p2.ok e2
        rw [e2] at r2
        have r2 : y.2 ≤ z.2 ∧ z.2 ≤ σ 120 1 := r2
        have k3 := sgnR_ok (v := z.1) (p' := z.2) e2
        have g12 := f1.trans g1
        have t2 : tpL s2 := h.mv g12 (by rw [gp]; omega)
        have L2 : s2 120 1 = σ 120 1 := g12 120 1 (Or.inr (by decide))
        dsimp only
        refine zP'.bind (c_setV (w := y.1) t2 g3) (fun v s3 p3 => ?_)
        try dsimp +instances only
        rw [cT_f g12, L2, gp] at p3
        have r3 := setV_bd (w := y.1) (f := cT σ) r2.2
        cases e3 : setV y.1 (cT σ) (σ 120 1) z.2 with
        | inl q =>
          obtain ⟨i1, i3⟩ := p3.no e3
          rw [e3] at r3
          have r3 : z.2 ≤ q ∧ q ≤ σ 120 1 := r3
          refine zP'.bind c_become' (fun _ s4 p4 => ?_)
          have e43 : s4 120 3 = s3 120 3 := p4 120 3 (by decide)
          try dsimp +instances only
          rw [p_another0 (by rw [e43, i3]; omega)]
          rw [Option.bind_some]
          try dsimp +instances only
          cases n with
          | zero => exact zP'.no
          | succ n =>
            unfold g_se_readParts_L4
            rw [if_pos rfl]
            exact zP'.ret ⟨(frSe.of (g12.trans i1)).trans (fun a j _ kk => p4 a j kk), by show s4 120 3 = q; rw [e43, i3]⟩
        | inr t =>
          obtain ⟨i1, iv, ip, i3⟩ := p3.ok e3
          rw [e3] at r3
          have r3 : z.2 ≤ t.2 ∧ t.2 ≤ σ 120 1 := r3
          subst iv
          have g13 := g12.trans i1
          dsimp only [set1v]
          refine zP'.bind c_become (fun _ s4 p4 => ?_)
          have p4 := p4.1 ⟨k1.1, by omega⟩
          subst p4
          try dsimp +instances only
          generalize hs4 : zu s3 119 y.1 t.1 = s4
          have q4 : ∀ a j, a ≠ 119 → s4 a j = s3 a j := fun a j kk => by rw [← hs4, zu_a kk]
          have t3 : tpL s3 := h.mv g13 (by rw [ip]; omega)
          have L3 : s3 120 1 = σ 120 1 := g13 120 1 (Or.inr (by decide))
          have t4 : tpL s4 := by
            have e121 : s4 121 = s3 121 := funext (fun j => q4 121 j (by decide))
            unfold tpL
            rw [q4 120 1 (by decide), q4 120 2 (by decide), e121]
            exact t3
          have c4 : cT s4 = cT σ := by
            rw [← cT_f g13]
            funext j
            unfold cT
            rw [q4 120 1 (by decide), q4 121 j (by decide)]
          have v4 : ∀ j, 0 ≤ j → j < 7 → s4 119 j = updS g y.1 t.1 j := fun j j1 j2 => by
            unfold updS
            by_cases cj : j = y.1
            · rw [if_pos cj, ← hs4, zu_e cj]
            · rw [if_neg cj, ← hs4, zu_i cj]
              exact (g13 119 j (Or.inl (by decide))).trans (hg j j1 j2)
          have f4 : frSe σ s4 := (frSe.of g13).trans (fun a j _ kk => q4 a j kk)
          refine zP'.bind (c_more t4 (by rw [q4 120 3 (by decide)]; exact i3)) (fun v s5 p5 => ?_)
          obtain ⟨m0, m1, m2, m3⟩ := p5
          rw [q4 120 2 (by decide), q4 120 1 (by decide), ip, L3] at m1 m2 m3
          rw [c4] at m2 m3
          try dsimp +instances only
          rw [ex]
          by_cases cl : t.2 < σ 120 1
          · rw [if_pos cl]
            by_cases c59 : cT σ t.2 = 59
            · obtain ⟨rfl, m2b, m2c⟩ := m2 ⟨cl, c59⟩
              rw [if_pos c59]
              have L5 : s5 120 1 = σ 120 1 := (m0 120 1 (Or.inr (by decide))).trans ((q4 120 1 (by decide)).trans L3)
              have IH := c_parts n m (x + 1) (updS g y.1 t.1) s5 (t4.mv m0 (by rw [m2b, q4 120 1 (by decide), L3]; omega)) m2c (by omega) (by rw [m2b]; omega) (by rw [L5, m2b]; omega) (fun j j1 j2 => (m0 119 j (Or.inl (by decide))).trans (v4 j j1 j2))
              rw [cT_f m0, c4, L5, m2b] at IH
              exact IH.imp (fun v s k => ⟨(f4.trans (frSe.of m0)).trans k.1, k.2⟩)
            · obtain ⟨rfl, m3b⟩ := m3 ⟨cl, c59⟩
              rw [if_neg c59]
              cases n with
              | zero => exact zP'.no
              | succ n =>
                unfold g_se_readParts_L4
                rw [if_pos rfl]
                exact zP'.ret ⟨f4.trans (frSe.of m0), m3b⟩
          · obtain ⟨rfl, rfl⟩ := m1 (by omega)
            rw [if_neg cl]
            cases n with
            | zero => exact zP'.no
            | succ n =>
              unfold g_se_readParts_L4
              rw [if_pos rfl]
              exact zP'.ret ⟨f4, rfl, (q4 120 3 (by decide)).trans i3, v4⟩
/-! the reference -/
def stPo (σ : zS) (r : Sum Int ((Int × Int) × Int)) (b : Int) (s : zS) : Prop := frS σ s ∧ match r with
  | .inl q => b = 0 ∧ s 143 22 = q
  | .inr x => b = 1 ∧ s 143 21 = x.2 ∧ s 143 22 = σ 143 22 ∧ ∀ j, s 160 j = updS (σ 160) x.1.1 x.1.2 j
def stQ (σ : zS) (x b : Int) (s : zS) : zRd → Prop
  | .inl q => b = 0 ∧ s 143 22 = q
  | .inr z => b = 1 ∧ s 143 21 = z.2 ∧ s 143 22 = σ 143 22 ∧ ∀ j, s 160 j = updS (σ 160) x z.1 j
def spQ (r : Int) (s : zS) : Sum Int (Int × (Int → Int)) → Prop
  | .inl q => s 143 22 = q
  | .inr y => r = y.1 ∧ s 143 22 = -1 ∧ ∀ j, 0 ≤ j → j < 7 → s 160 j = y.2 j
theorem m_set111 {x hi lo w : Int} {σ : zS} (hx : 0 ≤ x ∧ x < 7) (h : tpP σ) (hs : σ 143 22 < 0) (hw : 1 ≤ w ∧ w ≤ 9) : zP' (g_m_isSetting_L111 x hi lo w σ) (fun b s => frS σ s ∧ stQ σ x b s (numR w.toNat lo hi (mT σ) (σ 143 20) (σ 143 21))) := by
  unfold g_m_isSetting_L111
  refine zP'.bind (m_num h hs hw) (fun b s p => ?_)
  obtain ⟨p1, p2⟩ := p
  try dsimp +instances only
  cases e : numR w.toNat lo hi (mT σ) (σ 143 20) (σ 143 21) with
  | inl q =>
    obtain ⟨f1, rfl, f3⟩ := p1.no e
    rw [if_neg (by decide)]
    exact zP'.ret ⟨frS.of f1, rfl, f3⟩
  | inr z =>
    obtain ⟨f1, rfl, f3, f4⟩ := p1.ok e
    rw [if_pos (by decide)]
    unfold g_m_isSetting_L119
    try dsimp +instances only
    rw [if_pos hx]
    refine zP'.ret ⟨fun a j k1 k2 => (zu_a k1).trans (f1 a j k2), rfl, (zu_a (by decide)).trans f3, (zu_a (by decide)).trans f4, fun j => ?_⟩
    unfold updS
    rw [p2 z e]
    by_cases c : j = x
    · rw [zu_e c, if_pos c]
    · rw [zu_i c, if_neg c]
      exact f1 160 j (Or.inl (by decide))
theorem m_set48 {x : Int} {a c Ln : Nat} {σ : zS} (hx : 0 ≤ x ∧ x < 7) (hw : zP' (g_m_word c σ) (fun v s => mPo σ (wrdR a Ln (mT σ) (σ 143 20) (σ 143 21)) (if v = -1 then 0 else 1) s ∧ v = wordV a Ln (mT σ) (σ 143 20) (σ 143 21))) : zP' (g_m_isSetting_L48 x c σ) (fun b s => frS σ s ∧ stQ σ x b s (wrdR a Ln (mT σ) (σ 143 20) (σ 143 21))) := by
  unfold g_m_isSetting_L48
  refine zP'.bind hw (fun v s p => ?_)
  obtain ⟨p1, p2⟩ := p
  try dsimp +instances only
  rw [zu_e rfl]
  cases e : wrdR a Ln (mT σ) (σ 143 20) (σ 143 21) with
  | inl q =>
    obtain ⟨f1, f2, f3⟩ := p1.no e
    have hv : v = -1 := Classical.byContradiction (fun hc => by rw [if_neg hc] at f2; exact absurd f2 (by decide))
    rw [hv, if_neg (by decide)]
    exact zP'.ret ⟨frS.of (f1.trans (fr3.u (by omega))), rfl, (zu_i (by decide)).trans f3⟩
  | inr z =>
    obtain ⟨f1, f2, f3, f4⟩ := p1.ok e
    have k := wrdR_ok (v := z.1) (p' := z.2) e
    have hz : v = z.1 := by
      have e1 := e
      unfold wrdR at e1
      split at e1
      · cases e1
      · rw [p2]
        exact congrArg (·.1) (Sum.inr.inj e1)
    rw [hz, if_pos k.1]
    unfold g_m_isSetting_L119
    try dsimp +instances only
    rw [if_pos hx, zu_e rfl]
    refine zP'.ret ⟨fun a' j k1 k2 => (zu_a k1).trans ((zu_c (by omega)).trans (f1 a' j k2)), rfl, ?_, ?_, fun j => ?_⟩
    · rw [zu_a (by decide), zu_i (by decide)]
      exact f3
    · rw [zu_a (by decide), zu_i (by decide)]
      exact f4
    · unfold updS
      by_cases c : j = x
      · rw [zu_e c, if_pos c]
      · rw [zu_i c, if_neg c, zu_a (by decide)]
        exact f1 160 j (Or.inl (by decide))
theorem m_set75 {x w : Int} {σ : zS} (hx : (x = 0 ∨ x = 1 ∨ x = 2 ∨ x = 6)) (hw : w = if x = 6 then 4 else 2) (h : tpP σ) (hs : σ 143 22 < 0) : zP' (g_m_isSetting_L75 x w σ) (fun b s => frS σ s ∧ stQ σ x b s (setV x (mT σ) (σ 143 20) (σ 143 21))) := by
  unfold g_m_isSetting_L75 setV
  rcases hx with rfl | rfl | rfl | rfl
  · rw [if_neg (by decide)] at hw
    subst hw
    rw [if_neg (by decide), if_pos rfl]
    unfold g_m_isSetting_L84 g_m_isSetting_L93
    rw [if_pos rfl]
    exact m_set111 (by decide) h hs (by decide)
  · rw [if_neg (by decide)] at hw
    subst hw
    rw [if_pos (by decide), if_neg (by decide), if_pos rfl]
    unfold g_m_isSetting_L84 g_m_isSetting_L93
    rw [if_neg (by decide), if_neg (by decide)]
    exact m_set111 (by decide) h hs (by decide)
  · rw [if_neg (by decide)] at hw
    subst hw
    rw [if_pos (by decide), if_neg (by decide), if_neg (by decide), if_pos rfl]
    unfold g_m_isSetting_L84
    rw [if_neg (by decide), if_pos (by decide), if_neg (by decide)]
    exact m_set111 (by decide) h hs (by decide)
  · rw [if_pos rfl] at hw
    subst hw
    rw [if_pos (by decide), if_neg (by decide), if_neg (by decide), if_neg (by decide), if_neg (by decide), if_pos rfl]
    unfold g_m_isSetting_L84
    rw [if_neg (by decide), if_pos (by decide), if_pos (by decide)]
    exact m_set111 (by decide) h hs (by decide)
theorem m_isSetting {σ : zS} (h : tpP σ) (hs : σ 143 22 < 0) : zP' (g_m_isSetting σ) (stPo σ (set1 (mT σ) (σ 143 20) (σ 143 21))) := by
  have h2 := h.2.1
  unfold g_m_isSetting set1
  refine zP'.bind (m_wrd11 h hs) (fun w s1 p1 => ?_)
  obtain ⟨p1, pw⟩ := p1
  try dsimp +instances only
  have r1 := wrdR_bd (a := 1) (Ln := 39) (f := mT σ) h2.2
  cases e1 : wrdR 1 39 (mT σ) (σ 143 20) (σ 143 21) with
  | inl q =>
    obtain ⟨f1, f2, f3⟩ := p1.no e1
    have hv : w = -1 := Classical.byContradiction (fun hc => by rw [if_neg hc] at f2; exact absurd f2 (by decide))
    rw [hv, if_pos (by decide)]
    exact zP'.ret ⟨frS.of f1, rfl, f3⟩
  | inr y =>
    obtain ⟨f1, f2, fp, f3⟩ := p1.ok e1
    rw [e1] at r1
    have r1 : σ 143 21 ≤ y.2 ∧ y.2 ≤ σ 143 20 := r1
    have k1 := wrdR_ok (v := y.1) (p' := y.2) e1
    have hz : w = y.1 := by
      have e2 := e1
      unfold wrdR at e2
      split at e2
      · cases e2
      · rw [pw]
        exact congrArg (·.1) (Sum.inr.inj e2)
    have k2 : y.1 ≤ 6 := by
      rw [← hz, pw]
      exact wordV1_le
    subst hz
    have q20 : s1 143 20 = σ 143 20 := f1 143 20 (Or.inr (by decide))
    have t1 : tpP s1 := h.mv q20 (funext (fun j => f1 159 j (Or.inl (by decide)))) (by rw [fp]; omega)
    rw [if_neg (by omega)]
    dsimp only
    refine zP'.bind (m_sgn t1 (by rw [f3]; exact hs) (by decide)) (fun b s2 p2 => ?_)
    try dsimp +instances only
    rw [mT_f f1, q20, fp] at p2
    have r2 := sgnR_bd (x := 32) (f := mT σ) r1.2
    cases e2 : sgnR 32 (mT σ) (σ 143 20) y.2 with
    | inl q =>
      obtain ⟨g1, rfl, g3⟩ := p2.no e2
      rw [if_neg (by decide)]
      exact zP'.ret ⟨frS.of (f1.trans g1), rfl, g3⟩
    | inr z =>
      obtain ⟨g1, rfl, gp, g3⟩ := p2.ok e2
      rw [e2] at r2
      have r2 : y.2 ≤ z.2 ∧ z.2 ≤ σ 143 20 := r2
      have g12 := f1.trans g1
      have q20' : s2 143 20 = σ 143 20 := g12 143 20 (Or.inr (by decide))
      have t2 : tpP s2 := h.mv q20' (funext (fun j => g12 159 j (Or.inl (by decide)))) (by rw [gp]; omega)
      have hs2 : s2 143 22 < 0 := by rw [g3, f3]; exact hs
      have e160 : s2 160 = σ 160 := funext (fun j => g12 160 j (Or.inl (by decide)))
      rw [if_pos (by decide)]
      dsimp only
      have fin : ∀ (g : Option (Int × zS)), zP' g (fun b s => frS s2 s ∧ stQ s2 y.1 b s (setV y.1 (mT s2) (s2 143 20) (s2 143 21))) → zP' g (stPo σ (set1v y.1 (setV y.1 (mT σ) (σ 143 20) z.2))) := fun g hg => hg.imp (fun b s k => by
        obtain ⟨k1, k2⟩ := k
        rw [mT_f g12, q20', gp] at k2
        cases e3 : setV y.1 (mT σ) (σ 143 20) z.2 with
        | inl q =>
          rw [e3] at k2
          exact ⟨(frS.of g12).trans k1, k2⟩
        | inr t =>
          rw [e3] at k2
          obtain ⟨n1, n2, n3, n4⟩ := k2
          rw [e160] at n4
          exact ⟨(frS.of g12).trans k1, n1, n2, by rw [n3, g3, f3], n4⟩)
      refine fin _ ?_
      by_cases c35 : 3 ≤ y.1 ∧ y.1 ≤ 5
      · rw [s_isIn_t c35.1 c35.2]
        rw [Option.bind_some]
        try dsimp +instances only
        rw [if_neg (by decide)]
        by_cases c3 : y.1 = 3
        · rw [if_neg (fun hn => hn c3)]
          have eV : setV y.1 (mT s2) (s2 143 20) (s2 143 21) = wrdR 2 14 (mT s2) (s2 143 20) (s2 143 21) := by
            unfold setV
            rw [if_neg (by omega), if_neg (by omega), if_neg (by omega), if_pos c3]
          rw [eV]
          exact m_set48 (by omega) (m_wrd12 t2 hs2)
        · rw [if_pos c3]
          have eV : setV y.1 (mT s2) (s2 143 20) (s2 143 21) = wrdR 3 6 (mT s2) (s2 143 20) (s2 143 21) := by
            unfold setV
            rw [if_neg (by omega), if_neg (by omega), if_neg (by omega), if_neg (by omega), if_neg (by omega)]
          rw [eV]
          exact m_set48 (by omega) (m_wrd13 t2 hs2)
      · rw [s_isIn_f (by omega)]
        rw [Option.bind_some]
        try dsimp +instances only
        rw [if_pos rfl]
        by_cases c6 : y.1 = 6
        · rw [if_neg (fun hn => hn c6)]
          exact m_set75 (by omega) (by rw [if_pos c6]) t2 hs2
        · rw [if_pos c6]
          exact m_set75 (by omega) (by rw [if_neg c6]) t2 hs2
/-- the loop over the parts, to its end -/
theorem m_parts {Q : Int → zS → Prop} {σ0 : zS} : ∀ (n m : Nat) (x : Int) (g : Int → Int) (σ : zS), tpP σ → σ 143 22 = -1 → 0 ≤ x → 2 * x ≤ σ 143 21 → σ 143 20 - σ 143 21 < (m : Int) → frS σ0 σ → (∀ j, 0 ≤ j → j < 7 → σ 160 j = g j) → (∀ r s, frS σ0 s → spQ r s (setP (mT σ) (σ 143 20) m (σ 143 21) x g) → ∀ k, zP' (g_m_settings_L37 k r 0 s) Q) → zP' (g_m_settings_L37 n x 1 σ) Q
  | 0, _, _, _, _, _, _, _, _, _, _, _, _ => zP'.no
  | n + 1, m, x, g, σ, h, hs, hx, hx2, hm, hf, hg, hQ => by
    have h1 := h.1
    have h2 := h.2.1
    obtain ⟨m, rfl⟩ : ∃ q, m = q + 1 := ⟨m - 1, by omega⟩
    have ex := w32_id (x := x + 1) (by omega) (by omega)
    unfold g_m_settings_L37
    rw [if_neg (by decide)]
    rw [setP_1] at hQ
    refine zP'.bind (m_isSetting h (by omega)) (fun b s1 p1 => ?_)
    try dsimp +instances only
    obtain ⟨f1, p1⟩ := p1
    obtain ⟨b1, b2⟩ := set1_bd (f := mT σ) h2.2
    rw [ex]
    cases e1 : set1 (mT σ) (σ 143 20) (σ 143 21) with
    | inl q =>
      rw [e1] at p1 hQ
      obtain ⟨rfl, p2⟩ := p1
      rw [if_pos rfl]
      unfold g_m_settings_L69
      rw [if_pos rfl]
      exact hQ (x + 1) s1 (hf.trans f1) p2 n
    | inr y =>
      rw [e1] at p1 hQ
      obtain ⟨rfl, p2, p3, p4⟩ := p1
      obtain ⟨y1, y2, y3, y4⟩ := b2 y e1
      have q20 : s1 143 20 = σ 143 20 := f1 143 20 (by decide) (Or.inr (by decide))
      have q159 : s1 159 = σ 159 := funext (fun j => f1 159 j (by decide) (Or.inl (by decide)))
      have t1 : tpP s1 := h.mv q20 q159 (by rw [p2]; omega)
      have eT : mT s1 = mT σ := by
        funext j
        unfold mT
        rw [q20, q159]
      have e160 : ∀ j, 0 ≤ j → j < 7 → s1 160 j = updS g y.1.1 y.1.2 j := fun j j1 j2 => by
        rw [p4]
        unfold updS
        rw [hg j j1 j2]
      rw [if_neg (by decide), p2, q20]
      dsimp only at hQ
      by_cases cl : y.2 < σ 143 20
      · rw [if_pos cl] at hQ
        rw [if_pos (by omega)]
        unfold g_m_settings_L69
        rw [if_neg (by decide)]
        refine zP'.bind (m_sgn t1 (by omega) (by decide)) (fun b s2 k2 => ?_)
        try dsimp +instances only
        rw [eT, q20, p2] at k2
        by_cases c59 : mT σ y.2 = 59
        · rw [if_pos c59] at hQ
          have e2 : sgnR 59 (mT σ) (σ 143 20) y.2 = .inr (59, y.2 + 1) := if_pos ⟨cl, c59⟩
          obtain ⟨g1, rfl, gp, g3⟩ := k2.ok e2
          have gp : s2 143 21 = y.2 + 1 := gp
          have q20' : s2 143 20 = σ 143 20 := (g1 143 20 (Or.inr (by decide))).trans q20
          refine m_parts n m (x + 1) (updS g y.1.1 y.1.2) s2 (t1.mv (g1 143 20 (Or.inr (by decide))) (funext (fun j => g1 159 j (Or.inl (by decide)))) (by rw [gp, q20]; omega)) (by rw [g3, p3]; exact hs) (by omega) (by rw [gp]; omega) (by rw [q20', gp]; omega) ((hf.trans f1).trans (frS.of g1)) (fun j j1 j2 => (g1 160 j (Or.inl (by decide))).trans (e160 j j1 j2)) ?_
          rw [mT_f g1, eT, q20', gp]
          exact hQ
        · rw [if_neg c59] at hQ
          have e2 : sgnR 59 (mT σ) (σ 143 20) y.2 = .inl y.2 := if_neg (fun hn => c59 hn.2)
          obtain ⟨g1, rfl, g3⟩ := k2.no e2
          exact hQ (x + 1) s2 ((hf.trans f1).trans (frS.of g1)) g3 n
      · rw [if_neg cl] at hQ
        rw [if_neg (by omega)]
        exact hQ (x + 1) s1 (hf.trans f1) ⟨rfl, by rw [p3]; exact hs, e160⟩ n
