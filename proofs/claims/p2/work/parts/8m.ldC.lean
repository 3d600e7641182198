/-! LOADING: a text of boxes, read by both sides -/
theorem c_stN {n : Nat} {w lo hi p0 L : Int} {f : Int → Int} {σ : zS} {β : Type} {K : Int × zS → Option (β × zS)} {R : β → zS → Prop} (h : tpL σ) (hs : σ 120 3 = -1) (eT : cT σ = f) (eL : σ 120 1 = L) (ep : σ 120 2 = p0) (hn : w.toNat = n) (hw : 0 ≤ w ∧ w ≤ 9) (bad : ∀ q v s, numR n lo hi f L p0 = .inl q → frTa σ s → s 120 3 = q → q ≠ -1 → zP' (K (v, s)) R) (good : ∀ x s, numR n lo hi f L p0 = .inr x → frTa σ s → tpL s → s 120 3 = -1 → cT s = f → s 120 1 = L → s 120 2 = x.2 → zP' (K (x.1, s)) R) : zP' ((g_ta_number w lo hi σ).bind K) R := by
  have P := c_num (w := w) (lo := lo) (hi := hi) h hs hw
  rw [hn, eT, eL, ep] at P
  have h21 := h.2.1
  have hb := numR_bd (w := n) (lo := lo) (hi := hi) (f := f) (L := L) (p := p0) (by omega)
  refine zP'.bind P (fun v s g => ?_)
  cases e : numR n lo hi f L p0 with
  | inl q =>
    obtain ⟨g1, g2⟩ := cPo.no g e
    rw [e] at hb
    have hb : p0 ≤ q ∧ q ≤ L := hb
    exact bad q v s e g1 g2 (by omega)
  | inr x =>
    obtain ⟨g1, rfl, g3, g4⟩ := cPo.ok g e
    rw [e] at hb
    have hb : p0 ≤ x.2 ∧ x.2 ≤ L := hb
    exact good x s e g1 (h.mv g1 (by omega)) g4 ((cT_f g1).trans eT) ((g1 120 1 (Or.inr (by decide))).trans eL) g3
theorem c_stS {x p0 L : Int} {f : Int → Int} {σ : zS} {β : Type} {K : Unit × zS → Option (β × zS)} {R : β → zS → Prop} (h : tpL σ) (hs : σ 120 3 = -1) (eT : cT σ = f) (eL : σ 120 1 = L) (ep : σ 120 2 = p0) (hx : 1 ≤ x) (bad : ∀ q s, sgnR x f L p0 = .inl q → frTa σ s → s 120 3 = q → q ≠ -1 → zP' (K ((), s)) R) (good : ∀ y s, sgnR x f L p0 = .inr y → frTa σ s → tpL s → s 120 3 = -1 → cT s = f → s 120 1 = L → s 120 2 = y.2 → zP' (K ((), s)) R) : zP' ((g_ta_wants x σ).bind K) R := by
  have P := c_sgn' (x := x) h hs hx
  rw [eT, eL, ep] at P
  have h21 := h.2.1
  have hb := sgnR_bd (x := x) (f := f) (L := L) (p := p0) (by omega)
  refine zP'.bind P (fun v s g => ?_)
  cases e : sgnR x f L p0 with
  | inl q =>
    obtain ⟨g1, g2⟩ := cPo.no g e
    rw [e] at hb
    have hb : p0 ≤ q ∧ q ≤ L := hb
    exact bad q s e g1 g2 (by omega)
  | inr y =>
    obtain ⟨g1, -, g3, g4⟩ := cPo.ok g e
    rw [e] at hb
    have hb : p0 ≤ y.2 ∧ y.2 ≤ L := hb
    exact good y s e g1 (h.mv g1 (by omega)) g4 ((cT_f g1).trans eT) ((g1 120 1 (Or.inr (by decide))).trans eL) g3
theorem m_stN {n : Nat} {w lo hi p0 L : Int} {f : Int → Int} {σ : zS} {β : Type} {K : Int × zS → Option (β × zS)} {R : β → zS → Prop} (h : tpP σ) (hs : σ 143 22 < 0) (eT : mT σ = f) (eL : σ 143 20 = L) (ep : σ 143 21 = p0) (hn : w.toNat = n) (hw : 1 ≤ w ∧ w ≤ 9) (bad : ∀ q s, numR n lo hi f L p0 = .inl q → fr3 σ s → s 143 22 = q → zP' (K (0, s)) R) (good : ∀ x s, numR n lo hi f L p0 = .inr x → fr3 σ s → tpP s → s 143 22 = σ 143 22 → mT s = f → s 143 20 = L → s 143 21 = x.2 → s 143 23 = x.1 → zP' (K (1, s)) R) : zP' ((g_m_isNumber w lo hi σ).bind K) R := by
  have P := m_num (w := w) (lo := lo) (hi := hi) h hs hw
  rw [hn, eT, eL, ep] at P
  have h21 := h.2.1
  have hb := numR_bd (w := n) (lo := lo) (hi := hi) (f := f) (L := L) (p := p0) (by omega)
  refine zP'.bind P (fun b s g => ?_)
  obtain ⟨g, gv⟩ := g
  cases e : numR n lo hi f L p0 with
  | inl q =>
    obtain ⟨g1, rfl, g2⟩ := mPo.no g e
    exact bad q s e g1 g2
  | inr x =>
    obtain ⟨g1, rfl, g3, g4⟩ := mPo.ok g e
    rw [e] at hb
    have hb : p0 ≤ x.2 ∧ x.2 ≤ L := hb
    exact good x s e g1 (h.mv (g1 143 20 (Or.inr (by decide))) (funext (fun j => g1 159 j (Or.inl (by decide)))) (by omega)) g4 ((mT_f g1).trans eT) ((g1 143 20 (Or.inr (by decide))).trans eL) g3 (gv x e)
theorem m_stS {x p0 L : Int} {f : Int → Int} {σ : zS} {β : Type} {K : Int × zS → Option (β × zS)} {R : β → zS → Prop} (h : tpP σ) (hs : σ 143 22 < 0) (eT : mT σ = f) (eL : σ 143 20 = L) (ep : σ 143 21 = p0) (hx : 1 ≤ x) (bad : ∀ q s, sgnR x f L p0 = .inl q → fr3 σ s → s 143 22 = q → zP' (K (0, s)) R) (good : ∀ y s, sgnR x f L p0 = .inr y → fr3 σ s → tpP s → s 143 22 = σ 143 22 → mT s = f → s 143 20 = L → s 143 21 = y.2 → zP' (K (1, s)) R) : zP' ((g_m_isSign x σ).bind K) R := by
  have P := m_sgn (x := x) h hs hx
  rw [eT, eL, ep] at P
  have h21 := h.2.1
  have hb := sgnR_bd (x := x) (f := f) (L := L) (p := p0) (by omega)
  refine zP'.bind P (fun b s g => ?_)
  cases e : sgnR x f L p0 with
  | inl q =>
    obtain ⟨g1, rfl, g2⟩ := mPo.no g e
    exact bad q s e g1 g2
  | inr y =>
    obtain ⟨g1, rfl, g3, g4⟩ := mPo.ok g e
    rw [e] at hb
    have hb : p0 ≤ y.2 ∧ y.2 ≤ L := hb
    exact good y s e g1 (h.mv (g1 143 20 (Or.inr (by decide))) (funext (fun j => g1 159 j (Or.inl (by decide)))) (by omega)) g4 ((mT_f g1).trans eT) ((g1 143 20 (Or.inr (by decide))).trans eL) g3
def sbd {β : Type} (x : zRd) (k : Int × Int → Sum Int β) : Sum Int β := match x with
  | .inl q => .inl q
  | .inr a => k a
theorem sbd_l {β : Type} {x : zRd} {q : Int} {k : Int × Int → Sum Int β} (h : x = .inl q) : sbd x k = .inl q := by
  rw [h]
  rfl
theorem sbd_r {β : Type} {x : zRd} {a : Int × Int} {k : Int × Int → Sum Int β} (h : x = .inr a) : sbd x k = k a := by
  rw [h]
  rfl
/-- a box as regions are spelled -/
def bxP (f : Int → Int) (L p : Int) : Sum Int (Bx × Int) := sbd (numR 2 0 31 f L p) fun a => sbd (sgnR 45 f L a.2) fun b => sbd (numR 2 a.1 31 f L b.2) fun c => sbd (sgnR 44 f L c.2) fun d => sbd (numR 2 0 31 f L d.2) fun e => sbd (sgnR 45 f L e.2) fun g => sbd (numR 2 e.1 31 f L g.2) fun h => .inr ((a.1, c.1, e.1, h.1), h.2)
theorem pb0_8 {x0 x1 y0 y1 : Int} {σ : zS} (hs : σ 120 3 ≠ -1) : zP' ((g_ta_isSound σ).bind fun o_56 => if o_56.1 = 0 then some (-1, o_56.2) else (g_b_of x0 x1 y0 y1 o_56.2).bind fun o_67 => some (o_67.1, o_67.2)) (fun _ s => s = σ) := by
  rw [p_isSound, if_neg hs]
  rw [Option.bind_some]
  try dsimp +instances only
  rw [if_pos rfl]
  exact zP'.ret rfl
theorem pb0_7 {x0 x1 y0 : Int} {σ : zS} (hs : σ 120 3 ≠ -1) : zP' ((g_ta_number 2 y0 31 σ).bind fun o_50 => (g_ta_isSound o_50.2).bind fun o_56 => if o_56.1 = 0 then some (-1, o_56.2) else (g_b_of x0 x1 y0 o_50.1 o_56.2).bind fun o_67 => some (o_67.1, o_67.2)) (fun _ s => s = σ) := by
  refine zP'.bind (p_number0 hs (by decide)) (fun v s p => ?_)
  try dsimp +instances only
  rw [p]
  exact pb0_8 hs
theorem pb0_6 {x0 x1 y0 : Int} {σ : zS} (hs : σ 120 3 ≠ -1) : zP' ((g_ta_wants 45 σ).bind fun o_42 => (g_ta_number 2 y0 31 o_42.2).bind fun o_50 => (g_ta_isSound o_50.2).bind fun o_56 => if o_56.1 = 0 then some (-1, o_56.2) else (g_b_of x0 x1 y0 o_50.1 o_56.2).bind fun o_67 => some (o_67.1, o_67.2)) (fun _ s => s = σ) := by
  rw [p_wants0 hs (by decide)]
  rw [Option.bind_some]
  try dsimp +instances only
  exact pb0_7 hs
theorem pb0_5 {x0 x1 : Int} {σ : zS} (hs : σ 120 3 ≠ -1) : zP' ((g_ta_number 2 0 31 σ).bind fun o_35 => (g_ta_wants 45 o_35.2).bind fun o_42 => (g_ta_number 2 o_35.1 31 o_42.2).bind fun o_50 => (g_ta_isSound o_50.2).bind fun o_56 => if o_56.1 = 0 then some (-1, o_56.2) else (g_b_of x0 x1 o_35.1 o_50.1 o_56.2).bind fun o_67 => some (o_67.1, o_67.2)) (fun _ s => s = σ) := by
  refine zP'.bind (p_number0 hs (by decide)) (fun v s p => ?_)
  try dsimp +instances only
  rw [p]
  exact pb0_6 hs
theorem pb0_4 {x0 x1 : Int} {σ : zS} (hs : σ 120 3 ≠ -1) : zP' ((g_ta_wants 44 σ).bind fun o_27 => (g_ta_number 2 0 31 o_27.2).bind fun o_35 => (g_ta_wants 45 o_35.2).bind fun o_42 => (g_ta_number 2 o_35.1 31 o_42.2).bind fun o_50 => (g_ta_isSound o_50.2).bind fun o_56 => if o_56.1 = 0 then some (-1, o_56.2) else (g_b_of x0 x1 o_35.1 o_50.1 o_56.2).bind fun o_67 => some (o_67.1, o_67.2)) (fun _ s => s = σ) := by
  rw [p_wants0 hs (by decide)]
  rw [Option.bind_some]
  try dsimp +instances only
  exact pb0_5 hs
theorem pb0_3 {x0 : Int} {σ : zS} (hs : σ 120 3 ≠ -1) : zP' ((g_ta_number 2 x0 31 σ).bind fun o_20 => (g_ta_wants 44 o_20.2).bind fun o_27 => (g_ta_number 2 0 31 o_27.2).bind fun o_35 => (g_ta_wants 45 o_35.2).bind fun o_42 => (g_ta_number 2 o_35.1 31 o_42.2).bind fun o_50 => (g_ta_isSound o_50.2).bind fun o_56 => if o_56.1 = 0 then some (-1, o_56.2) else (g_b_of x0 o_20.1 o_35.1 o_50.1 o_56.2).bind fun o_67 => some (o_67.1, o_67.2)) (fun _ s => s = σ) := by
  refine zP'.bind (p_number0 hs (by decide)) (fun v s p => ?_)
  try dsimp +instances only
  rw [p]
  exact pb0_4 hs
theorem pb0_2 {x0 : Int} {σ : zS} (hs : σ 120 3 ≠ -1) : zP' ((g_ta_wants 45 σ).bind fun o_12 => (g_ta_number 2 x0 31 o_12.2).bind fun o_20 => (g_ta_wants 44 o_20.2).bind fun o_27 => (g_ta_number 2 0 31 o_27.2).bind fun o_35 => (g_ta_wants 45 o_35.2).bind fun o_42 => (g_ta_number 2 o_35.1 31 o_42.2).bind fun o_50 => (g_ta_isSound o_50.2).bind fun o_56 => if o_56.1 = 0 then some (-1, o_56.2) else (g_b_of x0 o_20.1 o_35.1 o_50.1 o_56.2).bind fun o_67 => some (o_67.1, o_67.2)) (fun _ s => s = σ) := by
  rw [p_wants0 hs (by decide)]
  rw [Option.bind_some]
  try dsimp +instances only
  exact pb0_3 hs
theorem pb0 {σ : zS} (hs : σ 120 3 ≠ -1) : zP' (g_ta_plainBox σ) (fun _ s => s = σ) := by
  unfold g_ta_plainBox
  refine zP'.bind (p_number0 hs (by decide)) (fun v s p => ?_)
  try dsimp +instances only
  rw [p]
  exact pb0_2 hs
theorem c_plainBox {σ : zS} (h : tpL σ) (hs : σ 120 3 = -1) : zP' (g_ta_plainBox σ) (fun v s => bxPo σ (bxP (cT σ) (σ 120 1) (σ 120 2)) v s ∧ ∀ x, bxP (cT σ) (σ 120 1) (σ 120 2) = .inr x → bOk x.1 ∧ σ 120 2 ≤ x.2 ∧ x.2 ≤ σ 120 1) := by
  have bad : ∀ (q : Int) (s : zS) (v : Int), frTa σ s → s 120 3 = q → bxP (cT σ) (σ 120 1) (σ 120 2) = .inl q → bxPo σ (bxP (cT σ) (σ 120 1) (σ 120 2)) v s ∧ ∀ x, bxP (cT σ) (σ 120 1) (σ 120 2) = .inr x → bOk x.1 ∧ σ 120 2 ≤ x.2 ∧ x.2 ≤ σ 120 1 := fun q s v f e r => by
    rw [r]
    exact ⟨⟨f, e⟩, fun x k => by cases k⟩
  unfold g_ta_plainBox
  refine c_stN h hs rfl rfl rfl (n := 2) rfl (by decide) (fun q v s r1 f k n => ?_) (fun a s1 r1 f1 t1 z1 m1 l1 p1 => ?_)
  · try dsimp +instances only
    exact (pb0_2 (by rw [k]; exact n)).imp (fun v' s' e => bad q s' v' (by rw [e]; exact f) (by rw [e]; exact k) (by unfold bxP; rw [sbd_l r1]))
  try dsimp +instances only
  have F1 : frTa σ s1 := f1
  refine c_stS t1 z1 m1 l1 p1 (by decide) (fun q s r2 f k n => ?_) (fun b s2 r2 f2 t2 z2 m2 l2 p2 => ?_)
  · try dsimp +instances only
    exact (pb0_3 (by rw [k]; exact n)).imp (fun v' s' e => bad q s' v' (by rw [e]; exact F1.trans f) (by rw [e]; exact k) (by unfold bxP; rw [sbd_r r1, sbd_l r2]))
  try dsimp +instances only
  have F2 : frTa σ s2 := F1.trans f2
  refine c_stN t2 z2 m2 l2 p2 (n := 2) rfl (by decide) (fun q v s r3 f k n => ?_) (fun c s3 r3 f3 t3 z3 m3 l3 p3 => ?_)
  · try dsimp +instances only
    exact (pb0_4 (by rw [k]; exact n)).imp (fun v' s' e => bad q s' v' (by rw [e]; exact F2.trans f) (by rw [e]; exact k) (by unfold bxP; rw [sbd_r r1, sbd_r r2, sbd_l r3]))
  try dsimp +instances only
  have F3 : frTa σ s3 := F2.trans f3
  refine c_stS t3 z3 m3 l3 p3 (by decide) (fun q s r4 f k n => ?_) (fun d s4 r4 f4 t4 z4 m4 l4 p4 => ?_)
  · try dsimp +instances only
    exact (pb0_5 (by rw [k]; exact n)).imp (fun v' s' e => bad q s' v' (by rw [e]; exact F3.trans f) (by rw [e]; exact k) (by unfold bxP; rw [sbd_r r1, sbd_r r2, sbd_r r3, sbd_l r4]))
  try dsimp +instances only
  have F4 : frTa σ s4 := F3.trans f4
  refine c_stN t4 z4 m4 l4 p4 (n := 2) rfl (by decide) (fun q v s r5 f k n => ?_) (fun e s5 r5 f5 t5 z5 m5 l5 p5 => ?_)
  · try dsimp +instances only
    exact (pb0_6 (by rw [k]; exact n)).imp (fun v' s' e => bad q s' v' (by rw [e]; exact F4.trans f) (by rw [e]; exact k) (by unfold bxP; rw [sbd_r r1, sbd_r r2, sbd_r r3, sbd_r r4, sbd_l r5]))
  try dsimp +instances only
  have F5 : frTa σ s5 := F4.trans f5
  refine c_stS t5 z5 m5 l5 p5 (by decide) (fun q s r6 f k n => ?_) (fun g s6 r6 f6 t6 z6 m6 l6 p6 => ?_)
  · try dsimp +instances only
    exact (pb0_7 (by rw [k]; exact n)).imp (fun v' s' e => bad q s' v' (by rw [e]; exact F5.trans f) (by rw [e]; exact k) (by unfold bxP; rw [sbd_r r1, sbd_r r2, sbd_r r3, sbd_r r4, sbd_r r5, sbd_l r6]))
  try dsimp +instances only
  have F6 : frTa σ s6 := F5.trans f6
  refine c_stN t6 z6 m6 l6 p6 (n := 2) rfl (by decide) (fun q v s r7 f k n => ?_) (fun h7 s7 r7 f7 t7 z7 m7 l7 p7 => ?_)
  · try dsimp +instances only
    exact (pb0_8 (by rw [k]; exact n)).imp (fun v' s' e => bad q s' v' (by rw [e]; exact F6.trans f) (by rw [e]; exact k) (by unfold bxP; rw [sbd_r r1, sbd_r r2, sbd_r r3, sbd_r r4, sbd_r r5, sbd_r r6, sbd_l r7]))
  try dsimp +instances only
  have F7 : frTa σ s7 := F6.trans f7
  have rr : bxP (cT σ) (σ 120 1) (σ 120 2) = .inr ((a.1, c.1, e.1, h7.1), h7.2) := by
    unfold bxP
    rw [sbd_r r1, sbd_r r2, sbd_r r3, sbd_r r4, sbd_r r5, sbd_r r6, sbd_r r7]
  obtain ⟨a1, a2, a3⟩ := numR_ok (v := a.1) (p' := a.2) r1
  obtain ⟨b1, b2, b3⟩ := sgnR_ok (v := b.1) (p' := b.2) r2
  obtain ⟨c1, c2, c3⟩ := numR_ok (v := c.1) (p' := c.2) r3
  obtain ⟨d1, d2, d3⟩ := sgnR_ok (v := d.1) (p' := d.2) r4
  obtain ⟨e1, e2, e3⟩ := numR_ok (v := e.1) (p' := e.2) r5
  obtain ⟨g1, g2, g3⟩ := sgnR_ok (v := g.1) (p' := g.2) r6
  obtain ⟨h1, h2, h3⟩ := numR_ok (v := h7.1) (p' := h7.2) r7
  have okb : bOk (a.1, c.1, e.1, h7.1) := ⟨a1, c1, c2, e1, h1, h2⟩
  rw [p_isSound, if_pos z7]
  rw [Option.bind_some]
  try dsimp +instances only
  rw [if_neg (by decide)]
  have hb := b_of (b := (a.1, c.1, e.1, h7.1)) okb.s s7
  try dsimp only at hb
  rw [hb]
  rw [Option.bind_some]
  refine zP'.ret ⟨?_, fun x k => ?_⟩
  · rw [rr]
    exact ⟨F7, rfl, p7, z7⟩
  · rw [rr] at k
    cases k
    have bd := t7.2.1
    exact ⟨okb, by omega, by omega⟩
