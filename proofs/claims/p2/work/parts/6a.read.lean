/-! READERS OF THE TAPE: what each makes of a tape, told once; both sides follow them -/
abbrev zRd : Type := Sum Int (Int × Int)
def cT (σ : zS) : Int → Int := fun j => if 0 ≤ j ∧ j < σ 120 1 then σ 121 j else 0
def mT (σ : zS) : Int → Int := fun j => if 0 ≤ j ∧ j < σ 143 20 then σ 159 j else 0
def numR (w : Nat) (lo hi : Int) (f : Int → Int) (L p : Int) : zRd := if (numF f L w p 0).2 ≠ p ∧ lo ≤ (numF f L w p 0).1 ∧ (numF f L w p 0).1 ≤ hi then .inr (numF f L w p 0) else .inl p
def sgnR (x : Int) (f : Int → Int) (L p : Int) : zRd := if p < L ∧ f p = x then .inr (x, p + 1) else .inl p
def wrdR (a Ln : Nat) (f : Int → Int) (L p : Int) : zRd := if wordV a Ln f L p = -1 then .inl p else .inr (wordV a Ln f L p, wend f L 160 p)
def rBd (p L : Int) : zRd → Prop
  | .inl q => p ≤ q ∧ q ≤ L
  | .inr x => p ≤ x.2 ∧ x.2 ≤ L
theorem numF_L {f : Int → Int} {L : Int} : ∀ (w : Nat) (p v : Int), p ≤ L → (numF f L w p v).2 ≤ L
  | 0, p, v, h => h
  | w + 1, p, v, h => by
    show (if p < L ∧ 48 ≤ f p ∧ f p ≤ 57 then numF f L w (p + 1) (10 * v + f p - 48) else (v, p)).2 ≤ L
    split
    · rename_i c
      exact numF_L w (p + 1) _ (by omega)
    · exact h
theorem numF_ext {f g : Int → Int} {L : Int} : ∀ (w : Nat) (p v : Int), (∀ j, p ≤ j → j < L → f j = g j) → numF f L w p v = numF g L w p v
  | 0, _, _, _ => rfl
  | w + 1, p, v, h => by
    show (if p < L ∧ 48 ≤ f p ∧ f p ≤ 57 then numF f L w (p + 1) (10 * v + f p - 48) else (v, p)) = (if p < L ∧ 48 ≤ g p ∧ g p ≤ 57 then numF g L w (p + 1) (10 * v + g p - 48) else (v, p))
    by_cases c : p < L
    · rw [h p (Int.le_refl p) c, numF_ext w (p + 1) _ (fun j h1 h2 => h j (by omega) h2)]
    · rw [if_neg (fun e => c e.1), if_neg (fun e => c e.1)]
theorem numF_0 {f : Int → Int} {L : Int} : ∀ (w : Nat) (p v : Int), 0 ≤ v → 0 ≤ (numF f L w p v).1
  | 0, _, v, h => h
  | w + 1, p, v, h => by
    show 0 ≤ (if p < L ∧ 48 ≤ f p ∧ f p ≤ 57 then numF f L w (p + 1) (10 * v + f p - 48) else (v, p)).1
    split
    · exact numF_0 w (p + 1) _ (by omega)
    · exact h
theorem numR_bd {w : Nat} {lo hi : Int} {f : Int → Int} {L p : Int} (h : p ≤ L) : rBd p L (numR w lo hi f L p) := by
  unfold numR
  split
  · exact ⟨numF_le w p 0, numF_L w p 0 h⟩
  · exact ⟨Int.le_refl p, h⟩
theorem sgnR_bd {x : Int} {f : Int → Int} {L p : Int} (h : p ≤ L) : rBd p L (sgnR x f L p) := by
  unfold sgnR
  split
  · exact ⟨by show p ≤ p + 1; omega, by show p + 1 ≤ L; omega⟩
  · exact ⟨Int.le_refl p, h⟩
theorem wrdR_bd {a Ln : Nat} {f : Int → Int} {L p : Int} (h : p ≤ L) : rBd p L (wrdR a Ln f L p) := by
  unfold wrdR
  split
  · exact ⟨Int.le_refl p, h⟩
  · exact ⟨wend_le 160 p, wend_L 160 p h⟩
theorem numR_ok {w : Nat} {lo hi : Int} {f : Int → Int} {L p v p' : Int} (h : numR w lo hi f L p = .inr (v, p')) : lo ≤ v ∧ v ≤ hi ∧ p < p' := by
  unfold numR at h
  split at h
  · rename_i c
    have e := Sum.inr.inj h
    have l := numF_le (f := f) (L := L) w p 0
    rw [e] at c l
    exact ⟨c.2.1, c.2.2, by have := c.1; dsimp only at this l; omega⟩
  · cases h
theorem sgnR_ok {x : Int} {f : Int → Int} {L p v p' : Int} (h : sgnR x f L p = .inr (v, p')) : v = x ∧ p' = p + 1 ∧ p < L := by
  unfold sgnR at h
  split at h
  · rename_i c
    cases h
    exact ⟨rfl, rfl, c.1⟩
  · cases h
theorem wrdR_ok {a Ln : Nat} {f : Int → Int} {L p v p' : Int} (h : wrdR a Ln f L p = .inr (v, p')) : 0 ≤ v ∧ v ≠ -1 ∧ p ≤ p' := by
  unfold wrdR at h
  split at h
  · cases h
  · rename_i c
    have e := Sum.inr.inj h
    have e1 : wordV a Ln f L p = v := congrArg (·.1) e
    have e2 : wend f L 160 p = p' := congrArg (·.2) e
    rw [e1] at c
    have l := wend_le (f := f) (L := L) 160 p
    have g := wordG_ge (c := charC a) (f := f) (b := p) (e := wend f L 160 p) Ln 0 0 0
    have g : v = -1 ∨ 0 ≤ v := by rw [← e1]; exact g
    exact ⟨g.resolve_left c, c, by omega⟩
/-! the class -/
def cPo (σ : zS) (r : zRd) (v : Int) (s : zS) : Prop := frTa σ s ∧ match r with
  | .inl q => s 120 3 = q
  | .inr x => v = x.1 ∧ s 120 2 = x.2 ∧ s 120 3 = -1
theorem cT_f {σ s : zS} (h : frTa σ s) : cT s = cT σ := by
  funext j
  unfold cT
  rw [h 120 1 (Or.inr (by decide)), h 121 j (Or.inl (by decide))]
theorem cT_e {σ : zS} {p : Int} (hp : 0 ≤ p) : ∀ j, p ≤ j → j < σ 120 1 → σ 121 j = cT σ j := fun j h1 h2 => (if_pos ⟨by omega, h2⟩).symm
theorem c_num {w lo hi : Int} {σ : zS} (h : tpL σ) (hs : σ 120 3 = -1) (hw : 0 ≤ w ∧ w ≤ 9) : zP' (g_ta_number w lo hi σ) (cPo σ (numR w.toNat lo hi (cT σ) (σ 120 1) (σ 120 2))) := by
  refine (p_number h.i hs hw (lo := lo) (hi := hi)).imp (fun v s p => ?_)
  obtain ⟨p1, p2, p3, p4⟩ := p
  rw [numF_ext w.toNat (σ 120 2) 0 (cT_e h.2.1.1)] at p2 p3 p4
  unfold numR
  rw [← p2]
  split
  · rename_i c
    exact ⟨p1, p2, p3 c⟩
  · rename_i c
    exact ⟨p1, p4 c⟩
theorem c_sgn {x : Int} {σ : zS} (h : tpL σ) (hs : σ 120 3 = -1) (hx : 1 ≤ x) : zP' (g_ta_wants x σ) (fun _ s => ∀ v, cPo σ (sgnR x (cT σ) (σ 120 1) (σ 120 2)) v s ∨ cPo σ (sgnR x (cT σ) (σ 120 1) (σ 120 2)) x s) := by
  refine (p_wants h.i hs hx).imp (fun _ s p v => Or.inr ?_)
  obtain ⟨p1, p2, p3⟩ := p
  have e : tpH σ = x ↔ σ 120 2 < σ 120 1 ∧ cT σ (σ 120 2) = x := by
    unfold tpH
    by_cases c : σ 120 2 < σ 120 1
    · rw [if_pos c, cT_e h.2.1.1 _ (Int.le_refl _) c]
      exact ⟨fun e => ⟨c, e⟩, fun e => e.2⟩
    · rw [if_neg c]
      exact ⟨fun e => by omega, fun e => absurd e.1 c⟩
  unfold sgnR
  split
  · rename_i c
    have q := p2 (e.mpr c)
    exact ⟨p1, rfl, q.1, q.2⟩
  · rename_i c
    exact ⟨p1, p3 (fun k => c (e.mp k))⟩
theorem c_wrd {a Ln : Nat} (hw : swk a Ln) {σ : zS} (h : tpL σ) (hs : σ 120 3 = -1) : zP' (g_ta_word a σ) (fun v s => cPo σ (wrdR a Ln (cT σ) (σ 120 1) (σ 120 2)) v s ∧ v = wordV a Ln (cT σ) (σ 120 1) (σ 120 2)) := by
  refine (p_word hw h hs).imp (fun v s p => ?_)
  obtain ⟨p1, p2, p3, p4⟩ := p
  rw [wordV_ext (a' := a) h.2.1.2 (cT_e h.2.1.1) (fun _ _ _ => rfl)] at p2
  rw [wend_ext 160 (σ 120 2) (cT_e h.2.1.1)] at p4
  refine ⟨?_, p2⟩
  unfold wrdR
  rw [← p2]
  split
  · rename_i c
    exact ⟨p1, p3 c⟩
  · rename_i c
    exact ⟨p1, rfl, p4 c⟩
theorem cPo.ok {σ s : zS} {r : zRd} {v : Int} {x : Int × Int} (p : cPo σ r v s) (e : r = .inr x) : frTa σ s ∧ v = x.1 ∧ s 120 2 = x.2 ∧ s 120 3 = -1 := by
  subst e
  exact p
theorem cPo.no {σ s : zS} {r : zRd} {v q : Int} (p : cPo σ r v s) (e : r = .inl q) : frTa σ s ∧ s 120 3 = q := by
  subst e
  exact p
theorem c_sgn' {x : Int} {σ : zS} (h : tpL σ) (hs : σ 120 3 = -1) (hx : 1 ≤ x) : zP' (g_ta_wants x σ) (fun _ s => cPo σ (sgnR x (cT σ) (σ 120 1) (σ 120 2)) x s) := (c_sgn h hs hx).imp (fun _ s p => (p x).elim id id)
/-- behind a part -/
theorem c_more {σ : zS} (h : tpL σ) (hs : σ 120 3 = -1) : zP' (g_ta_another 1 σ) (fun v s => frTa σ s ∧ (σ 120 2 = σ 120 1 → v = 0 ∧ s = σ) ∧ (σ 120 2 < σ 120 1 ∧ cT σ (σ 120 2) = 59 → v = 1 ∧ s 120 2 = σ 120 2 + 1 ∧ s 120 3 = -1) ∧ (σ 120 2 < σ 120 1 ∧ cT σ (σ 120 2) ≠ 59 → v = 0 ∧ s 120 3 = σ 120 2)) := by
  have h2 := h.2.1
  unfold g_ta_another
  rw [if_neg (by decide), p_takes h.i hs (by decide)]
  rw [Option.bind_some]
  try dsimp +instances only
  by_cases cl : σ 120 2 < σ 120 1
  · have eH : tpH σ = cT σ (σ 120 2) := by
      unfold tpH
      rw [if_pos cl, cT_e h2.1 _ (Int.le_refl _) cl]
    rw [eH]
    by_cases c : cT σ (σ 120 2) = 59
    · rw [if_pos c, if_pos c, if_neg (by decide)]
      exact zP'.ret ⟨frTa.u (Or.inl rfl), fun e => by omega, fun _ => ⟨rfl, zu_e rfl, (zu_i (by decide)).trans hs⟩, fun e => absurd c e.2⟩
    · rw [if_neg c, if_neg c, if_pos rfl]
      unfold g_ta_another_L15
      rw [p_here h.i hs, eH]
      rw [Option.bind_some]
      try dsimp +instances only
      have hb := h.2.2 (σ 120 2) h2.1 cl
      rw [cT_e h2.1 _ (Int.le_refl _) cl] at hb
      rw [if_neg (by omega), p_blame, if_pos hs]
      rw [Option.bind_some]
      exact zP'.ret ⟨frTa.u (Or.inr rfl), fun e => by omega, fun e => absurd e.2 c, fun _ => ⟨rfl, by dsimp only; exact zu_e rfl⟩⟩
  · have eH : tpH σ = 0 := if_neg cl
    have n59 : ¬ (0 : Int) = 59 := by decide
    rw [eH, if_neg n59, if_neg n59, if_pos rfl]
    unfold g_ta_another_L15
    rw [p_here h.i hs, eH]
    rw [Option.bind_some]
    try dsimp +instances only
    rw [if_pos rfl]
    exact zP'.ret ⟨frTa.refl σ, fun _ => ⟨rfl, rfl⟩, fun e => absurd e.1 cl, fun e => absurd e.1 cl⟩
/-! the reference -/
def mPo (σ : zS) (r : zRd) (b : Int) (s : zS) : Prop := fr3 σ s ∧ match r with
  | .inl q => b = 0 ∧ s 143 22 = q
  | .inr x => b = 1 ∧ s 143 21 = x.2 ∧ s 143 22 = σ 143 22
theorem mT_f {σ s : zS} (h : fr3 σ s) : mT s = mT σ := by
  funext j
  unfold mT
  rw [h 143 20 (Or.inr (by decide)), h 159 j (Or.inl (by decide))]
theorem mT_e {σ : zS} {p : Int} (hp : 0 ≤ p) : ∀ j, p ≤ j → j < σ 143 20 → σ 159 j = mT σ j := fun j h1 h2 => (if_pos ⟨by omega, h2⟩).symm
theorem mPo.ok {σ s : zS} {r : zRd} {b : Int} {x : Int × Int} (p : mPo σ r b s) (e : r = .inr x) : fr3 σ s ∧ b = 1 ∧ s 143 21 = x.2 ∧ s 143 22 = σ 143 22 := by
  subst e
  exact p
theorem mPo.no {σ s : zS} {r : zRd} {b q : Int} (p : mPo σ r b s) (e : r = .inl q) : fr3 σ s ∧ b = 0 ∧ s 143 22 = q := by
  subst e
  exact p
theorem m_num {w lo hi : Int} {σ : zS} (h : tpP σ) (hs : σ 143 22 < 0) (hw : 1 ≤ w ∧ w ≤ 9) : zP' (g_m_isNumber w lo hi σ) (fun b s => mPo σ (numR w.toNat lo hi (mT σ) (σ 143 20) (σ 143 21)) b s ∧ ∀ x, numR w.toNat lo hi (mT σ) (σ 143 20) (σ 143 21) = .inr x → s 143 23 = x.1) := by
  obtain ⟨b, s, e, p1, p2, p3⟩ := t_number (lo := lo) (hi := hi) h.i hs hw h.2.2
  rw [e]
  refine zP'.ret ?_
  rw [numF_ext w.toNat (σ 143 21) 0 (mT_e h.2.1.1)] at p2 p3
  unfold numR
  split
  · rename_i c
    obtain ⟨q1, q2, q3, q4⟩ := p2 c
    exact ⟨⟨p1, q1, q2, q4⟩, fun x hx => by cases hx; exact q3⟩
  · rename_i c
    obtain ⟨q1, q2⟩ := p3 c
    exact ⟨⟨p1, q1, q2⟩, fun x hx => by cases hx⟩
theorem m_sgn {x : Int} {σ : zS} (h : tpP σ) (hs : σ 143 22 < 0) (hx : 1 ≤ x) : zP' (g_m_isSign x σ) (mPo σ (sgnR x (mT σ) (σ 143 20) (σ 143 21))) := by
  obtain ⟨b, s, e, p1, p2, p3⟩ := t_isSign h.i hs hx
  rw [e]
  refine zP'.ret ?_
  have e : hereC σ = x ↔ σ 143 21 < σ 143 20 ∧ mT σ (σ 143 21) = x := by
    unfold hereC
    by_cases c : σ 143 21 < σ 143 20
    · rw [if_neg (by omega), mT_e h.2.1.1 _ (Int.le_refl _) c]
      exact ⟨fun e => ⟨c, e⟩, fun e => e.2⟩
    · rw [if_pos (by omega)]
      exact ⟨fun e => by omega, fun e => absurd e.1 c⟩
  unfold sgnR
  split
  · rename_i c
    exact ⟨p1, p2 (e.mpr c)⟩
  · rename_i c
    exact ⟨p1, p3 (fun k => c (e.mp k))⟩
/-- the words of the reference are those of the class -/
theorem m_wrd {a c Ln : Nat} (hw : swk c Ln) (hT : charC c ((Ln : Int) - 1) ≠ 32) (hL : 0 < Ln) (he : ∀ j : Int, 0 ≤ j → j < (Ln : Int) → charC c j = charC a j) {σ : zS} (h : tpP σ) (hs : σ 143 22 < 0) : zP' (g_m_word c σ) (fun v s => mPo σ (wrdR a Ln (mT σ) (σ 143 20) (σ 143 21)) (if v = -1 then 0 else 1) s ∧ v = wordV a Ln (mT σ) (σ 143 20) (σ 143 21)) := by
  refine (t_word hw hT hL h hs).imp (fun v s p => ?_)
  obtain ⟨p1, p2, p3, p4⟩ := p
  rw [wordV_ext (a' := a) h.2.1.2 (mT_e h.2.1.1) he] at p2
  rw [wend_ext 160 (σ 143 21) (mT_e h.2.1.1)] at p4
  refine ⟨?_, p2⟩
  unfold wrdR
  rw [← p2]
  by_cases hc : v = -1
  · rw [if_pos hc, if_pos hc]
    exact ⟨p1, rfl, p3 hc⟩
  · rw [if_neg hc, if_neg hc]
    exact ⟨p1, rfl, p4 hc⟩
/-! the words -/
theorem chEq {a c Ln : Nat} (h : ∀ i : Fin Ln, charC c ((i.val : Nat) : Int) = charC a ((i.val : Nat) : Int)) : ∀ j : Int, 0 ≤ j → j < (Ln : Int) → charC c j = charC a j := fun j h1 h2 => by
  obtain ⟨n, rfl⟩ : ∃ n : Nat, j = (n : Int) := ⟨j.toNat, by omega⟩
  exact h ⟨n, by omega⟩
theorem swk1 : swk 1 39 := ⟨by decide +kernel, by decide +kernel, by decide⟩
theorem swk2 : swk 2 14 := ⟨by decide +kernel, by decide +kernel, by decide⟩
theorem swk3 : swk 3 6 := ⟨by decide +kernel, by decide +kernel, by decide⟩
theorem swk4 : swk 4 36 := ⟨by decide +kernel, by decide +kernel, by decide⟩
theorem swk5 : swk 5 2 := ⟨by decide +kernel, by decide +kernel, by decide⟩
theorem swk11 : swk 11 39 := ⟨by decide +kernel, by decide +kernel, by decide⟩
theorem swk12 : swk 12 14 := ⟨by decide +kernel, by decide +kernel, by decide⟩
theorem swk13 : swk 13 6 := ⟨by decide +kernel, by decide +kernel, by decide⟩
theorem swk14 : swk 14 36 := ⟨by decide +kernel, by decide +kernel, by decide⟩
theorem swk15 : swk 15 2 := ⟨by decide +kernel, by decide +kernel, by decide⟩
theorem m_wrd11 {σ : zS} (h : tpP σ) (hs : σ 143 22 < 0) : zP' (g_m_word 11 σ) (fun v s => mPo σ (wrdR 1 39 (mT σ) (σ 143 20) (σ 143 21)) (if v = -1 then 0 else 1) s ∧ v = wordV 1 39 (mT σ) (σ 143 20) (σ 143 21)) := m_wrd swk11 (by decide +kernel) (by decide) (chEq (by decide +kernel)) h hs
theorem m_wrd12 {σ : zS} (h : tpP σ) (hs : σ 143 22 < 0) : zP' (g_m_word 12 σ) (fun v s => mPo σ (wrdR 2 14 (mT σ) (σ 143 20) (σ 143 21)) (if v = -1 then 0 else 1) s ∧ v = wordV 2 14 (mT σ) (σ 143 20) (σ 143 21)) := m_wrd swk12 (by decide +kernel) (by decide) (chEq (by decide +kernel)) h hs
theorem m_wrd13 {σ : zS} (h : tpP σ) (hs : σ 143 22 < 0) : zP' (g_m_word 13 σ) (fun v s => mPo σ (wrdR 3 6 (mT σ) (σ 143 20) (σ 143 21)) (if v = -1 then 0 else 1) s ∧ v = wordV 3 6 (mT σ) (σ 143 20) (σ 143 21)) := m_wrd swk13 (by decide +kernel) (by decide) (chEq (by decide +kernel)) h hs
theorem m_wrd14 {σ : zS} (h : tpP σ) (hs : σ 143 22 < 0) : zP' (g_m_word 14 σ) (fun v s => mPo σ (wrdR 4 36 (mT σ) (σ 143 20) (σ 143 21)) (if v = -1 then 0 else 1) s ∧ v = wordV 4 36 (mT σ) (σ 143 20) (σ 143 21)) := m_wrd swk14 (by decide +kernel) (by decide) (chEq (by decide +kernel)) h hs
theorem m_wrd15 {σ : zS} (h : tpP σ) (hs : σ 143 22 < 0) : zP' (g_m_word 15 σ) (fun v s => mPo σ (wrdR 5 2 (mT σ) (σ 143 20) (σ 143 21)) (if v = -1 then 0 else 1) s ∧ v = wordV 5 2 (mT σ) (σ 143 20) (σ 143 21)) := m_wrd swk15 (by decide +kernel) (by decide) (chEq (by decide +kernel)) h hs
