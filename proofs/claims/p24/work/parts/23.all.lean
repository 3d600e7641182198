section
/-! 6p.eval -/
/-! E OF THE REFERENCE: for which rows it holds -/
theorem m_num84V {lo hi x : Int} {σ : zS} : zP' (g_m_isNumber_L84 lo hi x σ) (fun _ s => fr3 σ s ∧ s 143 21 = σ 143 21 ∧ s 143 23 = σ 143 23 ∧ (lo ≤ σ 143 23 ∧ σ 143 23 ≤ hi → s 143 22 = σ 143 22)) := by
  have fl : zP' (g_m_fails x σ) (fun b s => fr3 σ s ∧ s 143 21 = σ 143 21 ∧ s 143 23 = σ 143 23) := by
    unfold g_m_fails
    exact zP'.ite (fun _ => zP'.ret ⟨fr3.refl σ, rfl, rfl⟩) (fun _ => zP'.ret ⟨fr3.u (by omega), zu_i (by decide), zu_i (by decide)⟩)
  have tail : zP' ((g_m_fails x σ).bind fun o_99 => if o_99.1 = 0 then some ((0 : Int), o_99.2) else some ((1 : Int), o_99.2)) (fun _ s => fr3 σ s ∧ s 143 21 = σ 143 21 ∧ s 143 23 = σ 143 23) := zP'.bind fl (fun b s p => zP'.ite (fun _ => zP'.ret p) (fun _ => zP'.ret p))
  unfold g_m_isNumber_L84
  try dsimp +instances only
  by_cases c : lo ≤ σ 143 23 ∧ σ 143 23 ≤ hi
  · rw [s_isIn_t c.1 c.2]
    rw [Option.bind_some]
    try dsimp +instances only
    rw [if_pos (by decide)]
    exact zP'.ret ⟨fr3.refl σ, rfl, rfl, fun _ => rfl⟩
  · rw [s_isIn_f (by omega)]
    rw [Option.bind_some]
    try dsimp +instances only
    rw [if_neg (by decide)]
    exact tail.imp (fun _ s k => ⟨k.1, k.2.1, k.2.2, fun h => absurd h c⟩)
theorem m_num33V {w lo hi x : Int} (hw : w ≤ 9) : ∀ (n k d : Nat) (v p : Int) (σ : zS), w.toNat = k + d → tpP σ → σ 143 21 = p → σ 143 23 = v → 0 ≤ v → (v + 1) * 10 ^ d ≤ 1000000000 → zP' (g_m_isNumber_L33 n w lo hi x (k : Int) σ) (fun _ s => fr3 σ s ∧ s 143 21 = (numF (mT σ) (σ 143 20) d p v).2 ∧ s 143 23 = (numF (mT σ) (σ 143 20) d p v).1 ∧ (lo ≤ (numF (mT σ) (σ 143 20) d p v).1 ∧ (numF (mT σ) (σ 143 20) d p v).1 ≤ hi → s 143 22 = σ 143 22))
  | 0, _, _, _, _, _, _, _, _, _, _, _ => zP'.no
  | n + 1, k, d, v, p, σ, hk, h, hp, hv, hv0, hb => by
    have h1 := h.1
    have h2 := h.2.1
    have fin : numF (mT σ) (σ 143 20) d p v = (v, p) → zP' (g_m_isNumber_L84 lo hi x σ) (fun _ s => fr3 σ s ∧ s 143 21 = (numF (mT σ) (σ 143 20) d p v).2 ∧ s 143 23 = (numF (mT σ) (σ 143 20) d p v).1 ∧ (lo ≤ (numF (mT σ) (σ 143 20) d p v).1 ∧ (numF (mT σ) (σ 143 20) d p v).1 ≤ hi → s 143 22 = σ 143 22)) := fun e => by
      rw [e]
      exact m_num84V.imp (fun _ s q => ⟨q.1, q.2.1.trans hp, q.2.2.1.trans hv, fun k => q.2.2.2 (by rw [hv]; exact k)⟩)
    unfold g_m_isNumber_L33
    by_cases c : w ≤ (k : Int)
    · rw [if_pos c]
      exact fin (by rw [show d = 0 by omega]; rfl)
    · rw [if_neg c]
      obtain ⟨m, rfl⟩ : ∃ m, d = m + 1 := ⟨d - 1, by omega⟩
      rw [s_here h.i]
      rw [Option.bind_some]
      try dsimp +instances only
      rw [s_isFigure]
      rw [Option.bind_some]
      try dsimp +instances only
      have hH := hereC_mT h
      rw [hp] at hH
      by_cases cf : p < σ 143 20 ∧ 48 ≤ mT σ p ∧ mT σ p ≤ 57
      · have hh : hereC σ = mT σ p := by rw [hH, if_pos cf.1]
        rw [hh, if_pos cf.2, if_neg (by decide), s_here h.i, hh]
        rw [Option.bind_some]
        try dsimp +instances only
        have hstep : numF (mT σ) (σ 143 20) (m + 1) p v = numF (mT σ) (σ 143 20) m (p + 1) (10 * v + mT σ p - 48) := if_pos cf
        have hpow1 : (1 : Int) ≤ 10 ^ m := by
          have : (0 : Int) < 10 ^ m := Int.pow_pos (by decide)
          omega
        have hv10 : (10 * v + 9 + 1) * 10 ^ m ≤ 1000000000 := by
          have e : (10 * v + 9 + 1) * (10 : Int) ^ m = (v + 1) * 10 ^ (m + 1) := by
            rw [Int.pow_succ, Int.mul_comm (10 ^ m) 10, ← Int.mul_assoc]
            congr 1
            omega
          rw [e]
          exact hb
        have hle : 10 * v + 9 + 1 ≤ (10 * v + 9 + 1) * 10 ^ m := by
          have := Int.mul_le_mul_of_nonneg_left hpow1 (show 0 ≤ 10 * v + 9 + 1 by omega)
          omega
        rw [hv, w32_id (x := 10 * v) (by omega) (by omega), w32_id (x := 10 * v + mT σ p) (by omega) (by omega), w32_id (x := 10 * v + mT σ p - 48) (by omega) (by omega), zu_i (by decide), hp, w32_id (x := p + 1) (by omega) (by omega), w32_id (x := (k : Int) + 1) (by omega) (by omega), show (k : Int) + 1 = ((k + 1 : Nat) : Int) by omega]
        generalize hz : zu (zu σ 143 23 (10 * v + mT σ p - 48)) 143 21 (p + 1) = s1
        have f1 : fr3 σ s1 := fun a j hh => by rw [← hz, zu_c (by omega), zu_c (by omega)]
        have q21 : s1 143 21 = p + 1 := by rw [← hz]; exact zu_e rfl
        have q23 : s1 143 23 = 10 * v + mT σ p - 48 := by rw [← hz, zu_i (by decide)]; exact zu_e rfl
        have q20 : s1 143 20 = σ 143 20 := f1 143 20 (Or.inr (by decide))
        have q22 : s1 143 22 = σ 143 22 := by rw [← hz, zu_i (by decide), zu_i (by decide)]
        have hmul : (10 * v + mT σ p - 48 + 1) * 10 ^ m ≤ 1000000000 := Int.le_trans (Int.mul_le_mul_of_nonneg_right (show 10 * v + mT σ p - 48 + 1 ≤ 10 * v + 9 + 1 by omega) (by omega)) hv10
        refine (m_num33V hw n (k + 1) m (10 * v + mT σ p - 48) (p + 1) s1 (by omega) (h.f f1 (by rw [q21]; omega)) q21 q23 (by omega) hmul).imp (fun _ s q => ?_)
        rw [mT_f f1, q20, ← hstep, q22] at q
        exact ⟨f1.trans q.1, q.2⟩
      · have hn : ¬ (48 ≤ hereC σ ∧ hereC σ ≤ 57) := fun hh => by
          rw [hH] at hh
          by_cases cp : p < σ 143 20
          · rw [if_pos cp] at hh
            exact cf ⟨cp, hh⟩
          · rw [if_neg cp] at hh
            exact absurd hh (by omega)
        rw [if_neg hn, if_pos rfl]
        exact fin (if_neg cf)
theorem m_numV {lo hi : Int} {σ : zS} (h : tpP σ) : zP' (g_m_isNumber 9 lo hi σ) (fun _ s => fr3 σ s ∧ s 143 21 = (numF (mT σ) (σ 143 20) 9 (σ 143 21) 0).2 ∧ s 143 23 = (numF (mT σ) (σ 143 20) 9 (σ 143 21) 0).1 ∧ ((numF (mT σ) (σ 143 20) 9 (σ 143 21) 0).2 ≠ σ 143 21 ∧ lo ≤ (numF (mT σ) (σ 143 20) 9 (σ 143 21) 0).1 ∧ (numF (mT σ) (σ 143 20) 9 (σ 143 21) 0).1 ≤ hi → s 143 22 = σ 143 22)) := by
  generalize hz : zu σ 143 23 0 = s1
  have f1 : fr3 σ s1 := fun a j hh => by rw [← hz, zu_c (by omega)]
  have q21 : s1 143 21 = σ 143 21 := by rw [← hz, zu_i (by decide)]
  have q20 : s1 143 20 = σ 143 20 := f1 143 20 (Or.inr (by decide))
  have q23 : s1 143 23 = 0 := by rw [← hz]; exact zu_e rfl
  have q22 : s1 143 22 = σ 143 22 := by rw [← hz, zu_i (by decide)]
  have h2 := h.2.1
  have t1 : tpP s1 := h.f f1 (by rw [q21]; exact h2)
  unfold g_m_isNumber
  try dsimp +instances only
  rw [hz, s_here t1.i]
  rw [Option.bind_some]
  try dsimp +instances only
  rw [s_isFigure]
  rw [Option.bind_some]
  try dsimp +instances only
  have hH := hereC_mT t1
  rw [q21, q20, mT_f f1] at hH
  by_cases cf : σ 143 21 < σ 143 20 ∧ 48 ≤ mT σ (σ 143 21) ∧ mT σ (σ 143 21) ≤ 57
  · have hh : hereC s1 = mT σ (σ 143 21) := by rw [hH, if_pos cf.1]
    rw [hh, if_pos cf.2, if_pos (by decide)]
    refine (m_num33V (w := 9) (by decide) zK 0 9 0 (σ 143 21) s1 (by decide) t1 q21 q23 (by decide) (by decide)).imp (fun _ s q => ?_)
    rw [mT_f f1, q20, q22] at q
    exact ⟨f1.trans q.1, q.2.1, q.2.2.1, fun k => q.2.2.2 k.2⟩
  · have hn : ¬ (48 ≤ hereC s1 ∧ hereC s1 ≤ 57) := fun hh => by
      rw [hH] at hh
      by_cases cp : σ 143 21 < σ 143 20
      · rw [if_pos cp] at hh
        exact cf ⟨cp, hh⟩
      · rw [if_neg cp] at hh
        exact absurd hh (by omega)
    have e : numF (mT σ) (σ 143 20) 9 (σ 143 21) 0 = (0, σ 143 21) := if_neg cf
    rw [if_neg hn, if_neg (by decide), e]
    unfold g_m_fails
    try dsimp +instances only
    have fl : ∀ s : zS, fr3 σ s ∧ s 143 21 = σ 143 21 ∧ s 143 23 = 0 → zP' (if (0 : Int) = 0 ∨ (0 : Int) = 1 then some ((0 : Int), s) else none) (fun _ s => fr3 σ s ∧ s 143 21 = (0, σ 143 21).2 ∧ s 143 23 = ((0 : Int), σ 143 21).1 ∧ (((0 : Int), σ 143 21).2 ≠ σ 143 21 ∧ lo ≤ ((0 : Int), σ 143 21).1 ∧ ((0 : Int), σ 143 21).1 ≤ hi → s 143 22 = σ 143 22)) := fun s k => zP'.gd (fun _ => zP'.ret ⟨k.1, k.2.1, k.2.2, fun x => absurd rfl x.1⟩)
    by_cases c0 : 0 ≤ s1 143 22
    · rw [if_pos c0]
      rw [Option.bind_some]
      exact fl s1 ⟨f1, q21, q23⟩
    · rw [if_neg c0]
      rw [Option.bind_some]
      exact fl (zu s1 143 22 (s1 143 21)) ⟨f1.trans (fr3.u (by omega)), (zu_i (by decide)).trans q21, (zu_i (by decide)).trans q23⟩
/-! tests -/
def mev (σ : zS) (l r : Int) : Int := if l = 0 then σ 147 (1 + r) else if l = 1 then σ 144 (21 + 3 * r) else if l = 2 then σ 144 (22 + 3 * r) else r
theorem m_202 {rec : Nat → Int → zS → Option (Int × zS)} {y x5 c v : Int} {σ : zS} (hc : (c = 0 ∧ x5 = 60) ∨ (c = 1 ∧ x5 = 61) ∨ (c = 2 ∧ x5 = 62)) : g_m_holdsFactor_L202 rec y x5 v σ = some (bI (cmpB c y v), σ) := by
  unfold g_m_holdsFactor_L202 cmpB
  rcases hc with ⟨rfl, rfl⟩ | ⟨rfl, rfl⟩ | ⟨rfl, rfl⟩
  · rw [if_neg (by decide), if_pos rfl]
    by_cases k : y < v
    · rw [if_neg (fun h => lCmp_0.mp h k), decide_eq_true k]
      rfl
    · rw [if_pos (lCmp_0.mpr k), decide_eq_false k]
      rfl
  · rw [if_pos (by decide), if_pos (by decide), if_neg (show ¬ (1 : Int) = 0 by decide), if_pos (show (1 : Int) = 1 from rfl)]
    by_cases k : y = v
    · rw [if_neg (fun h => h (lCmp_eq.mpr k)), decide_eq_true k]
      rfl
    · rw [if_pos (fun h => k (lCmp_eq.mp h)), decide_eq_false k]
      rfl
  · rw [if_pos (by decide), if_neg (by decide), if_neg (show ¬ (2 : Int) = 0 by decide), if_neg (show ¬ (2 : Int) = 1 by decide)]
    by_cases k : v < y
    · rw [if_neg (fun h => lCmp_gt.mp h k), decide_eq_true k]
      rfl
    · rw [if_pos (lCmp_gt.mpr k), decide_eq_false k]
      rfl
def evQ (σ : zS) (v : Bool) (p : Int) (b : Int) (s : zS) : Prop := (fr3 σ s ∧ s 143 22 = σ 143 22) ∧ b = bI v ∧ s 143 21 = p
theorem f3.tr {σ s t : zS} (h1 : fr3 σ s ∧ s 143 22 = σ 143 22) (h2 : fr3 s t ∧ t 143 22 = s 143 22) : fr3 σ t ∧ t 143 22 = σ 143 22 := ⟨h1.1.trans h2.1, h2.2.trans h1.2⟩
theorem m_120 {rec : Nat → Int → zS → Option (Int × zS)} {y l : Int} {x : (Int × Int × Int) × Int} {σ : zS} (h : tpP σ) (e : tstC l (mT σ) (σ 143 20) (σ 143 21) = .inr x) : zP' (g_m_holdsFactor_L120 rec y σ) (evQ σ (cmpB x.1.2.1 y x.1.2.2) x.2) := by
  have h1 := h.1
  have h2 := h.2.1
  unfold tstC at e
  cases e1 : cmpR (mT σ) (σ 143 20) (σ 143 21) with
  | inl q =>
    rw [e1] at e
    cases e
  | inr z =>
    rw [e1] at e
    dsimp only at e
    obtain ⟨k1, k2, k3⟩ := cmpR_ok (v := z.1) (p' := z.2) e1
    obtain ⟨ew, f, t, s22, s21, sT, s20⟩ := mk_st h k1
    have hh : hereC σ = mT σ (σ 143 21) := by rw [hereC_mT h, if_pos k1]
    unfold g_m_holdsFactor_L120
    rw [s_here h.i]
    rw [Option.bind_some]
    try dsimp +instances only
    rw [ew]
    generalize zu σ 143 21 (σ 143 21 + 1) = s1 at f t s22 s21 sT s20
    rw [s_here t.i]
    rw [Option.bind_some]
    try dsimp +instances only
    cases e2 : tstN (mT σ) (σ 143 20) z.2 with
    | inl q =>
      rw [e2] at e
      cases e
    | inr u =>
      rw [e2] at e
      dsimp only [tstV] at e
      cases e
      try dsimp only
      have hc : (z.1 = 0 ∧ hereC σ = 60) ∨ (z.1 = 1 ∧ hereC σ = 61) ∨ (z.1 = 2 ∧ hereC σ = 62) := by
        rw [hh]
        exact k3
      have eN : ∀ p0, p0 = (if negB (mT σ) (σ 143 20) z.2 = true then z.2 + 1 else z.2) → numF (mT σ) (σ 143 20) 9 p0 0 = u ∧ u.2 ≠ p0 := fun p0 h0 => by
        unfold tstN numR at e2
        rw [← h0] at e2
        split at e2
        · rename_i cc
          have k := Sum.inr.inj e2
          rw [k] at cc
          exact ⟨k, cc.1⟩
        · cases e2
      have bu : 0 ≤ u.1 ∧ u.1 ≤ 999999999 := by
        have k := numR_ok (v := u.1) (p' := u.2) (show numR 9 0 999999999 (mT σ) (σ 143 20) _ = _ from e2)
        exact ⟨k.1, k.2.1⟩
      have eH : hereC s1 = 45 ↔ negB (mT σ) (σ 143 20) z.2 = true := by
        rw [hereC_is t (by decide), sT, s20, s21, ← k2]
        unfold negB
        rw [decide_eq_true_iff]
      have fin : ∀ (s2 : zS), (fr3 σ s2 ∧ s2 143 22 = σ 143 22) → tpP s2 → s2 143 21 = (if negB (mT σ) (σ 143 20) z.2 = true then z.2 + 1 else z.2) → ∀ x6 : Int, (x6 = 0 ↔ negB (mT σ) (σ 143 20) z.2 = false) → zP' ((g_m_isNumber 9 0 999999999 s2).bind fun o_179 => if x6 = 0 then g_m_holdsFactor_L202 rec y (hereC σ) (o_179.2 143 23) o_179.2 else g_m_holdsFactor_L202 rec y (hereC σ) (w32 (-(o_179.2 143 23))) o_179.2) (evQ σ (cmpB z.1 y (if negB (mT σ) (σ 143 20) z.2 = true then -u.1 else u.1)) u.2) := fun s2 i1 t2 ip x6 ix => by
        refine zP'.bind (m_numV t2) (fun b s3 p3 => ?_)
        obtain ⟨j1, j2, j3, j4⟩ := p3
        have L2 : s2 143 20 = σ 143 20 := i1.1 143 20 (Or.inr (by decide))
        rw [mT_f i1.1, L2, (eN _ ip).1] at j2 j3 j4
        have j4 := j4 ⟨(eN _ ip).2, bu⟩
        try dsimp +instances only
        rw [j3]
        refine zP'.ite (fun c => ?_) (fun c => ?_)
        · rw [m_202 hc, ix.mp c, if_neg (by decide)]
          exact zP'.ret ⟨f3.tr i1 ⟨j1, j4⟩, rfl, j2⟩
        · have hn : negB (mT σ) (σ 143 20) z.2 = true := by
            cases hb : negB (mT σ) (σ 143 20) z.2 with
            | true => rfl
            | false => exact absurd (ix.mpr hb) c
          rw [m_202 hc, hn, if_pos rfl, w32_id (x := -u.1) (by omega) (by omega)]
          exact zP'.ret ⟨f3.tr i1 ⟨j1, j4⟩, rfl, j2⟩
      by_cases c45 : hereC s1 = 45
      · have hn := eH.mp c45
        have hp1 := (negB_t hn).1
        rw [if_neg (fun k => k c45)]
        unfold g_m_holdsFactor_L151
        try dsimp +instances only
        rw [if_neg (by decide)]
        unfold g_m_holdsFactor_L168
        try dsimp +instances only
        rw [w32_id (x := s1 143 21 + 1) (by omega) (by omega)]
        have e21 : zu s1 143 21 (s1 143 21 + 1) 143 21 = z.2 + 1 := by rw [zu_e rfl, s21, k2]
        have f2 : fr3 s1 (zu s1 143 21 (s1 143 21 + 1)) := fr3.u (Or.inl rfl)
        exact fin _ ⟨f.trans f2, (zu_i (by decide)).trans s22⟩ (t.f f2 (by rw [e21]; omega)) (by rw [e21, hn, if_pos rfl]) 1 ⟨fun k => absurd k (by decide), fun k => by rw [hn] at k; cases k⟩
      · have hn : negB (mT σ) (σ 143 20) z.2 = false := Bool.eq_false_iff.mpr (fun k => c45 (eH.mpr k))
        rw [if_pos c45]
        unfold g_m_holdsFactor_L151
        try dsimp +instances only
        rw [if_pos rfl]
        unfold g_m_holdsFactor_L168
        try dsimp +instances only
        rw [w32_id (x := s1 143 21 + 0) (by omega) (by omega)]
        have e21 : zu s1 143 21 (s1 143 21 + 0) 143 21 = z.2 := by rw [zu_e rfl, s21, k2, Int.add_zero]
        have f2 : fr3 s1 (zu s1 143 21 (s1 143 21 + 0)) := fr3.u (Or.inl rfl)
        exact fin _ ⟨f.trans f2, (zu_i (by decide)).trans s22⟩ (t.f f2 (by rw [e21]; omega)) (by rw [e21, hn]; rfl) 0 ⟨fun _ => hn, fun _ => rfl⟩
theorem m_factT {rec : Nat → Int → zS → Option (Int × zS)} {r : Int} {x : (Int × Int × Int) × Int} {σ : zS} (h : tpP σ) (hr : 0 ≤ r ∧ r < 60) (e : tstP (mT σ) (σ 143 20) (σ 143 21) = .inr x) : zP' (g_m_holdsFactor rec r σ) (evQ σ (cmpB x.1.2.1 (mev σ x.1.1 r) x.1.2.2) x.2) := by
  unfold tstP at e
  cases e1 : ltrR (mT σ) (σ 143 20) (σ 143 21) with
  | inl q =>
    rw [e1] at e
    cases e
  | inr z =>
    rw [e1] at e
    dsimp only at e
    obtain ⟨k1, k2, k3⟩ := ltrR_ok (v := z.1) (p' := z.2) e1
    obtain ⟨ew, f, t, s22, s21, sT, s20⟩ := mk_st h k1
    have hh : hereC σ = mT σ (σ 143 21) := by rw [hereC_mT h, if_pos k1]
    unfold g_m_holdsFactor
    rw [s_here h.i]
    rw [Option.bind_some]
    try dsimp +instances only
    rw [ew]
    have e144 : ∀ j, zu σ 143 21 (σ 143 21 + 1) 144 j = σ 144 j := fun j => zu_a (by decide)
    have e147 : ∀ j, zu σ 143 21 (σ 143 21 + 1) 147 j = σ 147 j := fun j => zu_a (by decide)
    generalize zu σ 143 21 (σ 143 21 + 1) = s1 at f t s22 s21 sT s20 e144 e147
    rw [← sT, ← s20, k2, ← s21] at e
    have hl : x.1.1 = z.1 := by
      unfold tstC at e
      cases e2 : cmpR (mT s1) (s1 143 20) (s1 143 21) with
      | inl q =>
        rw [e2] at e
        cases e
      | inr y =>
        rw [e2] at e
        dsimp only at e
        cases e3 : tstN (mT s1) (s1 143 20) y.2 with
        | inl q =>
          rw [e3] at e
          cases e
        | inr u =>
          rw [e3] at e
          dsimp only [tstV] at e
          cases e
          rfl
    have R : ∀ y, y = mev σ x.1.1 r → zP' (g_m_holdsFactor_L120 rec y s1) (evQ σ (cmpB x.1.2.1 (mev σ x.1.1 r) x.1.2.2) x.2) := fun y hy => (m_120 (y := y) t e).imp (fun b s p => by
      obtain ⟨p1, p2, p3⟩ := p
      rw [hy] at p2
      exact ⟨f3.tr ⟨f, s22⟩ p1, p2, p3⟩)
    rw [hl] at R ⊢
    unfold mev at R ⊢
    rcases k3 with ⟨q1, q2⟩ | ⟨q1, q2⟩ | ⟨q1, q2⟩ | ⟨q1, q2⟩
    · have e0 : hereC σ = 119 := hh.trans q2
      rw [if_pos (by omega), if_pos (by omega), if_neg (by omega), w32_id (x := 1 + r) (by omega) (by omega), if_pos (by omega), e147]
      exact R _ (by rw [if_pos q1])
    · have e0 : hereC σ = 120 := hh.trans q2
      rw [if_pos (by omega), if_pos (by omega), if_pos (by omega), if_neg (by omega), s_rowAt (by omega) (by omega)]
      rw [Option.bind_some]
      try dsimp +instances only
      rw [w32_id (x := 20 + 3 * r + 1) (by omega) (by omega), if_pos (by omega), e144]
      exact R _ (by rw [if_neg (by omega), if_pos q1, show 20 + 3 * r + 1 = 21 + 3 * r by omega])
    · have e0 : hereC σ = 121 := hh.trans q2
      rw [if_pos (by omega), if_pos (by omega), if_pos (by omega), if_pos (by omega), if_neg (by omega), s_rowAt (by omega) (by omega)]
      rw [Option.bind_some]
      try dsimp +instances only
      rw [w32_id (x := 20 + 3 * r + 2) (by omega) (by omega), if_pos (by omega), e144]
      exact R _ (by rw [if_neg (by omega), if_neg (by omega), if_pos q1, show 20 + 3 * r + 2 = 22 + 3 * r by omega])
    · have e0 : hereC σ = 114 := hh.trans q2
      rw [if_pos (by omega), if_pos (by omega), if_pos (by omega), if_pos (by omega), if_pos (by omega)]
      exact R _ (by rw [if_neg (by omega), if_neg (by omega), if_neg (by omega)])
/-! the whole of E -/
theorem mev_f {σ s : zS} (f : fr3 σ s) (l r : Int) : mev s l r = mev σ l r := by
  unfold mev
  rw [f 147 _ (Or.inl (by decide)), f 144 _ (Or.inl (by decide)), f 144 _ (Or.inl (by decide))]
theorem iOr_bb {x y : Bool} : iOr (bI x) (bI y) = bI (x || y) := by
  cases x <;> cases y <;> decide +kernel
theorem iAnd_bb {x y : Bool} : iAnd (bI x) (bI y) = bI (x && y) := by
  cases x <;> cases y <;> decide +kernel
theorem bI_01 (x : Bool) : bI x = 0 ∨ bI x = 1 := by
  cases x
  · exact Or.inl rfl
  · exact Or.inr rfl
def v_all (ev : Int → Int → Int) (r : Int) (m : Nat) : Prop :=
  (∀ (n : Nat) (d : Int) (T : Int → Bool) (x : (Int → Bool) × Int) (σ : zS), tpP σ → (∀ l, mev σ l r = ev l r) → eP ev (mT σ) (σ 143 20) m 0 d (σ 143 21) T = .inr x → zP' (g_grp231 n 231 r σ) (evQ σ (x.1 r) x.2)) ∧
  (∀ (n : Nat) (d : Int) (T : Int → Bool) (x : (Int → Bool) × Int) (σ : zS), tpP σ → (∀ l, mev σ l r = ev l r) → eP ev (mT σ) (σ 143 20) m 1 d (σ 143 21) T = .inr x → zP' (g_grp231 n 232 r σ) (evQ σ (x.1 r) x.2)) ∧
  (∀ (n : Nat) (d : Int) (T : Int → Bool) (x : (Int → Bool) × Int) (σ : zS), tpP σ → (∀ l, mev σ l r = ev l r) → eP ev (mT σ) (σ 143 20) m 2 d (σ 143 21) T = .inr x → zP' (g_grp231 n 233 r σ) (evQ σ (x.1 r) x.2)) ∧
  (∀ (n w : Nat) (d : Int) (T : Int → Bool) (x : (Int → Bool) × Int) (σ : zS), tpP σ → (∀ l, mev σ l r = ev l r) → eP ev (mT σ) (σ 143 20) m 3 d (σ 143 21) T = .inr x → zP' (g_m_doesHold_L6 (g_grp231 n) w r (bI (T r)) σ) (evQ σ (x.1 r) x.2)) ∧
  (∀ (n w : Nat) (d : Int) (T : Int → Bool) (x : (Int → Bool) × Int) (σ : zS), tpP σ → (∀ l, mev σ l r = ev l r) → eP ev (mT σ) (σ 143 20) m 4 d (σ 143 21) T = .inr x → zP' (g_m_holdsBoth_L6 (g_grp231 n) w r (bI (T r)) σ) (evQ σ (x.1 r) x.2))
theorem exSeq_ok {k : Int → (Int → Bool) → zEx} {r : zEx} {x : (Int → Bool) × Int} (h : exSeq k r = .inr x) : ∃ y, r = .inr y ∧ k y.2 y.1 = .inr x := by
  cases r with
  | inl q => cases h
  | inr y => exact ⟨y, rfl, h⟩
theorem m_eval {ev : Int → Int → Int} {r : Int} (hr : 0 ≤ r ∧ r < 60) : ∀ m : Nat, v_all ev r m
  | 0 => ⟨fun n d T x σ h _ e => (by cases e), fun n d T x σ h _ e => (by cases e), fun n d T x σ h _ e => (by cases e), fun n w d T x σ h _ e => (by cases e), fun n w d T x σ h _ e => (by cases e)⟩
  | m + 1 => by
    obtain ⟨A0, A1, A2, A3, A4⟩ := m_eval (ev := ev) hr m
    have bd : ∀ (k : Nat) (d p : Int) (T : Int → Bool) (f : Int → Int) (L : Int), k ≤ 4 → p ≤ L → ∀ x, eP ev f L m k d p T = .inr x → p ≤ x.2 ∧ x.2 ≤ L := fun k d p T f L hk h x e => by
      have b := (eP_bd (ev := ev) (f := f) m k d p T hk h).2 x e
      exact ⟨b.1, b.2.1⟩
    refine ⟨fun n d T x σ h he e => ?_, fun n d T x σ h he e => ?_, fun n d T x σ h he e => ?_, fun n w d T x σ h he e => ?_, fun n w d T x σ h he e => ?_⟩
    · cases n with
      | zero => exact zP'.no
      | succ n =>
        have h2 := h.2.1
        rw [eP_0] at e
        obtain ⟨y, e1, e2⟩ := exSeq_ok e
        rw [grp231_231]
        unfold g_m_doesHold
        refine zP'.bind (A1 n d T y σ h he e1) (fun b s p => ?_)
        obtain ⟨ff, p2, p3⟩ := p
        have f := ff.1
        have b1 := bd 1 d _ T _ _ (by decide) h2.2 y e1
        have L1 : s 143 20 = σ 143 20 := f 143 20 (Or.inr (by decide))
        try dsimp +instances only
        rw [p2]
        refine (A3 n zK d y.1 x s (h.f f (by omega)) (fun l => (mev_f f l r).trans (he l)) (by rw [mT_f f, L1, p3]; exact e2)).imp (fun b t q => ⟨f3.tr ff q.1, q.2⟩)
    · cases n with
      | zero => exact zP'.no
      | succ n =>
        have h2 := h.2.1
        rw [eP_1] at e
        obtain ⟨y, e1, e2⟩ := exSeq_ok e
        rw [grp231_232]
        unfold g_m_holdsBoth
        refine zP'.bind (A2 n d T y σ h he e1) (fun b s p => ?_)
        obtain ⟨ff, p2, p3⟩ := p
        have f := ff.1
        have b1 := bd 2 d _ T _ _ (by decide) h2.2 y e1
        have L1 : s 143 20 = σ 143 20 := f 143 20 (Or.inr (by decide))
        try dsimp +instances only
        rw [p2]
        refine (A4 n zK d y.1 x s (h.f f (by omega)) (fun l => (mev_f f l r).trans (he l)) (by rw [mT_f f, L1, p3]; exact e2)).imp (fun b t q => ⟨f3.tr ff q.1, q.2⟩)
    · cases n with
      | zero => exact zP'.no
      | succ n =>
        have h2 := h.2.1
        rw [eP_2] at e
        rw [grp231_233]
        by_cases c33 : d < 4 ∧ σ 143 21 < σ 143 20 ∧ mT σ (σ 143 21) = 33
        · rw [if_pos c33] at e
          have hh : hereC σ = 33 := (hereC_is h (by decide)).mpr c33.2
          obtain ⟨ew, f, t, s22, s21, sT, s20⟩ := mk_st h c33.2.1
          cases e1 : eP ev (mT σ) (σ 143 20) m 2 (d + 1) (σ 143 21 + 1) T with
          | inl q =>
            rw [e1] at e
            cases e
          | inr y =>
            rw [e1] at e
            cases e
            unfold g_m_holdsFactor
            rw [s_here h.i]
            rw [Option.bind_some]
            try dsimp +instances only
            rw [ew, if_neg (fun k => k hh)]
            generalize zu σ 143 21 (σ 143 21 + 1) = s1 at f t s22 s21 sT s20
            refine zP'.bind (A2 n (d + 1) T y s1 t (fun l => (mev_f f l r).trans (he l)) (by rw [sT, s20, s21]; exact e1)) (fun b s p => ?_)
            obtain ⟨p1, p2, p3⟩ := p
            try dsimp +instances only
            rw [p2]
            cases hb : y.1 r with
            | true =>
              rw [if_pos (by decide)]
              exact zP'.ret ⟨f3.tr ⟨f, s22⟩ p1, rfl, p3⟩
            | false =>
              rw [if_neg (by decide)]
              exact zP'.ret ⟨f3.tr ⟨f, s22⟩ p1, rfl, p3⟩
        · rw [if_neg c33] at e
          by_cases c40 : d < 4 ∧ σ 143 21 < σ 143 20 ∧ mT σ (σ 143 21) = 40
          · rw [if_pos c40] at e
            have hh : hereC σ = 40 := (hereC_is h (by decide)).mpr c40.2
            obtain ⟨ew, f, t, s22, s21, sT, s20⟩ := mk_st h c40.2.1
            cases e1 : eP ev (mT σ) (σ 143 20) m 0 (d + 1) (σ 143 21 + 1) T with
            | inl q =>
              rw [e1] at e
              cases e
            | inr y =>
              rw [e1] at e
              have b1 := bd 0 (d + 1) (σ 143 21 + 1) T _ _ (by decide) (by omega) y e1
              unfold exPar at e
              dsimp only at e
              cases e3 : sgnR 41 (mT σ) (σ 143 20) y.2 with
              | inl q =>
                rw [e3] at e
                cases e
              | inr z =>
                rw [e3] at e
                cases e
                have k := sgnR_ok (v := z.1) (p' := z.2) e3
                unfold g_m_holdsFactor
                rw [s_here h.i]
                rw [Option.bind_some]
                try dsimp +instances only
                rw [ew, if_pos (by omega), if_neg (fun k => k hh)]
                generalize zu σ 143 21 (σ 143 21 + 1) = s1 at f t s22 s21 sT s20
                refine zP'.bind (A0 n (d + 1) T y s1 t (fun l => (mev_f f l r).trans (he l)) (by rw [sT, s20, s21]; exact e1)) (fun b s p => ?_)
                obtain ⟨p1, p2, p3⟩ := p
                have h1 := h.1
                try dsimp +instances only
                rw [p2, p3, w32_id (x := y.2 + 1) (by omega) (by omega)]
                refine b01 ⟨f3.tr (f3.tr ⟨f, s22⟩ p1) ⟨fr3.u (Or.inl rfl), zu_i (by decide)⟩, rfl, ?_⟩
                rw [zu_e rfl]
                exact k.2.1.symm
          · rw [if_neg c40] at e
            cases e1 : tstP (mT σ) (σ 143 20) (σ 143 21) with
            | inl q =>
              rw [e1] at e
              cases e
            | inr y =>
              rw [e1] at e
              cases e
              refine (m_factT h hr e1).imp (fun b s p => ?_)
              obtain ⟨p1, p2, p3⟩ := p
              rw [he] at p2
              exact ⟨p1, p2, p3⟩
    · cases w with
      | zero => exact zP'.no
      | succ w =>
        have h2 := h.2.1
        rw [eP_3] at e
        unfold g_m_doesHold_L6
        rw [s_here h.i]
        rw [Option.bind_some]
        try dsimp +instances only
        by_cases c : σ 143 21 < σ 143 20 ∧ mT σ (σ 143 21) = 124
        · rw [if_pos c] at e
          have hh : hereC σ = 124 := (hereC_is h (by decide)).mpr c
          obtain ⟨ew, f, t, s22, s21, sT, s20⟩ := mk_st h c.1
          obtain ⟨y, e1, e2⟩ := exSeq_ok e
          have b1 := bd 1 d (σ 143 21 + 1) T _ _ (by decide) (by omega) y e1
          rw [if_neg (fun k => k hh), ew]
          generalize zu σ 143 21 (σ 143 21 + 1) = s1 at f t s22 s21 sT s20
          refine zP'.bind (A1 n d T y s1 t (fun l => (mev_f f l r).trans (he l)) (by rw [sT, s20, s21]; exact e1)) (fun b s p => ?_)
          obtain ⟨pp, p2, p3⟩ := p
          have p1 := pp.1
          have fp := f.trans p1
          have ff := f3.tr ⟨f, s22⟩ pp
          have L1 : s 143 20 = σ 143 20 := fp 143 20 (Or.inr (by decide))
          try dsimp +instances only
          rw [p2, iOr_bb]
          exact (A3 n w d (fun r => T r || y.1 r) x s (h.f fp (by omega)) (fun l => (mev_f fp l r).trans (he l)) (by rw [mT_f fp, L1, p3]; exact e2)).imp (fun b t q => ⟨f3.tr ff q.1, q.2⟩)
        · rw [if_neg c] at e
          cases e
          have hh : ¬ hereC σ = 124 := fun k => c ((hereC_is h (by decide)).mp k)
          rw [if_pos hh, if_pos (bI_01 _)]
          exact zP'.ret ⟨⟨fr3.refl σ, rfl⟩, rfl, rfl⟩
    · cases w with
      | zero => exact zP'.no
      | succ w =>
        have h2 := h.2.1
        rw [eP_4] at e
        unfold g_m_holdsBoth_L6
        rw [s_here h.i]
        rw [Option.bind_some]
        try dsimp +instances only
        by_cases c : σ 143 21 < σ 143 20 ∧ mT σ (σ 143 21) = 38
        · rw [if_pos c] at e
          have hh : hereC σ = 38 := (hereC_is h (by decide)).mpr c
          obtain ⟨ew, f, t, s22, s21, sT, s20⟩ := mk_st h c.1
          obtain ⟨y, e1, e2⟩ := exSeq_ok e
          have b1 := bd 2 d (σ 143 21 + 1) T _ _ (by decide) (by omega) y e1
          rw [if_neg (fun k => k hh), ew]
          generalize zu σ 143 21 (σ 143 21 + 1) = s1 at f t s22 s21 sT s20
          refine zP'.bind (A2 n d T y s1 t (fun l => (mev_f f l r).trans (he l)) (by rw [sT, s20, s21]; exact e1)) (fun b s p => ?_)
          obtain ⟨pp, p2, p3⟩ := p
          have p1 := pp.1
          have fp := f.trans p1
          have ff := f3.tr ⟨f, s22⟩ pp
          have L1 : s 143 20 = σ 143 20 := fp 143 20 (Or.inr (by decide))
          try dsimp +instances only
          rw [p2, iAnd_bb]
          exact (A4 n w d (fun r => T r && y.1 r) x s (h.f fp (by omega)) (fun l => (mev_f fp l r).trans (he l)) (by rw [mT_f fp, L1, p3]; exact e2)).imp (fun b t q => ⟨f3.tr ff q.1, q.2⟩)
        · rw [if_neg c] at e
          cases e
          have hh : ¬ hereC σ = 38 := fun k => c ((hereC_is h (by decide)).mp k)
          rw [if_pos hh, if_pos (bI_01 _)]
          exact zP'.ret ⟨⟨fr3.refl σ, rfl⟩, rfl, rfl⟩
end
section
/-! 6q.query -/
/-! A QUERY AS A TEXT, told once for both sides -/
def rngR2 (a : Int) : zRd → Sum Int ((Int × Int) × Int)
  | .inl q => .inl q
  | .inr y => .inr ((a, y.1), y.2)
def rngR1 (f : Int → Int) (L : Int) : zRd → Sum Int ((Int × Int) × Int)
  | .inl q => .inl q
  | .inr x => if x.2 < L ∧ f x.2 = 45 then rngR2 x.1 (numR 2 x.1 31 f L (x.2 + 1)) else .inr ((x.1, x.1), x.2)
def rngR (f : Int → Int) (L p : Int) : Sum Int ((Int × Int) × Int) := if p < L ∧ f p = 42 then .inr ((0, 31), p + 1) else rngR1 f L (numR 2 0 31 f L p)
def gBd (p L : Int) : Sum Int ((Int × Int) × Int) → Prop
  | .inl q => p ≤ q ∧ q ≤ L
  | .inr x => p < x.2 ∧ x.2 ≤ L ∧ 0 ≤ x.1.1 ∧ x.1.1 ≤ x.1.2 ∧ x.1.2 ≤ 31
theorem rngR_bd {f : Int → Int} {L p : Int} (h : p ≤ L) : gBd p L (rngR f L p) := by
  unfold rngR
  by_cases c : p < L ∧ f p = 42
  · rw [if_pos c]
    exact ⟨by show p < p + 1; omega, by show p + 1 ≤ L; omega, by show (0 : Int) ≤ 0; omega, by show (0 : Int) ≤ 31; omega, by show (31 : Int) ≤ 31; omega⟩
  · rw [if_neg c]
    have b := numR_bd (w := 2) (lo := 0) (hi := 31) (f := f) h
    cases e : numR 2 0 31 f L p with
    | inl q =>
      rw [e] at b
      exact b
    | inr x =>
      rw [e] at b
      have b : p ≤ x.2 ∧ x.2 ≤ L := b
      have k := numR_ok (v := x.1) (p' := x.2) e
      unfold rngR1
      try dsimp only
      by_cases c2 : x.2 < L ∧ f x.2 = 45
      · rw [if_pos c2]
        have b2 := numR_bd (w := 2) (lo := x.1) (hi := 31) (f := f) (L := L) (p := x.2 + 1) (by omega)
        cases e2 : numR 2 x.1 31 f L (x.2 + 1) with
        | inl q =>
          rw [e2] at b2
          have b2 : x.2 + 1 ≤ q ∧ q ≤ L := b2
          exact ⟨by omega, b2.2⟩
        | inr y =>
          rw [e2] at b2
          have b2 : x.2 + 1 ≤ y.2 ∧ y.2 ≤ L := b2
          have k2 := numR_ok (v := y.1) (p' := y.2) e2
          exact ⟨by show p < y.2; omega, b2.2, k.1, k2.1, k2.2.1⟩
      · rw [if_neg c2]
        exact ⟨k.2.2, b.2, k.1, Int.le_refl _, k.2.1⟩
/-- the measure, the box, where E begins (-1: there is none), for which rows it holds -/
abbrev zQy : Type := Int × Bx × Int × (Int → Bool)
abbrev zQr : Type := Sum Int (zQy × Int)
def qryE (m : Int) (B : Bx) (e : Int) : zEx → zQr
  | .inl q => .inl q
  | .inr x => .inr ((m, B, e, x.1), x.2)
def qryS (ev : Int → Int → Int) (f : Int → Int) (L : Int) (m : Int) (B : Bx) : zRd → zQr
  | .inl q => .inl q
  | .inr x => qryE m B x.2 (eP ev f L 700 0 0 x.2 (fun _ => true))
def qryI (ev : Int → Int → Int) (f : Int → Int) (L : Int) (m : Int) (B : Bx) : zRd → zQr
  | .inl q => .inl q
  | .inr x => qryS ev f L m B (sgnR 32 f L x.2)
def qryF (ev : Int → Int → Int) (f : Int → Int) (L : Int) (m : Int) (B : Bx) (p : Int) : zQr := if p < L ∧ f p = 32 then qryI ev f L m B (wrdR 5 2 f L (p + 1)) else .inr ((m, B, -1, fun _ => true), p)
def qryY (ev : Int → Int → Int) (f : Int → Int) (L : Int) (m : Int) (a : Int × Int) : Sum Int ((Int × Int) × Int) → zQr
  | .inl q => .inl q
  | .inr y => qryF ev f L m (a.1, a.2, y.1.1, y.1.2) y.2
def qryB (ev : Int → Int → Int) (f : Int → Int) (L : Int) (m : Int) (a : Int × Int) : zRd → zQr
  | .inl q => .inl q
  | .inr x => qryY ev f L m a (rngR f L x.2)
def qryX (ev : Int → Int → Int) (f : Int → Int) (L : Int) (m : Int) : Sum Int ((Int × Int) × Int) → zQr
  | .inl q => .inl q
  | .inr x => qryB ev f L m x.1 (sgnR 32 f L x.2)
def qryA (ev : Int → Int → Int) (f : Int → Int) (L : Int) (m : Int) : zRd → zQr
  | .inl q => .inl q
  | .inr x => qryX ev f L m (rngR f L x.2)
def qryV (ev : Int → Int → Int) (f : Int → Int) (L : Int) : zRd → zQr
  | .inl q => .inl q
  | .inr x => qryA ev f L x.1 (sgnR 32 f L x.2)
def qryR (ev : Int → Int → Int) (f : Int → Int) (L p : Int) : zQr := qryV ev f L (wrdR 4 36 f L p)
theorem wordV4_le {f : Int → Int} {L p : Int} : wordV 4 36 f L p ≤ 6 := by
  have h := wordG_le (c := charC 4) (f := f) (b := p) (e := wend f L 160 p) 36 0 0 0 (Int.le_refl 0)
  have e : bkC (charC 4) 36 0 = 6 := by decide +kernel
  rw [e] at h
  exact h
theorem wrdR_v {a Ln : Nat} {f : Int → Int} {L p v p' : Int} (h : wrdR a Ln f L p = .inr (v, p')) : v = wordV a Ln f L p := by
  unfold wrdR at h
  split at h
  · cases h
  · exact (congrArg (·.1) (Sum.inr.inj h)).symm
/-- a query read: its bounds; where it has an E, that E is read there -/
def qOkP (ev : Int → Int → Int) (f : Int → Int) (L : Int) (Q : zQy) : Prop := (0 ≤ Q.1 ∧ Q.1 ≤ 6) ∧ bOk Q.2.1 ∧ ((Q.2.2.1 < 0 ∧ ∀ r, Q.2.2.2 r = true) ∨ (0 ≤ Q.2.2.1 ∧ Q.2.2.1 ≤ L ∧ ∃ p', eP ev f L 700 0 0 Q.2.2.1 (fun _ => true) = .inr (Q.2.2.2, p')))
theorem qryR_ok {ev : Int → Int → Int} {f : Int → Int} {L p : Int} (h0 : 0 ≤ p) (h : p ≤ L) : (∀ q, qryR ev f L p = .inl q → p ≤ q ∧ q ≤ L) ∧ ∀ x, qryR ev f L p = .inr x → p < x.2 ∧ x.2 ≤ L ∧ qOkP ev f L x.1 := by
  unfold qryR
  have b1 := wrdR_bd (a := 4) (Ln := 36) (f := f) h
  cases e1 : wrdR 4 36 f L p with
  | inl q =>
    rw [e1] at b1
    exact ⟨fun q' e => (by cases e; exact b1), fun x e => (by cases e)⟩
  | inr v =>
    rw [e1] at b1
    have b1 : p ≤ v.2 ∧ v.2 ≤ L := b1
    have k1 := wrdR_ok (v := v.1) (p' := v.2) e1
    have k1b : v.1 ≤ 6 := by
      rw [wrdR_v (v := v.1) (p' := v.2) e1]
      exact wordV4_le
    have b2 := sgnR_bd (x := 32) (f := f) b1.2
    dsimp only [qryV]
    cases e2 : sgnR 32 f L v.2 with
    | inl q =>
      rw [e2] at b2
      have b2 : v.2 ≤ q ∧ q ≤ L := b2
      exact ⟨fun q' e => (by cases e; omega), fun x e => (by cases e)⟩
    | inr s =>
      rw [e2] at b2
      have b2 : v.2 ≤ s.2 ∧ s.2 ≤ L := b2
      have b3 := rngR_bd (f := f) b2.2
      dsimp only [qryA]
      cases e3 : rngR f L s.2 with
      | inl q =>
        rw [e3] at b3
        have b3 : s.2 ≤ q ∧ q ≤ L := b3
        exact ⟨fun q' e => (by cases e; omega), fun x e => (by cases e)⟩
      | inr a =>
        rw [e3] at b3
        obtain ⟨b3, b3', c1, c2, c3⟩ := b3
        have b4 := sgnR_bd (x := 32) (f := f) b3'
        dsimp only [qryX]
        cases e4 : sgnR 32 f L a.2 with
        | inl q =>
          rw [e4] at b4
          have b4 : a.2 ≤ q ∧ q ≤ L := b4
          exact ⟨fun q' e => (by cases e; omega), fun x e => (by cases e)⟩
        | inr t =>
          rw [e4] at b4
          have b4 : a.2 ≤ t.2 ∧ t.2 ≤ L := b4
          have b5 := rngR_bd (f := f) b4.2
          dsimp only [qryB]
          cases e5 : rngR f L t.2 with
          | inl q =>
            rw [e5] at b5
            have b5 : t.2 ≤ q ∧ q ≤ L := b5
            exact ⟨fun q' e => (by cases e; omega), fun x e => (by cases e)⟩
          | inr y =>
            rw [e5] at b5
            obtain ⟨b5, b5', d1, d2, d3⟩ := b5
            dsimp only [qryY]
            unfold qryF
            have hB : bOk (a.1.1, a.1.2, y.1.1, y.1.2) := ⟨c1, c2, c3, d1, d2, d3⟩
            by_cases c : y.2 < L ∧ f y.2 = 32
            · rw [if_pos c]
              have b6 := wrdR_bd (a := 5) (Ln := 2) (f := f) (L := L) (p := y.2 + 1) (by omega)
              cases e6 : wrdR 5 2 f L (y.2 + 1) with
              | inl q =>
                rw [e6] at b6
                have b6 : y.2 + 1 ≤ q ∧ q ≤ L := b6
                exact ⟨fun q' e => (by cases e; omega), fun x e => (by cases e)⟩
              | inr w =>
                rw [e6] at b6
                have b6 : y.2 + 1 ≤ w.2 ∧ w.2 ≤ L := b6
                have b7 := sgnR_bd (x := 32) (f := f) b6.2
                dsimp only [qryI]
                cases e7 : sgnR 32 f L w.2 with
                | inl q =>
                  rw [e7] at b7
                  have b7 : w.2 ≤ q ∧ q ≤ L := b7
                  exact ⟨fun q' e => (by cases e; omega), fun x e => (by cases e)⟩
                | inr u =>
                  rw [e7] at b7
                  have b7 : w.2 ≤ u.2 ∧ u.2 ≤ L := b7
                  obtain ⟨b8, b9⟩ := eP_bd (ev := ev) (f := f) 700 0 0 u.2 (fun _ => true) (by decide) b7.2
                  dsimp only [qryS]
                  cases e8 : eP ev f L 700 0 0 u.2 (fun _ => true) with
                  | inl q =>
                    have b8 := b8 q e8
                    exact ⟨fun q' e => (by cases e; omega), fun x e => (by cases e)⟩
                  | inr z =>
                    have b9 := b9 z e8
                    exact ⟨fun q' e => (by cases e), fun x e => (by cases e; exact ⟨by (try dsimp only); omega, b9.2.1, ⟨k1.1, k1b⟩, hB, Or.inr ⟨by (try dsimp only); omega, b7.2, z.2, e8⟩⟩)⟩
            · rw [if_neg c]
              exact ⟨fun q' e => (by cases e), fun x e => (by cases e; exact ⟨by (try dsimp only); omega, b5', ⟨k1.1, k1b⟩, hB, Or.inl ⟨by show (-1 : Int) < 0; omega, fun _ => rfl⟩⟩)⟩
def runP (ev : Int → Int → Int) (f : Int → Int) (L : Int) : Nat → Int → List zQy → Sum Int (List zQy)
  | 0, p, _ => .inl p
  | m + 1, p, l => match qryR ev f L p with
    | .inl q => .inl q
    | .inr x => if x.2 < L then (if l.length + 1 < 8 ∧ f x.2 = 59 then runP ev f L m (x.2 + 1) (l ++ [x.1]) else .inl x.2) else .inr (l ++ [x.1])
theorem runP_1 {ev : Int → Int → Int} {f : Int → Int} {L : Int} {m : Nat} {p : Int} {l : List zQy} : runP ev f L (m + 1) p l = match qryR ev f L p with
    | .inl q => .inl q
    | .inr x => if x.2 < L then (if l.length + 1 < 8 ∧ f x.2 = 59 then runP ev f L m (x.2 + 1) (l ++ [x.1]) else .inl x.2) else .inr (l ++ [x.1]) := rfl
theorem runP_ok {ev : Int → Int → Int} {f : Int → Int} {L : Int} : ∀ (m : Nat) (p : Int) (l : List zQy), 0 ≤ p → p ≤ L → l.length + m = 8 → (∀ Q ∈ l, qOkP ev f L Q) → (∀ q, runP ev f L m p l = .inl q → p ≤ q ∧ q ≤ L) ∧ ∀ r, runP ev f L m p l = .inr r → r.length ≤ 8 ∧ 0 < r.length ∧ ∀ Q ∈ r, qOkP ev f L Q
  | 0, p, l, h0, h, hl, hq => ⟨fun q e => (by cases e; exact ⟨Int.le_refl p, h⟩), fun r e => (by cases e)⟩
  | m + 1, p, l, h0, h, hl, hq => by
    rw [runP_1]
    obtain ⟨b1, b2⟩ := qryR_ok (ev := ev) (f := f) h0 h
    cases e1 : qryR ev f L p with
    | inl q => exact ⟨fun q' e => (by cases e; exact b1 q e1), fun x e => (by cases e)⟩
    | inr x =>
      have b := b2 x e1
      have hq' : ∀ Q ∈ l ++ [x.1], qOkP ev f L Q := fun Q hQ => by
        rcases List.mem_append.mp hQ with k | k
        · exact hq Q k
        · rw [List.mem_singleton.mp k]
          exact b.2.2
      try dsimp only
      by_cases c : x.2 < L
      · rw [if_pos c]
        by_cases c2 : l.length + 1 < 8 ∧ f x.2 = 59
        · rw [if_pos c2]
          obtain ⟨k1, k2⟩ := runP_ok (ev := ev) (f := f) (L := L) m (x.2 + 1) (l ++ [x.1]) (by omega) (by omega) (by rw [List.length_append]; show l.length + 1 + m = 8; omega) hq'
          exact ⟨fun q e => (by have := k1 q e; omega), k2⟩
        · rw [if_neg c2]
          exact ⟨fun q e => (by cases e; omega), fun r e => (by cases e)⟩
      · rw [if_neg c]
        exact ⟨fun q e => (by cases e), fun r e => (by cases e; rw [List.length_append]; exact ⟨by show l.length + 1 ≤ 8; omega, by show 0 < l.length + 1; omega, hq'⟩)⟩
/-! the class -/
theorem takes_is {σ : zS} (h : tpL σ) (hs : σ 120 3 = -1) {x : Int} (hx : 1 ≤ x) : (σ 120 2 < σ 120 1 ∧ cT σ (σ 120 2) = x → g_ta_takes x σ = some (1, zu σ 120 2 (σ 120 2 + 1))) ∧ (¬ (σ 120 2 < σ 120 1 ∧ cT σ (σ 120 2) = x) → g_ta_takes x σ = some (0, σ)) := by
  rw [p_takes h.i hs hx]
  refine ⟨fun k => ?_, fun k => ?_⟩
  · have e := (tpH_is h hx).mpr k
    rw [if_pos e, if_pos e]
  · have e : ¬ tpH σ = x := fun e => k ((tpH_is h hx).mp e)
    rw [if_neg e, if_neg e]
def rgPo (σ : zS) (r : Sum Int ((Int × Int) × Int)) (v : Int) (s : zS) : Prop := frTa σ s ∧ match r with
  | .inl q => s 120 3 = q
  | .inr x => v = x.1.1 * 32 + x.1.2 ∧ s 120 2 = x.2 ∧ s 120 3 = -1
theorem c_range {σ : zS} (h : tpL σ) (hs : σ 120 3 = -1) : zP' (g_ta_range σ) (rgPo σ (rngR (cT σ) (σ 120 1) (σ 120 2))) := by
  have h2 := h.2.1
  unfold g_ta_range rngR
  obtain ⟨y1, y2⟩ := takes_is h hs (x := 42) (by decide)
  by_cases c : σ 120 2 < σ 120 1 ∧ cT σ (σ 120 2) = 42
  · rw [y1 c, if_pos c]
    rw [Option.bind_some]
    try dsimp +instances only
    rw [if_neg (by decide)]
    exact zP'.ret ⟨frTa.u (Or.inl rfl), rfl, zu_e rfl, (zu_i (by decide)).trans hs⟩
  · rw [y2 c, if_neg c]
    rw [Option.bind_some]
    try dsimp +instances only
    rw [if_pos rfl]
    have N := c_num (w := 2) (lo := 0) (hi := 31) h hs (by decide)
    refine zP'.bind N (fun v s1 p1 => ?_)
    have p1 : cPo σ (numR 2 0 31 (cT σ) (σ 120 1) (σ 120 2)) v s1 := p1
    try dsimp +instances only
    have b1 := numR_bd (w := 2) (lo := 0) (hi := 31) (f := cT σ) h2.2
    cases e1 : numR 2 0 31 (cT σ) (σ 120 1) (σ 120 2) with
    | inl q =>
      obtain ⟨f1, f3⟩ := p1.no e1
      rw [e1] at b1
      have b1 : σ 120 2 ≤ q ∧ q ≤ σ 120 1 := b1
      rw [p_takes0 (by omega) (by decide)]
      rw [Option.bind_some]
      try dsimp +instances only
      rw [if_pos rfl]
      exact zP'.ret ⟨f1, f3⟩
    | inr x =>
      obtain ⟨f1, fv, fp, f3⟩ := p1.ok e1
      rw [e1] at b1
      have b1 : σ 120 2 ≤ x.2 ∧ x.2 ≤ σ 120 1 := b1
      have k := numR_ok (v := x.1) (p' := x.2) e1
      subst fv
      have t1 : tpL s1 := h.mv f1 (by omega)
      have L1 : s1 120 1 = σ 120 1 := f1 120 1 (Or.inr (by decide))
      obtain ⟨z1, z2⟩ := takes_is t1 f3 (x := 45) (by decide)
      rw [cT_f f1, L1, fp] at z1 z2
      unfold rngR1
      try dsimp only
      by_cases c2 : x.2 < σ 120 1 ∧ cT σ x.2 = 45
      · rw [z1 c2, if_pos c2]
        rw [Option.bind_some]
        try dsimp +instances only
        rw [if_neg (by decide)]
        obtain ⟨f, t, s3, s2, sT, sL⟩ := tk_st t1 f3 (by omega)
        rw [fp] at f t s3 s2 sT sL
        generalize zu s1 120 2 (x.2 + 1) = s2' at f t s3 s2 sT sL
        have N2 := c_num (w := 2) (lo := x.1) (hi := 31) t s3 (by decide)
        rw [sT, sL, s2, cT_f f1, L1] at N2
        refine zP'.bind N2 (fun v s3 p3 => ?_)
        have p3 : cPo s2' (numR 2 x.1 31 (cT σ) (σ 120 1) (x.2 + 1)) v s3 := p3
        try dsimp +instances only
        refine zP'.ret ?_
        cases e3 : numR 2 x.1 31 (cT σ) (σ 120 1) (x.2 + 1) with
        | inl q =>
          obtain ⟨g1, g3⟩ := p3.no e3
          exact ⟨(f1.trans f).trans g1, g3⟩
        | inr y =>
          obtain ⟨g1, gv, gp, g3⟩ := p3.ok e3
          have k2 := numR_ok (v := y.1) (p' := y.2) e3
          refine ⟨(f1.trans f).trans g1, ?_, gp, g3⟩
          try dsimp only
          rw [gv, w32_id (x := x.1 * 32) (by omega) (by omega), w32_id (x := x.1 * 32 + y.1) (by omega) (by omega)]
      · rw [z2 c2, if_neg c2]
        rw [Option.bind_some]
        try dsimp +instances only
        rw [if_pos rfl]
        refine zP'.ret ⟨f1, ?_, fp, f3⟩
        try dsimp only
        rw [w32_id (x := x.1 * 32) (by omega) (by omega), w32_id (x := x.1 * 32 + x.1) (by omega) (by omega)]
theorem c_range0 {σ : zS} (hs : σ 120 3 ≠ -1) : zP' (g_ta_range σ) (fun _ s => s = σ) := by
  unfold g_ta_range
  rw [p_takes0 hs (by decide)]
  rw [Option.bind_some]
  try dsimp +instances only
  rw [if_pos rfl]
  refine zP'.bind (p_number0 hs (by decide)) (fun v s p => ?_)
  try dsimp +instances only
  rw [p, p_takes0 hs (by decide)]
  rw [Option.bind_some]
  try dsimp +instances only
  rw [if_pos rfl]
  exact zP'.ret rfl
theorem c_ranges0b {x : Int} {σ : zS} (hs : σ 120 3 ≠ -1) : zP' ((g_ta_wants 32 σ).bind fun o_8 => (g_ta_range o_8.2).bind fun o_12 => (g_ta_isSound o_12.2).bind fun o_17 => if o_17.1 = 0 then some (-1, o_17.2) else (g_b_of (w32 (Int.tdiv x 32)) (Int.tmod x 32) (w32 (Int.tdiv o_12.1 32)) (Int.tmod o_12.1 32) o_17.2).bind fun o_39 => some (o_39.1, o_39.2)) (fun _ s => s = σ) := by
  rw [p_wants0 hs (by decide)]
  rw [Option.bind_some]
  try dsimp +instances only
  refine zP'.bind (c_range0 hs) (fun v s p => ?_)
  try dsimp +instances only
  rw [p, p_isSound, if_neg hs]
  rw [Option.bind_some]
  try dsimp +instances only
  rw [if_pos rfl]
  exact zP'.ret rfl
theorem c_ranges0 {σ : zS} (hs : σ 120 3 ≠ -1) : zP' (g_ta_ranges σ) (fun _ s => s = σ) := by
  unfold g_ta_ranges
  refine zP'.bind (c_range0 hs) (fun v s p => ?_)
  try dsimp +instances only
  rw [p]
  exact c_ranges0b hs
theorem tdm {a b : Int} (ha : 0 ≤ a ∧ a ≤ 31) (hb : 0 ≤ b ∧ b ≤ 31) : w32 (Int.tdiv (a * 32 + b) 32) = a ∧ Int.tmod (a * 32 + b) 32 = b := by
  have e1 : Int.tdiv (a * 32 + b) 32 = a := by
    rw [Int.tdiv_eq_ediv_of_nonneg (by omega)]
    omega
  have e2 : Int.tmod (a * 32 + b) 32 = b := by
    rw [Int.tmod_eq_emod_of_nonneg (by omega)]
    omega
  rw [e1, e2, w32_id (by omega) (by omega)]
  exact ⟨rfl, rfl⟩
/-- the two ranges: the box -/
def rgsR (f : Int → Int) (L : Int) : Sum Int ((Int × Int) × Int) → Sum Int (Bx × Int)
  | .inl q => .inl q
  | .inr x => match sgnR 32 f L x.2 with
    | .inl q => .inl q
    | .inr t => match rngR f L t.2 with
      | .inl q => .inl q
      | .inr y => .inr ((x.1.1, x.1.2, y.1.1, y.1.2), y.2)
def bxPo (σ : zS) (r : Sum Int (Bx × Int)) (v : Int) (s : zS) : Prop := frTa σ s ∧ match r with
  | .inl q => s 120 3 = q
  | .inr x => v = enc x.1 ∧ s 120 2 = x.2 ∧ s 120 3 = -1
theorem c_ranges {σ : zS} (h : tpL σ) (hs : σ 120 3 = -1) : zP' (g_ta_ranges σ) (bxPo σ (rgsR (cT σ) (σ 120 1) (rngR (cT σ) (σ 120 1) (σ 120 2)))) := by
  have h2 := h.2.1
  unfold g_ta_ranges
  refine zP'.bind (c_range h hs) (fun v s1 p1 => ?_)
  obtain ⟨f1, p1⟩ := p1
  try dsimp +instances only
  have b1 := rngR_bd (f := cT σ) h2.2
  cases e1 : rngR (cT σ) (σ 120 1) (σ 120 2) with
  | inl q =>
    rw [e1] at b1 p1
    have b1 : σ 120 2 ≤ q ∧ q ≤ σ 120 1 := b1
    have p1 : s1 120 3 = q := p1
    exact (c_ranges0b (by omega)).imp (fun v s k => by
      rw [k]
      exact ⟨f1, p1⟩)
  | inr x =>
    rw [e1] at b1 p1
    obtain ⟨b1, b1', x1, x2, x3⟩ := b1
    obtain ⟨pv, pp, p3⟩ := p1
    have t1 : tpL s1 := h.mv f1 (by omega)
    have L1 : s1 120 1 = σ 120 1 := f1 120 1 (Or.inr (by decide))
    have W := c_sgn' (x := 32) t1 p3 (by decide)
    rw [cT_f f1, L1, pp] at W
    unfold rgsR
    try dsimp only
    refine zP'.bind W (fun u s2 p2 => ?_)
    try dsimp +instances only
    have b2 := sgnR_bd (x := 32) (f := cT σ) b1'
    cases e2 : sgnR 32 (cT σ) (σ 120 1) x.2 with
    | inl q =>
      obtain ⟨g1, g3⟩ := p2.no e2
      rw [e2] at b2
      have b2 : x.2 ≤ q ∧ q ≤ σ 120 1 := b2
      refine zP'.bind (c_range0 (by omega)) (fun w s3 p3' => ?_)
      try dsimp +instances only
      rw [p3', p_isSound, if_neg (by omega)]
      rw [Option.bind_some]
      try dsimp +instances only
      rw [if_pos rfl]
      exact zP'.ret ⟨f1.trans g1, g3⟩
    | inr t =>
      obtain ⟨g1, -, gp, g3⟩ := p2.ok e2
      rw [e2] at b2
      have b2 : x.2 ≤ t.2 ∧ t.2 ≤ σ 120 1 := b2
      have g12 := f1.trans g1
      have t2 : tpL s2 := h.mv g12 (by omega)
      have L2 : s2 120 1 = σ 120 1 := g12 120 1 (Or.inr (by decide))
      have R := c_range t2 g3
      rw [cT_f g12, L2, gp] at R
      try dsimp only
      refine zP'.bind R (fun w s3 p3' => ?_)
      obtain ⟨i1, p3'⟩ := p3'
      try dsimp +instances only
      have b3 := rngR_bd (f := cT σ) b2.2
      rw [p_isSound]
      rw [Option.bind_some]
      try dsimp +instances only
      cases e3 : rngR (cT σ) (σ 120 1) t.2 with
      | inl q =>
        rw [e3] at b3 p3'
        have b3 : t.2 ≤ q ∧ q ≤ σ 120 1 := b3
        have p3' : s3 120 3 = q := p3'
        have n3 : ¬ s3 120 3 = -1 := by omega
        rw [if_neg n3, if_pos rfl]
        exact zP'.ret ⟨g12.trans i1, p3'⟩
      | inr y =>
        rw [e3] at b3 p3'
        obtain ⟨-, -, y1, y2, y3⟩ := b3
        obtain ⟨qv, qp, q3⟩ := p3'
        obtain ⟨m1, m2⟩ := tdm (a := x.1.1) (b := x.1.2) (by omega) (by omega)
        obtain ⟨m3, m4⟩ := tdm (a := y.1.1) (b := y.1.2) (by omega) (by omega)
        have hB := b_of (b := (x.1.1, x.1.2, y.1.1, y.1.2)) (by dsimp only [sOk]; omega) s3
        dsimp only at hB
        rw [if_pos q3, if_neg (by decide), pv, qv, m1, m2, m3, m4, hB]
        rw [Option.bind_some]
        exact zP'.ret ⟨g12.trans i1, rfl, qp, q3⟩
end
section
/-! 6r.parts -/
/-! QUERIES AS A TEXT: the class -/
def frQu (σ s : zS) : Prop := ∀ a j, (a ≠ 120 ∨ (j ≠ 2 ∧ j ≠ 3)) → a ≠ 123 → a ≠ 124 → a ≠ 125 → (a ≠ 122 ∨ j ≠ 5) → s a j = σ a j
theorem frQu.refl (σ : zS) : frQu σ σ := fun _ _ _ _ _ _ _ => rfl
theorem frQu.of {σ s : zS} (h : frTa σ s) : frQu σ s := fun a j k _ _ _ _ => h a j k
theorem frQu.trans {σ s t : zS} (h1 : frQu σ s) (h2 : frQu s t) : frQu σ t := fun a j k1 k2 k3 k4 k5 => (h2 a j k1 k2 k3 k4 k5).trans (h1 a j k1 k2 k3 k4 k5)
theorem frQu.u {σ : zS} {a : Nat} {i v : Int} (h : a = 123 ∨ a = 124 ∨ a = 125 ∨ (a = 122 ∧ i = 5)) : frQu σ (zu σ a i v) := fun b j k1 k2 k3 k4 k5 => zu_c (by omega)
/-- what a part's reading leaves: the tape, the rows -/
theorem frQu.L {σ s : zS} (f : frQu σ s) : s 120 1 = σ 120 1 := f 120 1 (Or.inr (by decide)) (by decide) (by decide) (by decide) (Or.inl (by decide))
theorem frQu.T {σ s : zS} (f : frQu σ s) : cT s = cT σ := by
  funext j
  unfold cT
  rw [f.L, f 121 j (Or.inl (by decide)) (by decide) (by decide) (by decide) (Or.inl (by decide))]
theorem frQu.t {σ s : zS} (f : frQu σ s) (h : tpL σ) (h2 : 0 ≤ s 120 2 ∧ s 120 2 ≤ σ 120 1) : tpL s := by
  have e2 : s 121 = σ 121 := funext (fun j => f 121 j (Or.inl (by decide)) (by decide) (by decide) (by decide) (Or.inl (by decide)))
  unfold tpL
  rw [f.L, e2]
  exact ⟨h.1, h2, h.2.2⟩
theorem exOk.q {I : Nat → Bool} {ev : Int → Int → Int} {σ s : zS} (h : exOk I ev σ) (f : frQu σ s) (H : CI s) : exOk I ev s := by
  refine ⟨H, ST_E h.2.1 (fun a j k => f a j (Or.inl (by unfold stK at k; omega)) (by unfold stK at k; omega) (by unfold stK at k; omega) (by unfold stK at k; omega) (Or.inl (by unfold stK at k; omega))), fun q hq hI l l0 l3 => ?_⟩
  rw [← h.2.2 q hq hI l l0 l3]
  unfold cev
  rw [f 44 _ (Or.inl (by decide)) (by decide) (by decide) (by decide) (Or.inl (by decide)), f 42 _ (Or.inl (by decide)) (by decide) (by decide) (by decide) (Or.inl (by decide)), f 43 _ (Or.inl (by decide)) (by decide) (by decide) (by decide) (Or.inl (by decide))]
def riPo (I : Nat → Bool) (σ : zS) (r : zQr) (v : Int) (s : zS) : Prop := frTa σ s ∧ match r with
  | .inl q => s 120 3 = q
  | .inr x => s 120 2 = x.2 ∧ s 120 3 = -1 ∧ btE I v x.1.2.2.2
theorem c_if0b {σ : zS} (hs : σ 120 3 ≠ -1) : zP' ((g_ta_wants 32 σ).bind fun o_32 => (g_grp68 zR 68 0 o_32.2).bind fun o_37 => some (o_37.1, o_37.2)) (fun _ s => s = σ) := by
  rw [p_wants0 hs (by decide)]
  rw [Option.bind_some]
  try dsimp +instances only
  exact zP'.bind ((c_ex0 hs zR).1 0) (fun v s p => zP'.ret p)
theorem c_if0 {σ : zS} (hs : σ 120 3 ≠ -1) : zP' (g_qu_readIf σ) (fun _ s => s = σ) := by
  unfold g_qu_readIf
  rw [p_takes0 hs (by decide)]
  rw [Option.bind_some]
  try dsimp +instances only
  rw [if_neg (by decide)]
  exact zP'.ret rfl
theorem c_if {I : Nat → Bool} {ev : Int → Int → Int} {m : Int} {B : Bx} {σ : zS} (h : tpL σ) (hs : σ 120 3 = -1) (O : exOk I ev σ) : zP' (g_qu_readIf σ) (riPo I σ (qryF ev (cT σ) (σ 120 1) m B (σ 120 2))) := by
  have h1 := h.1
  have h2 := h.2.1
  unfold g_qu_readIf qryF
  obtain ⟨y1, y2⟩ := takes_is h hs (x := 32) (by decide)
  by_cases c : σ 120 2 < σ 120 1 ∧ cT σ (σ 120 2) = 32
  · rw [y1 c, if_pos c]
    rw [Option.bind_some]
    try dsimp +instances only
    rw [if_pos (by decide)]
    obtain ⟨f, t, s3, s2, sT, sL⟩ := tk_st h hs c.1
    generalize zu σ 120 2 (σ 120 2 + 1) = s1 at f t s3 s2 sT sL
    have W := c_wrd swk5 t s3
    rw [sT, sL, s2] at W
    refine zP'.bind W (fun w s4 p4 => ?_)
    obtain ⟨p4, -⟩ := p4
    try dsimp +instances only
    have b1 := wrdR_bd (a := 5) (Ln := 2) (f := cT σ) (L := σ 120 1) (p := σ 120 2 + 1) (by omega)
    cases e1 : wrdR 5 2 (cT σ) (σ 120 1) (σ 120 2 + 1) with
    | inl q =>
      obtain ⟨g1, g3⟩ := p4.no e1
      rw [e1] at b1
      have b1 : σ 120 2 + 1 ≤ q ∧ q ≤ σ 120 1 := b1
      exact (c_if0b (by omega)).imp (fun v s k => by
        rw [k]
        exact ⟨f.trans g1, g3⟩)
    | inr x =>
      obtain ⟨g1, -, gp, g3⟩ := p4.ok e1
      rw [e1] at b1
      have b1 : σ 120 2 + 1 ≤ x.2 ∧ x.2 ≤ σ 120 1 := b1
      have fg := f.trans g1
      have t4 : tpL s4 := h.mv fg (by omega)
      have L4 : s4 120 1 = σ 120 1 := fg 120 1 (Or.inr (by decide))
      have W2 := c_sgn' (x := 32) t4 g3 (by decide)
      rw [cT_f fg, L4, gp] at W2
      dsimp only [qryI]
      refine zP'.bind W2 (fun u s5 p5 => ?_)
      try dsimp +instances only
      have b2 := sgnR_bd (x := 32) (f := cT σ) b1.2
      cases e2 : sgnR 32 (cT σ) (σ 120 1) x.2 with
      | inl q =>
        obtain ⟨i1, i3⟩ := p5.no e2
        rw [e2] at b2
        have b2 : x.2 ≤ q ∧ q ≤ σ 120 1 := b2
        refine zP'.bind ((c_ex0 (by omega) zR).1 0) (fun v s p => zP'.ret ?_)
        try dsimp only
        rw [p]
        exact ⟨fg.trans i1, i3⟩
      | inr y =>
        obtain ⟨i1, -, ip, i3⟩ := p5.ok e2
        rw [e2] at b2
        have b2 : x.2 ≤ y.2 ∧ y.2 ≤ σ 120 1 := b2
        have fi := fg.trans i1
        have t5 : tpL s5 := h.mv fi (by omega)
        have L5 : s5 120 1 = σ 120 1 := fi 120 1 (Or.inr (by decide))
        have X := (c_expr (I := I) (ev := ev) 700).1 zR 0 (fun _ => true) s5 t5 i3 (O.f fi t5) (by decide) (by decide) (by rw [L5, ip]; omega)
        rw [cT_f fi, L5, ip] at X
        dsimp only [qryS]
        refine zP'.bind X (fun v s p => zP'.ret ?_)
        obtain ⟨p1, p2⟩ := p
        try dsimp only
        cases e3 : eP ev (cT σ) (σ 120 1) 700 0 0 y.2 (fun _ => true) with
        | inl q =>
          rw [e3] at p2
          exact ⟨fi.trans p1, p2⟩
        | inr z =>
          rw [e3] at p2
          exact ⟨fi.trans p1, p2⟩
  · rw [y2 c, if_neg c]
    rw [Option.bind_some]
    try dsimp +instances only
    rw [if_neg (by decide)]
    exact zP'.ret ⟨frTa.refl σ, rfl, hs, fun q hq _ => bq_m1 (by omega)⟩
/-! the parts -/
def quT4 (n : Nat) (x : Int) (σ : zS) : Option (Unit × zS) := if 8 ≤ zu σ 122 5 (w32 (x + 1)) 122 5 then g_qu_readParts_L91 (g_qu_readParts_L9 n) x 0 (zu σ 122 5 (w32 (x + 1))) else g_qu_readParts_L91 (g_qu_readParts_L9 n) x 1 (zu σ 122 5 (w32 (x + 1)))
def quT3 (n : Nat) (x : Int) (σ : zS) : Option (Unit × zS) := (g_qu_readIf σ).bind fun o => if 0 ≤ x ∧ x < 8 then quT4 n x (zu o.2 125 x o.1) else none
def quT2 (n : Nat) (x : Int) (σ : zS) : Option (Unit × zS) := (g_ta_ranges σ).bind fun o => if 0 ≤ x ∧ x < 8 then quT3 n x (zu o.2 124 x o.1) else none
def quT1 (n : Nat) (x : Int) (σ : zS) : Option (Unit × zS) := (g_ta_wants 32 σ).bind fun o => quT2 n x o.2
theorem qu_eq {n : Nat} {x : Int} {σ : zS} (hx : x < 8) : g_qu_readParts_L9 (n + 1) 1 x σ = (g_ta_word 4 σ).bind fun o => if 0 ≤ x ∧ x < 8 then quT1 n x (zu o.2 123 x o.1) else none := by
  conv => lhs; unfold g_qu_readParts_L9
  rw [if_neg (by decide), if_neg (by omega)]
  rfl
def quN (σ : zS) (s : zS) : Prop := frQu σ s ∧ s 120 3 = σ 120 3
theorem q_t4 {n : Nat} {x : Int} {σ : zS} (hs : σ 120 3 ≠ -1) : zP' (quT4 n x σ) (fun _ s => quN σ s) := by
  have k : ∀ (m : Int) (s : zS), s 120 3 ≠ -1 → zP' (g_qu_readParts_L91 (g_qu_readParts_L9 n) x m s) (fun _ t => t = s) := fun m s h => by
    unfold g_qu_readParts_L91
    rw [p_another0 h]
    rw [Option.bind_some]
    try dsimp +instances only
    cases n with
    | zero => exact zP'.no
    | succ n =>
      unfold g_qu_readParts_L9
      rw [if_pos rfl]
      exact zP'.ret rfl
  have z3 : zu σ 122 5 (w32 (x + 1)) 120 3 = σ 120 3 := zu_a (by decide)
  have fin : ∀ t : zS, t = zu σ 122 5 (w32 (x + 1)) → quN σ t := fun t e => by
    rw [e]
    exact ⟨frQu.u (by omega), z3⟩
  unfold quT4
  exact zP'.ite (fun _ => (k _ _ (by rw [z3]; exact hs)).imp (fun _ t e => fin t e)) (fun _ => (k _ _ (by rw [z3]; exact hs)).imp (fun _ t e => fin t e))
theorem quN.tr {σ s t : zS} (f : frQu σ s) (e : s 120 3 = σ 120 3) (h : quN s t) : quN σ t := ⟨f.trans h.1, h.2.trans e⟩
theorem q_t3 {n : Nat} {x : Int} {σ : zS} (hs : σ 120 3 ≠ -1) : zP' (quT3 n x σ) (fun _ s => quN σ s) := by
  unfold quT3
  refine zP'.bind (c_if0 hs) (fun v s p => ?_)
  try dsimp +instances only
  rw [p]
  refine zP'.gd (fun _ => ?_)
  have z3 : zu σ 125 x v 120 3 = σ 120 3 := zu_a (by decide)
  exact (q_t4 (by rw [z3]; exact hs)).imp (fun _ t k => k.tr (frQu.u (by omega)) z3)
theorem q_t2 {n : Nat} {x : Int} {σ : zS} (hs : σ 120 3 ≠ -1) : zP' (quT2 n x σ) (fun _ s => quN σ s) := by
  unfold quT2
  refine zP'.bind (c_ranges0 hs) (fun v s p => ?_)
  try dsimp +instances only
  rw [p]
  refine zP'.gd (fun _ => ?_)
  have z3 : zu σ 124 x v 120 3 = σ 120 3 := zu_a (by decide)
  exact (q_t3 (by rw [z3]; exact hs)).imp (fun _ t k => k.tr (frQu.u (by omega)) z3)
theorem q_t1 {n : Nat} {x : Int} {σ : zS} (hs : σ 120 3 ≠ -1) : zP' (quT1 n x σ) (fun _ s => quN σ s) := by
  unfold quT1
  rw [p_wants0 hs (by decide)]
  rw [Option.bind_some]
  exact q_t2 hs
/-- what the class has of the parts read so far -/
def quH (I : Nat → Bool) (l : List zQy) (s : zS) : Prop := ∀ (i : Nat) (hi : i < l.length), s 123 (i : Int) = l[i].1 ∧ s 124 (i : Int) = enc l[i].2.1 ∧ btE I (s 125 (i : Int)) l[i].2.2.2
def quPo (I : Nat → Bool) (σ : zS) (r : Sum Int (List zQy)) (s : zS) : Prop := frQu σ s ∧ match r with
  | .inl q => s 120 3 = q
  | .inr l => s 120 3 = -1 ∧ s 122 5 = (l.length : Int) ∧ quH I l s
theorem quPo.tr {I : Nat → Bool} {σ s t : zS} {r : Sum Int (List zQy)} (f : frQu σ s) (h : quPo I s r t) : quPo I σ r t := by
  obtain ⟨h1, h2⟩ := h
  exact ⟨f.trans h1, h2⟩
theorem quN.po {I : Nat → Bool} {σ s t : zS} {q : Int} (f : frQu σ s) (e : s 120 3 = q) (h : quN s t) : quPo I σ (.inl q) t := ⟨f.trans h.1, h.2.trans e⟩
theorem CI_Qu {σ s : zS} (H : CI σ) (f : frQu σ s) (h2 : 0 ≤ s 120 2 ∧ s 120 2 ≤ 160) (h5 : 0 ≤ s 122 5 ∧ s 122 5 ≤ 8) : CI s := by
  refine ⟨fun a j => ?_, ?_⟩
  · by_cases c : (a = 120 ∧ (j = 2 ∨ j = 3)) ∨ a = 123 ∨ a = 124 ∨ a = 125 ∨ (a = 122 ∧ j = 5)
    · intro lo hi k
      rcases c with ⟨rfl, rfl | rfl⟩ | rfl | rfl | rfl | ⟨rfl, rfl⟩
      · have k2 : rng 120 2 = some (0, 160) := rfl
        rw [k2] at k
        cases k
        exact h2
      · have k2 : rng 120 3 = none := rfl
        rw [k2] at k
        cases k
      · have k2 : rng 123 j = none := rfl
        rw [k2] at k
        cases k
      · have k2 : rng 124 j = none := rfl
        rw [k2] at k
        cases k
      · have k2 : rng 125 j = none := rfl
        rw [k2] at k
        cases k
      · have k2 : rng 122 5 = some (0, 8) := rfl
        rw [k2] at k
        cases k
        exact h5
    · rw [f a j (by omega) (by omega) (by omega) (by omega) (by omega)]
      exact H.1 a j
  · unfold PG
    rw [f 129 1 (Or.inl (by decide)) (by decide) (by decide) (by decide) (Or.inl (by decide)), f 129 3 (Or.inl (by decide)) (by decide) (by decide) (by decide) (Or.inl (by decide)), f 169 0 (Or.inl (by decide)) (by decide) (by decide) (by decide) (Or.inl (by decide))]
    exact H.2
theorem quH_snoc {I : Nat → Bool} {l : List zQy} {Q : zQy} {σ s : zS} (hq : quH I l σ) (o : ∀ (a : Nat) (i : Nat), i < l.length → (a = 123 ∨ a = 124 ∨ a = 125) → s a (i : Int) = σ a (i : Int)) (n1 : s 123 (l.length : Int) = Q.1) (n2 : s 124 (l.length : Int) = enc Q.2.1) (n3 : btE I (s 125 (l.length : Int)) Q.2.2.2) : quH I (l ++ [Q]) s := fun i hi => by
  rw [List.length_append] at hi
  have hi : i < l.length + 1 := hi
  by_cases ci : i < l.length
  · rw [List.getElem_append_left ci, o 123 i ci (by omega), o 124 i ci (by omega), o 125 i ci (by omega)]
    exact hq i ci
  · have ei : i = l.length := by omega
    subst ei
    rw [List.getElem_append_right (by omega)]
    have e0 : ([Q] : List zQy)[l.length - l.length]'(by rw [Nat.sub_self]; exact Nat.one_pos) = Q := by
      simp
    rw [e0]
    exact ⟨n1, n2, n3⟩
theorem app_len {l : List zQy} {Q : zQy} : ((l ++ [Q]).length : Int) = (l.length : Int) + 1 := by
  rw [List.length_append]
  show ((l.length + 1 : Nat) : Int) = (l.length : Int) + 1
  omega
/-- behind a part that was read -/
theorem c_tail {I : Nat → Bool} {ev : Int → Int → Int} {n m : Nat} {l : List zQy} {Q : zQy} {p' : Int} {σ s5 : zS} (h : tpL σ) (F5 : frQu σ s5) (h0 : 0 ≤ p') (h1 : p' ≤ σ 120 1) (e52 : s5 120 2 = p') (e53 : s5 120 3 = -1) (e5b : s5 122 5 = (l.length : Int) + 1) (O5 : exOk I ev s5) (hq5 : quH I (l ++ [Q]) s5) (hl : l.length + 1 + m = 8) (rec : 0 < m → ∀ s6, tpL s6 → s6 120 3 = -1 → exOk I ev s6 → s6 120 2 = p' + 1 → frQu σ s6 → quH I (l ++ [Q]) s6 → zP' (g_qu_readParts_L9 n 1 ((l ++ [Q]).length : Int) s6) (fun _ s => quPo I s6 (runP ev (cT σ) (σ 120 1) m (p' + 1) (l ++ [Q])) s)) : zP' (if 8 ≤ (l.length : Int) + 1 then g_qu_readParts_L91 (g_qu_readParts_L9 n) (l.length : Int) 0 s5 else g_qu_readParts_L91 (g_qu_readParts_L9 n) (l.length : Int) 1 s5) (fun _ s => quPo I σ (if p' < σ 120 1 then (if l.length + 1 < 8 ∧ cT σ p' = 59 then runP ev (cT σ) (σ 120 1) m (p' + 1) (l ++ [Q]) else .inl p') else .inr (l ++ [Q])) s) := by
  have t5 : tpL s5 := F5.t h (by rw [e52]; exact ⟨h0, h1⟩)
  have ex := w32_id (x := (l.length : Int) + 1) (by omega) (by omega)
  have stop : ∀ (k : Nat) (x : Int) (s6 : zS), zP' (g_qu_readParts_L9 k 0 x s6) (fun _ s => s = s6) := fun k x s6 => by
    cases k with
    | zero => exact zP'.no
    | succ k =>
      unfold g_qu_readParts_L9
      rw [if_pos rfl]
      exact zP'.ret rfl
  refine zP'.ite (fun c8 => ?_) (fun c8 => ?_)
  · unfold g_qu_readParts_L91 g_ta_another
    rw [if_pos rfl]
    unfold g_ta_another_L15
    rw [p_here t5.i e53, tpH_cT t5, F5.T, F5.L, e52]
    rw [Option.bind_some]
    try dsimp +instances only
    by_cases cl : p' < σ 120 1
    · have nb := h.2.2 p' h0 cl
      rw [cT_e (p := p') h0 p' (Int.le_refl _) cl] at nb
      have n8 : ¬ (l.length + 1 < 8 ∧ cT σ p' = 59) := fun k => by omega
      have nz : ¬ cT σ p' = 0 := by omega
      rw [if_pos cl, if_pos cl, if_neg nz, if_neg n8, p_blame, if_pos e53]
      rw [Option.bind_some]
      rw [Option.bind_some]
      try dsimp +instances only
      exact (stop n _ _).imp (fun _ s k => by
        rw [k]
        exact ⟨F5.trans (frQu.of (frTa.u (Or.inr rfl))), by show zu s5 120 3 (s5 120 2) 120 3 = p'; rw [zu_e rfl, e52]⟩)
    · rw [if_neg cl, if_neg cl, if_pos rfl]
      rw [Option.bind_some]
      try dsimp +instances only
      exact (stop n _ s5).imp (fun _ s k => by
        rw [k]
        exact ⟨F5, e53, e5b.trans app_len.symm, hq5⟩)
  · unfold g_qu_readParts_L91
    refine zP'.bind (c_more t5 e53) (fun a' s6 p6 => ?_)
    obtain ⟨m0, m1, m2, m3⟩ := p6
    rw [e52, F5.L] at m1 m2 m3
    rw [F5.T] at m2 m3
    try dsimp +instances only
    by_cases cl : p' < σ 120 1
    · rw [if_pos cl]
      by_cases c59 : cT σ p' = 59
      · obtain ⟨rfl, m2b, m2c⟩ := m2 ⟨cl, c59⟩
        rw [if_pos ⟨by omega, c59⟩, ex, ← app_len (Q := Q)]
        have F6 := F5.trans (frQu.of m0)
        have t6 : tpL s6 := F6.t h (by rw [m2b]; omega)
        have hq6 : quH I (l ++ [Q]) s6 := fun i hi => by
          have k := hq5 i hi
          rw [m0 123 _ (Or.inl (by decide)), m0 124 _ (Or.inl (by decide)), m0 125 _ (Or.inl (by decide))]
          exact k
        exact (rec (by omega) s6 t6 m2c (O5.f m0 t6) m2b F6 hq6).imp (fun _ s k => k.tr F6)
      · obtain ⟨rfl, m3b⟩ := m3 ⟨cl, c59⟩
        rw [if_neg (fun k => c59 k.2)]
        exact (stop n _ s6).imp (fun _ s k => by
          rw [k]
          exact ⟨F5.trans (frQu.of m0), m3b⟩)
    · obtain ⟨rfl, rfl⟩ := m1 (by omega)
      rw [if_neg cl]
      exact (stop n _ s6).imp (fun _ s k => by
        rw [k]
        exact ⟨F5, e53, e5b.trans app_len.symm, hq5⟩)
theorem c_runP {I : Nat → Bool} {ev : Int → Int → Int} : ∀ (n m : Nat) (l : List zQy) (σ : zS), tpL σ → σ 120 3 = -1 → exOk I ev σ → l.length + m = 8 → 0 < m → quH I l σ → zP' (g_qu_readParts_L9 n 1 (l.length : Int) σ) (fun _ s => quPo I σ (runP ev (cT σ) (σ 120 1) m (σ 120 2) l) s)
  | 0, _, _, _, _, _, _, _, _, _ => zP'.no
  | n + 1, m, l, σ, h, hs, O, hl, hm, hq => by
    have h1 := h.1
    have h2 := h.2.1
    obtain ⟨m, rfl⟩ : ∃ q, m = q + 1 := ⟨m - 1, by omega⟩
    have len7 : 0 ≤ (l.length : Int) + 1 ∧ (l.length : Int) + 1 ≤ 8 := by omega
    rw [qu_eq (by omega), runP_1]
    unfold qryR
    refine zP'.bind (c_wrd swk4 h hs) (fun v s1 p1 => ?_)
    obtain ⟨p1, -⟩ := p1
    refine zP'.gd (fun _ => ?_)
    try dsimp +instances only
    have b1 := wrdR_bd (a := 4) (Ln := 36) (f := cT σ) h2.2
    have z : frQu s1 (zu s1 123 (l.length : Int) v) := frQu.u (by omega)
    have z3 : zu s1 123 (l.length : Int) v 120 3 = s1 120 3 := zu_a (by decide)
    have z2 : zu s1 123 (l.length : Int) v 120 2 = s1 120 2 := zu_a (by decide)
    have zv : zu s1 123 (l.length : Int) v 123 (l.length : Int) = v := zu_e rfl
    have zo : ∀ a j, (a ≠ 123 ∨ j ≠ (l.length : Int)) → zu s1 123 (l.length : Int) v a j = s1 a j := fun a j k => zu_c k
    generalize zu s1 123 (l.length : Int) v = s1' at z z3 z2 zv zo
    cases e1 : wrdR 4 36 (cT σ) (σ 120 1) (σ 120 2) with
    | inl q =>
      obtain ⟨f1, f3⟩ := p1.no e1
      rw [e1] at b1
      have b1 : σ 120 2 ≤ q ∧ q ≤ σ 120 1 := b1
      exact (q_t1 (by omega)).imp (fun _ t k => k.po ((frQu.of f1).trans z) (z3.trans f3))
    | inr x =>
      obtain ⟨f1, fv, fp, f3⟩ := p1.ok e1
      rw [e1] at b1
      have b1 : σ 120 2 ≤ x.2 ∧ x.2 ≤ σ 120 1 := b1
      subst fv
      have F1 := (frQu.of f1).trans z
      have t1 : tpL s1' := F1.t h (by omega)
      have W := c_sgn' (x := 32) t1 (by omega) (by decide)
      rw [F1.T, F1.L, z2, fp] at W
      dsimp only [qryV]
      unfold quT1
      refine zP'.bind W (fun u s2 p2 => ?_)
      try dsimp +instances only
      have b2 := sgnR_bd (x := 32) (f := cT σ) b1.2
      cases e2 : sgnR 32 (cT σ) (σ 120 1) x.2 with
      | inl q =>
        obtain ⟨g1, g3⟩ := p2.no e2
        rw [e2] at b2
        have b2 : x.2 ≤ q ∧ q ≤ σ 120 1 := b2
        exact (q_t2 (by omega)).imp (fun _ t k => k.po (F1.trans (frQu.of g1)) g3)
      | inr y =>
        obtain ⟨g1, -, gp, g3⟩ := p2.ok e2
        rw [e2] at b2
        have b2 : x.2 ≤ y.2 ∧ y.2 ≤ σ 120 1 := b2
        have F2 := F1.trans (frQu.of g1)
        have t2 : tpL s2 := F2.t h (by omega)
        have R := c_ranges t2 g3
        rw [F2.T, F2.L, gp] at R
        dsimp only [qryA]
        unfold quT2
        refine zP'.bind R (fun bx s3 p3 => ?_)
        obtain ⟨i1, p3⟩ := p3
        refine zP'.gd (fun _ => ?_)
        try dsimp +instances only
        have F3 := F2.trans (frQu.of i1)
        have w : frQu s3 (zu s3 124 (l.length : Int) bx) := frQu.u (by omega)
        have w3 : zu s3 124 (l.length : Int) bx 120 3 = s3 120 3 := zu_a (by decide)
        have w2 : zu s3 124 (l.length : Int) bx 120 2 = s3 120 2 := zu_a (by decide)
        have wv : zu s3 124 (l.length : Int) bx 124 (l.length : Int) = bx := zu_e rfl
        have wo : ∀ a j, (a ≠ 124 ∨ j ≠ (l.length : Int)) → zu s3 124 (l.length : Int) bx a j = s3 a j := fun a j k => zu_c k
        generalize zu s3 124 (l.length : Int) bx = s3' at w w3 w2 wv wo
        have F3' := F3.trans w
        have b3 := rngR_bd (f := cT σ) b2.2
        cases e3 : rngR (cT σ) (σ 120 1) y.2 with
        | inl q =>
          rw [e3] at b3 p3
          have b3 : y.2 ≤ q ∧ q ≤ σ 120 1 := b3
          have p3 : s3 120 3 = q := p3
          exact (q_t3 (by omega)).imp (fun _ t k => k.po F3' (w3.trans p3))
        | inr a =>
          rw [e3] at b3 p3
          obtain ⟨b3, b3', a1, a2, a3⟩ := b3
          unfold rgsR at p3
          dsimp only [qryX] at p3 ⊢
          have b4 := sgnR_bd (x := 32) (f := cT σ) b3'
          cases e4 : sgnR 32 (cT σ) (σ 120 1) a.2 with
          | inl q =>
            rw [e4] at b4 p3
            have b4 : a.2 ≤ q ∧ q ≤ σ 120 1 := b4
            have p3 : s3 120 3 = q := p3
            exact (q_t3 (by omega)).imp (fun _ t k => k.po F3' (w3.trans p3))
          | inr t =>
            rw [e4] at b4 p3
            have b4 : a.2 ≤ t.2 ∧ t.2 ≤ σ 120 1 := b4
            dsimp only [qryB] at p3 ⊢
            have b5 := rngR_bd (f := cT σ) b4.2
            cases e5 : rngR (cT σ) (σ 120 1) t.2 with
            | inl q =>
              rw [e5] at b5 p3
              have b5 : t.2 ≤ q ∧ q ≤ σ 120 1 := b5
              have p3 : s3 120 3 = q := p3
              exact (q_t3 (by omega)).imp (fun _ t k => k.po F3' (w3.trans p3))
            | inr c =>
              rw [e5] at b5 p3
              obtain ⟨b5, b5', -⟩ := b5
              obtain ⟨pb, pp, p33⟩ := p3
              have pb : bx = enc (a.1.1, a.1.2, c.1.1, c.1.2) := pb
              have pp : s3 120 2 = c.2 := pp
              dsimp only [qryY]
              have t3 : tpL s3' := F3'.t h (by omega)
              have e5' : s3' 122 5 = σ 122 5 := by
                rw [wo 122 5 (Or.inl (by decide)), i1 122 5 (Or.inl (by decide)), g1 122 5 (Or.inl (by decide)), zo 122 5 (Or.inl (by decide)), f1 122 5 (Or.inl (by decide))]
              have O3 : exOk I ev s3' := O.q F3' (CI_Qu O.1 F3' (by omega) (by rw [e5']; exact CI.cq O.1))
              have X := c_if (I := I) (ev := ev) (m := x.1) (B := (a.1.1, a.1.2, c.1.1, c.1.2)) t3 (by omega) O3
              rw [F3'.T, F3'.L, w2, pp] at X
              unfold quT3
              refine zP'.bind X (fun rw' s4 p4 => ?_)
              obtain ⟨j1, p4⟩ := p4
              refine zP'.gd (fun _ => ?_)
              try dsimp +instances only
              have F4 := F3'.trans (frQu.of j1)
              have y0 : frQu s4 (zu s4 125 (l.length : Int) rw') := frQu.u (by omega)
              have y3 : zu s4 125 (l.length : Int) rw' 120 3 = s4 120 3 := zu_a (by decide)
              have y2 : zu s4 125 (l.length : Int) rw' 120 2 = s4 120 2 := zu_a (by decide)
              have yv : zu s4 125 (l.length : Int) rw' 125 (l.length : Int) = rw' := zu_e rfl
              have yo : ∀ a j, (a ≠ 125 ∨ j ≠ (l.length : Int)) → zu s4 125 (l.length : Int) rw' a j = s4 a j := fun a j k => zu_c k
              generalize zu s4 125 (l.length : Int) rw' = s4' at y0 y3 y2 yv yo
              have F4' := F4.trans y0
              obtain ⟨d1, d2⟩ := qryR_ok (ev := ev) (f := cT σ) (L := σ 120 1) h2.1 h2.2
              have eR : qryR ev (cT σ) (σ 120 1) (σ 120 2) = qryF ev (cT σ) (σ 120 1) x.1 (a.1.1, a.1.2, c.1.1, c.1.2) c.2 := by
                unfold qryR
                rw [e1]
                dsimp only [qryV]
                rw [e2]
                dsimp only [qryA]
                rw [e3]
                dsimp only [qryX]
                rw [e4]
                dsimp only [qryB]
                rw [e5]
                rfl
              rw [eR] at d1 d2
              cases e6 : qryF ev (cT σ) (σ 120 1) x.1 (a.1.1, a.1.2, c.1.1, c.1.2) c.2 with
              | inl q =>
                have d1 := d1 q e6
                rw [e6] at p4
                have p4 : s4 120 3 = q := p4
                exact (q_t4 (by omega)).imp (fun _ t k => k.po F4' (y3.trans p4))
              | inr Q =>
                have d2 := d2 Q e6
                rw [e6] at p4
                obtain ⟨q2, q3, qb⟩ := p4
                have qm : Q.1.1 = x.1 ∧ Q.1.2.1 = (a.1.1, a.1.2, c.1.1, c.1.2) := by
                  unfold qryF at e6
                  split at e6
                  · cases k1 : wrdR 5 2 (cT σ) (σ 120 1) (c.2 + 1) with
                    | inl q =>
                      rw [k1] at e6
                      cases e6
                    | inr r =>
                      rw [k1] at e6
                      dsimp only [qryI] at e6
                      cases k2 : sgnR 32 (cT σ) (σ 120 1) r.2 with
                      | inl q =>
                        rw [k2] at e6
                        cases e6
                      | inr r2 =>
                        rw [k2] at e6
                        dsimp only [qryS] at e6
                        cases k3 : eP ev (cT σ) (σ 120 1) 700 0 0 r2.2 (fun _ => true) with
                        | inl q =>
                          rw [k3] at e6
                          cases e6
                        | inr r3 =>
                          rw [k3] at e6
                          cases e6
                          exact ⟨rfl, rfl⟩
                  · cases e6
                    exact ⟨rfl, rfl⟩
                try dsimp only
                have ex := w32_id (x := (l.length : Int) + 1) (by omega) (by omega)
                have v0 : frQu s4' (zu s4' 122 5 ((l.length : Int) + 1)) := frQu.u (Or.inr (Or.inr (Or.inr ⟨rfl, rfl⟩)))
                have v3 : zu s4' 122 5 ((l.length : Int) + 1) 120 3 = s4' 120 3 := zu_a (by decide)
                have v2 : zu s4' 122 5 ((l.length : Int) + 1) 120 2 = s4' 120 2 := zu_a (by decide)
                have v5 : zu s4' 122 5 ((l.length : Int) + 1) 122 5 = (l.length : Int) + 1 := zu_e rfl
                have vo : ∀ a j, a ≠ 122 → zu s4' 122 5 ((l.length : Int) + 1) a j = s4' a j := fun a j k => zu_a k
                unfold quT4
                rw [ex]
                generalize zu s4' 122 5 ((l.length : Int) + 1) = s5 at v0 v3 v2 v5 vo
                rw [v5]
                have F5 := F4'.trans v0
                have e52 : s5 120 2 = Q.2 := by rw [v2, y2, q2]
                have e53 : s5 120 3 = -1 := by rw [v3, y3, q3]
                have hQ0 : 0 ≤ Q.2 := Int.le_of_lt (Int.lt_of_le_of_lt h2.1 d2.1)
                have O5 : exOk I ev s5 := O.q F5 (CI_Qu O.1 F5 (by rw [e52]; exact ⟨hQ0, Int.le_trans d2.2.1 h1.2⟩) (by rw [v5]; exact len7))
                have hq5 : quH I (l ++ [Q.1]) s5 := by
                  refine quH_snoc hq (fun a i ci ha => ?_) ?_ ?_ ?_
                  · have hne : (i : Int) ≠ (l.length : Int) := fun e => Nat.ne_of_lt ci (Int.ofNat.inj e)
                    rcases ha with rfl | rfl | rfl
                    · rw [vo 123 _ (by decide), yo 123 _ (Or.inl (by decide)), j1 123 _ (Or.inl (by decide)), wo 123 _ (Or.inl (by decide)), i1 123 _ (Or.inl (by decide)), g1 123 _ (Or.inl (by decide)), zo 123 _ (Or.inr hne), f1 123 _ (Or.inl (by decide))]
                    · rw [vo 124 _ (by decide), yo 124 _ (Or.inl (by decide)), j1 124 _ (Or.inl (by decide)), wo 124 _ (Or.inr hne), i1 124 _ (Or.inl (by decide)), g1 124 _ (Or.inl (by decide)), zo 124 _ (Or.inl (by decide)), f1 124 _ (Or.inl (by decide))]
                    · rw [vo 125 _ (by decide), yo 125 _ (Or.inr hne), j1 125 _ (Or.inl (by decide)), wo 125 _ (Or.inl (by decide)), i1 125 _ (Or.inl (by decide)), g1 125 _ (Or.inl (by decide)), zo 125 _ (Or.inl (by decide)), f1 125 _ (Or.inl (by decide))]
                  · rw [vo 123 _ (by decide), yo 123 _ (Or.inl (by decide)), j1 123 _ (Or.inl (by decide)), wo 123 _ (Or.inl (by decide)), i1 123 _ (Or.inl (by decide)), g1 123 _ (Or.inl (by decide)), zv, qm.1]
                  · rw [vo 124 _ (by decide), yo 124 _ (Or.inl (by decide)), j1 124 _ (Or.inl (by decide)), wv, pb, qm.2]
                  · rw [vo 125 _ (by decide), yv]
                    exact qb
                refine c_tail (ev := ev) h F5 hQ0 d2.2.1 e52 e53 v5 O5 hq5 ((Nat.add_right_comm l.length 1 m).trans hl) (fun m0 s6 t6 k3 O6 k2 F6 hq6 => ?_)
                have IH := c_runP (I := I) (ev := ev) n m (l ++ [Q.1]) s6 t6 k3 O6 (by rw [List.length_append]; exact (Nat.add_right_comm l.length 1 m).trans hl) m0 hq6
                rw [F6.T, F6.L, k2] at IH
                exact IH
end
section
/-! 6s.queryM -/
/-! QUERIES AS A TEXT: the reference -/
theorem frQ2.L {σ s : zS} (f : frQ2 σ s) : s 143 20 = σ 143 20 := f 143 20 (by decide) (Or.inr (by decide))
theorem frQ2.T {σ s : zS} (f : frQ2 σ s) : mT s = mT σ := by
  funext j
  unfold mT
  rw [f.L, f 159 j (by decide) (Or.inl (by decide))]
theorem frQ2.t {σ s : zS} (f : frQ2 σ s) (h : tpP σ) (h2 : 0 ≤ s 143 21 ∧ s 143 21 ≤ σ 143 20) : tpP s := h.mv f.L (funext (fun j => f 159 j (by decide) (Or.inl (by decide)))) h2
def rgQ (σ : zS) (k b : Int) (s : zS) : Sum Int ((Int × Int) × Int) → Prop
  | .inl q => b = 0 ∧ s 143 22 = q
  | .inr x => b = 1 ∧ s 143 21 = x.2 ∧ s 143 22 = σ 143 22 ∧ s 161 k = x.1.1 ∧ s 161 (k + 1) = x.1.2
def rgM (σ : zS) (k : Int) (r : Sum Int ((Int × Int) × Int)) (b : Int) (s : zS) : Prop := (frQ2 σ s ∧ ∀ j : Int, j ≠ k → j ≠ k + 1 → s 161 j = σ 161 j) ∧ rgQ σ k b s r
theorem m_range {k : Int} {σ : zS} (h : tpP σ) (hs : σ 143 22 < 0) (hk : 0 ≤ k ∧ k < 47) : zP' (g_m_isRange k σ) (rgM σ k (rngR (mT σ) (σ 143 20) (σ 143 21))) := by
  have h2 := h.2.1
  unfold g_m_isRange rngR
  rw [if_pos (by omega), w32_id (x := k + 1) (by omega) (by omega), if_pos (by omega)]
  try dsimp +instances only
  have f1 : frQ2 σ (zu (zu σ 161 k 0) 161 (k + 1) 31) := fun a j k1 _ => by rw [zu_a k1, zu_a k1]
  have o1 : ∀ j : Int, j ≠ k → j ≠ k + 1 → zu (zu σ 161 k 0) 161 (k + 1) 31 161 j = σ 161 j := fun j j1 j2 => by rw [zu_i j2, zu_i j1]
  have v0 : zu (zu σ 161 k 0) 161 (k + 1) 31 161 k = 0 := by rw [zu_i (by omega), zu_e rfl]
  have v1 : zu (zu σ 161 k 0) 161 (k + 1) 31 161 (k + 1) = 31 := zu_e rfl
  have p21 : zu (zu σ 161 k 0) 161 (k + 1) 31 143 21 = σ 143 21 := by rw [zu_a (by decide), zu_a (by decide)]
  have p22 : zu (zu σ 161 k 0) 161 (k + 1) 31 143 22 = σ 143 22 := by rw [zu_a (by decide), zu_a (by decide)]
  generalize zu (zu σ 161 k 0) 161 (k + 1) 31 = s1 at f1 o1 v0 v1 p21 p22
  have t1 : tpP s1 := f1.t h (by omega)
  rw [s_here t1.i]
  rw [Option.bind_some]
  try dsimp +instances only
  by_cases c : σ 143 21 < σ 143 20 ∧ mT σ (σ 143 21) = 42
  · have hh : hereC s1 = 42 := (hereC_is t1 (by decide)).mpr (by rw [p21, f1.L, f1.T]; exact c)
    obtain ⟨ew, f, t, s22, s21, sT, s20⟩ := mk_st t1 (by rw [p21, f1.L]; exact c.1)
    rw [if_neg (fun e => e hh), if_pos c, ew]
    refine zP'.ret ⟨⟨f1.trans (frQ2.of f), fun j j1 j2 => ?_⟩, rfl, ?_, ?_, ?_, ?_⟩
    · rw [f 161 j (Or.inl (by decide))]
      exact o1 j j1 j2
    · rw [s21, p21]
    · rw [s22, p22]
    · rw [f 161 _ (Or.inl (by decide)), v0]
    · rw [f 161 _ (Or.inl (by decide)), v1]
  · have hh : ¬ hereC s1 = 42 := fun e => c (by
      have := (hereC_is t1 (by decide)).mp e
      rw [p21, f1.L, f1.T] at this
      exact this)
    rw [if_pos hh, if_neg c]
    have N := m_num (w := 2) (lo := 0) (hi := 31) t1 (by omega) (by decide)
    rw [f1.T, f1.L, p21] at N
    refine zP'.bind N (fun b s2 p2 => ?_)
    obtain ⟨p2, pv⟩ := p2
    have p2 : mPo s1 (numR 2 0 31 (mT σ) (σ 143 20) (σ 143 21)) b s2 := p2
    have pv : ∀ x, numR 2 0 31 (mT σ) (σ 143 20) (σ 143 21) = .inr x → s2 143 23 = x.1 := pv
    try dsimp +instances only
    have b1 := numR_bd (w := 2) (lo := 0) (hi := 31) (f := mT σ) h2.2
    cases e1 : numR 2 0 31 (mT σ) (σ 143 20) (σ 143 21) with
    | inl q =>
      obtain ⟨g1, rfl, g3⟩ := p2.no e1
      rw [if_neg (by decide)]
      exact zP'.ret ⟨⟨f1.trans (frQ2.of g1), fun j j1 j2 => (g1 161 j (Or.inl (by decide))).trans (o1 j j1 j2)⟩, rfl, g3⟩
    | inr x =>
      obtain ⟨g1, rfl, gp, g3⟩ := p2.ok e1
      have gv := pv x e1
      rw [e1] at b1
      have b1 : σ 143 21 ≤ x.2 ∧ x.2 ≤ σ 143 20 := b1
      have kk := numR_ok (v := x.1) (p' := x.2) e1
      rw [if_pos (by decide), if_pos (by omega), gv]
      try dsimp +instances only
      rw [show zu s2 161 k x.1 143 23 = x.1 from (zu_a (by decide)).trans gv, if_pos (by omega)]
      have F2 := f1.trans (frQ2.of g1)
      have f3 : frQ2 s2 (zu (zu s2 161 k x.1) 161 (k + 1) x.1) := fun a j k1 _ => by rw [zu_a k1, zu_a k1]
      have o3 : ∀ j : Int, j ≠ k → j ≠ k + 1 → zu (zu s2 161 k x.1) 161 (k + 1) x.1 161 j = σ 161 j := fun j j1 j2 => by rw [zu_i j2, zu_i j1, g1 161 j (Or.inl (by decide))]; exact o1 j j1 j2
      have v3 : zu (zu s2 161 k x.1) 161 (k + 1) x.1 161 k = x.1 := by rw [zu_i (by omega), zu_e rfl]
      have v4 : zu (zu s2 161 k x.1) 161 (k + 1) x.1 161 (k + 1) = x.1 := zu_e rfl
      have q21 : zu (zu s2 161 k x.1) 161 (k + 1) x.1 143 21 = x.2 := by rw [zu_a (by decide), zu_a (by decide), gp]
      have q22 : zu (zu s2 161 k x.1) 161 (k + 1) x.1 143 22 = σ 143 22 := by rw [zu_a (by decide), zu_a (by decide), g3, p22]
      generalize zu (zu s2 161 k x.1) 161 (k + 1) x.1 = s3 at f3 o3 v3 v4 q21 q22
      have F3 := F2.trans f3
      have t3 : tpP s3 := F3.t h (by omega)
      rw [s_here t3.i]
      rw [Option.bind_some]
      try dsimp +instances only
      unfold rngR1
      try dsimp only
      by_cases c2 : x.2 < σ 143 20 ∧ mT σ x.2 = 45
      · have hh2 : hereC s3 = 45 := (hereC_is t3 (by decide)).mpr (by rw [q21, F3.L, F3.T]; exact c2)
        obtain ⟨ew, f, t, s22, s21, sT, s20⟩ := mk_st t3 (by rw [q21, F3.L]; exact c2.1)
        rw [if_pos hh2, if_pos c2, ew, if_pos (by omega)]
        have u3 : zu s3 143 21 (s3 143 21 + 1) 161 k = x.1 := (zu_a (by decide)).trans v3
        rw [u3]
        generalize zu s3 143 21 (s3 143 21 + 1) = s4 at f t s22 s21 sT s20 u3
        have N2 := m_num (w := 2) (lo := x.1) (hi := 31) t (by omega) (by decide)
        rw [sT, F3.T, s20, F3.L, s21, q21] at N2
        refine zP'.bind N2 (fun b s5 p5 => ?_)
        obtain ⟨p5, pv5⟩ := p5
        have p5 : mPo s4 (numR 2 x.1 31 (mT σ) (σ 143 20) (x.2 + 1)) b s5 := p5
        have pv5 : ∀ z, numR 2 x.1 31 (mT σ) (σ 143 20) (x.2 + 1) = .inr z → s5 143 23 = z.1 := pv5
        have F4 := F3.trans (frQ2.of f)
        try dsimp +instances only
        cases e5 : numR 2 x.1 31 (mT σ) (σ 143 20) (x.2 + 1) with
        | inl q =>
          obtain ⟨i1, rfl, i3⟩ := p5.no e5
          rw [if_neg (by decide)]
          exact zP'.ret ⟨⟨F4.trans (frQ2.of i1), fun j j1 j2 => by rw [i1 161 j (Or.inl (by decide)), f 161 j (Or.inl (by decide))]; exact o3 j j1 j2⟩, rfl, i3⟩
        | inr z =>
          obtain ⟨i1, rfl, ip, i3⟩ := p5.ok e5
          have iv := pv5 z e5
          rw [if_pos (by decide), if_pos (by omega), iv]
          refine zP'.ret ⟨⟨fun a j k1 k2 => (zu_a k1).trans ((F4.trans (frQ2.of i1)) a j k1 k2), fun j j1 j2 => ?_⟩, rfl, ?_, ?_, ?_, ?_⟩
          · rw [zu_i j2, i1 161 j (Or.inl (by decide)), f 161 j (Or.inl (by decide))]
            exact o3 j j1 j2
          · rw [zu_a (by decide), ip]
          · rw [zu_a (by decide), i3, s22, q22]
          · rw [zu_i (by omega), i1 161 _ (Or.inl (by decide)), u3]
          · exact zu_e rfl
      · have hh2 : ¬ hereC s3 = 45 := fun e => c2 (by
          have := (hereC_is t3 (by decide)).mp e
          rw [q21, F3.L, F3.T] at this
          exact this)
        rw [if_neg hh2, if_neg c2]
        exact zP'.ret ⟨⟨F3, o3⟩, rfl, q21, q22, v3, v4⟩
/-- a part told: what the reference keeps of it -/
def quQ (σ : zS) (k : Nat) (b : Int) (s : zS) : zQr → Prop
  | .inl q => b = 0 ∧ s 143 22 = q
  | .inr x => b = 1 ∧ s 143 21 = x.2 ∧ s 143 22 = σ 143 22 ∧ s 161 (6 * (k : Int)) = x.1.1 ∧ bxA s 161 (6 * (k : Int) + 1) = x.1.2.1 ∧ s 161 (6 * (k : Int) + 5) = x.1.2.2.1
def quM (σ : zS) (k : Nat) (r : zQr) (b : Int) (s : zS) : Prop := (frQ2 σ s ∧ ∀ j : Int, (j < 6 * (k : Int) ∨ 6 * (k : Int) + 6 ≤ j) → s 161 j = σ 161 j) ∧ quQ σ k b s r
theorem m_query6 {ev : Int → Int → Int} {k : Nat} {σ : zS} (hk : k < 8) (h : tpP σ) (hs : σ 143 22 < 0) : zP' (g_m_isQuery (k : Int) σ) (quM σ k (qryR ev (mT σ) (σ 143 20) (σ 143 21))) := by
  have h1 := h.1
  have h2 := h.2.1
  unfold g_m_isQuery qryR
  refine zP'.bind (m_wrd14 h hs) (fun v s1 p1 => ?_)
  obtain ⟨p1, pw⟩ := p1
  try dsimp +instances only
  rw [w32_id (x := 6 * (k : Int)) (by omega) (by omega), w32_id (x := 6 * (k : Int) + 1) (by omega) (by omega), w32_id (x := 6 * (k : Int) + 3) (by omega) (by omega), w32_id (x := 6 * (k : Int) + 5) (by omega) (by omega)]
  have k6 : 0 ≤ 6 * (k : Int) ∧ 6 * (k : Int) < 48 := by omega
  have k65 : 0 ≤ 6 * (k : Int) + 5 ∧ 6 * (k : Int) + 5 < 48 := by omega
  rw [if_pos k6, if_pos k6]
  try dsimp +instances only
  rw [zu_e rfl]
  have z : frQ2 s1 (zu s1 161 (6 * (k : Int)) v) := frQ2.u
  have zv : zu s1 161 (6 * (k : Int)) v 161 (6 * (k : Int)) = v := zu_e rfl
  have zo : ∀ a j, (a ≠ 161 ∨ j ≠ 6 * (k : Int)) → zu s1 161 (6 * (k : Int)) v a j = s1 a j := fun a j hh => zu_c hh
  generalize zu s1 161 (6 * (k : Int)) v = s1' at z zv zo
  have b1 := wrdR_bd (a := 4) (Ln := 36) (f := mT σ) h2.2
  cases e1 : wrdR 4 36 (mT σ) (σ 143 20) (σ 143 21) with
  | inl q =>
    obtain ⟨f1, f2, f3⟩ := p1.no e1
    have hv : v = -1 := Classical.byContradiction (fun hc => by rw [if_neg hc] at f2; exact absurd f2 (by decide))
    rw [hv, if_pos (by decide)]
    exact zP'.ret ⟨⟨(frQ2.of f1).trans z, fun j hj => by rw [zo 161 j (by omega), f1 161 j (Or.inl (by decide))]⟩, rfl, (zo 143 22 (Or.inl (by decide))).trans f3⟩
  | inr x =>
    obtain ⟨f1, f2, fp, f3⟩ := p1.ok e1
    rw [e1] at b1
    have b1 : σ 143 21 ≤ x.2 ∧ x.2 ≤ σ 143 20 := b1
    have k1 := wrdR_ok (v := x.1) (p' := x.2) e1
    have hx : v = x.1 := pw.trans (wrdR_v (v := x.1) (p' := x.2) e1).symm
    have F1 := (frQ2.of f1).trans z
    have e21 : s1' 143 21 = x.2 := (zo 143 21 (Or.inl (by decide))).trans fp
    have e22 : s1' 143 22 = σ 143 22 := (zo 143 22 (Or.inl (by decide))).trans f3
    have o1 : ∀ j : Int, j ≠ 6 * (k : Int) → s1' 161 j = σ 161 j := fun j hj => (zo 161 j (Or.inr hj)).trans (f1 161 j (Or.inl (by decide)))
    have t1 : tpP s1' := F1.t h (by omega)
    rw [if_neg (by omega)]
    have W := m_sgn (x := 32) t1 (by omega) (by decide)
    rw [F1.T, F1.L, e21] at W
    dsimp only [qryV]
    refine zP'.bind W (fun u s2 p2 => ?_)
    try dsimp +instances only
    have b2 := sgnR_bd (x := 32) (f := mT σ) b1.2
    cases e2 : sgnR 32 (mT σ) (σ 143 20) x.2 with
    | inl q =>
      obtain ⟨g1, rfl, g3⟩ := p2.no e2
      rw [if_pos rfl]
      exact zP'.ret ⟨⟨F1.trans (frQ2.of g1), fun j hj => by rw [g1 161 j (Or.inl (by decide)), o1 j (by omega)]⟩, rfl, g3⟩
    | inr y =>
      obtain ⟨g1, rfl, gp, g3⟩ := p2.ok e2
      rw [e2] at b2
      have b2 : x.2 ≤ y.2 ∧ y.2 ≤ σ 143 20 := b2
      have F2 := F1.trans (frQ2.of g1)
      have t2 : tpP s2 := F2.t h (by omega)
      rw [if_neg (by decide)]
      have R := m_range (k := 6 * (k : Int) + 1) t2 (by omega) (by omega)
      rw [F2.T, F2.L, gp] at R
      dsimp only [qryA]
      refine zP'.bind R (fun b s3 p3 => ?_)
      obtain ⟨⟨i1, io⟩, p3⟩ := p3
      try dsimp +instances only
      have F3 := F2.trans i1
      have o3 : ∀ j : Int, j ≠ 6 * (k : Int) + 1 → j ≠ 6 * (k : Int) + 1 + 1 → s3 161 j = s1' 161 j := fun j j1 j2 => by rw [io j j1 j2, g1 161 j (Or.inl (by decide))]
      have b3 := rngR_bd (f := mT σ) b2.2
      cases e3 : rngR (mT σ) (σ 143 20) y.2 with
      | inl q =>
        rw [e3] at p3
        obtain ⟨rfl, p33⟩ := p3
        rw [if_pos rfl]
        exact zP'.ret ⟨⟨F3, fun j hj => by rw [o3 j (by omega) (by omega), o1 j (by omega)]⟩, rfl, p33⟩
      | inr a =>
        rw [e3] at b3 p3
        obtain ⟨b3, b3', a1, a2, a3⟩ := b3
        obtain ⟨rfl, pp, p33, pa, pb⟩ := p3
        have t3 : tpP s3 := F3.t h (by omega)
        rw [if_neg (by decide)]
        have W4 := m_sgn (x := 32) t3 (by omega) (by decide)
        rw [F3.T, F3.L, pp] at W4
        dsimp only [qryX]
        refine zP'.bind W4 (fun u s4 p4 => ?_)
        try dsimp +instances only
        have b4 := sgnR_bd (x := 32) (f := mT σ) b3'
        cases e4 : sgnR 32 (mT σ) (σ 143 20) a.2 with
        | inl q =>
          obtain ⟨j1, rfl, j3⟩ := p4.no e4
          rw [if_pos rfl]
          exact zP'.ret ⟨⟨F3.trans (frQ2.of j1), fun j hj => by rw [j1 161 j (Or.inl (by decide)), o3 j (by omega) (by omega), o1 j (by omega)]⟩, rfl, j3⟩
        | inr t =>
          obtain ⟨j1, rfl, jp, j3⟩ := p4.ok e4
          rw [e4] at b4
          have b4 : a.2 ≤ t.2 ∧ t.2 ≤ σ 143 20 := b4
          have F4 := F3.trans (frQ2.of j1)
          have t4 : tpP s4 := F4.t h (by omega)
          rw [if_neg (by decide)]
          have R5 := m_range (k := 6 * (k : Int) + 3) t4 (by omega) (by omega)
          rw [F4.T, F4.L, jp] at R5
          dsimp only [qryB]
          refine zP'.bind R5 (fun b s5 p5 => ?_)
          obtain ⟨⟨l1, lo⟩, p5⟩ := p5
          try dsimp +instances only
          have F5 := F4.trans l1
          have o5 : ∀ j : Int, j ≠ 6 * (k : Int) + 3 → j ≠ 6 * (k : Int) + 3 + 1 → s5 161 j = s3 161 j := fun j h3 h4 => by rw [lo j h3 h4, j1 161 j (Or.inl (by decide))]
          have b5 := rngR_bd (f := mT σ) b4.2
          cases e5 : rngR (mT σ) (σ 143 20) t.2 with
          | inl q =>
            rw [e5] at p5
            obtain ⟨rfl, p53⟩ := p5
            rw [if_neg (by decide)]
            exact zP'.ret ⟨⟨F5, fun j hj => by rw [o5 j (by omega) (by omega), o3 j (by omega) (by omega), o1 j (by omega)]⟩, rfl, p53⟩
          | inr c =>
            rw [e5] at b5 p5
            obtain ⟨b5, b5', -⟩ := b5
            obtain ⟨rfl, qp, q3, qa, qb⟩ := p5
            rw [if_pos (by decide), if_pos k65]
            have w : frQ2 s5 (zu s5 161 (6 * (k : Int) + 5) (-1)) := frQ2.u
            have wv : zu s5 161 (6 * (k : Int) + 5) (-1) 161 (6 * (k : Int) + 5) = -1 := zu_e rfl
            have wo : ∀ a j, (a ≠ 161 ∨ j ≠ 6 * (k : Int) + 5) → zu s5 161 (6 * (k : Int) + 5) (-1) a j = s5 a j := fun a j hh => zu_c hh
            generalize zu s5 161 (6 * (k : Int) + 5) (-1) = s6 at w wv wo
            have F6 := F5.trans w
            have e621 : s6 143 21 = c.2 := (wo 143 21 (Or.inl (by decide))).trans qp
            have e622 : s6 143 22 = σ 143 22 := by rw [wo 143 22 (Or.inl (by decide)), q3, j3, p33, g3, e22]
            have t6 : tpP s6 := F6.t h (by omega)
            -- what of the part stands
            have m0 : s6 161 (6 * (k : Int)) = x.1 := by rw [wo 161 _ (by omega), o5 _ (by omega) (by omega), o3 _ (by omega) (by omega), zv, hx]
            have mB : ∀ s : zS, (∀ j : Int, j ≠ 6 * (k : Int) + 5 → s 161 j = s6 161 j) → bxA s 161 (6 * (k : Int) + 1) = (a.1.1, a.1.2, c.1.1, c.1.2) := fun s hsj => by
              unfold bxA
              rw [hsj _ (by omega), hsj _ (by omega), hsj _ (by omega), hsj _ (by omega), wo 161 _ (by omega), wo 161 _ (by omega), wo 161 _ (by omega), wo 161 _ (by omega), o5 _ (by omega) (by omega), o5 _ (by omega) (by omega), pa, pb, show 6 * (k : Int) + 1 + 2 = 6 * (k : Int) + 3 by omega, qa, show 6 * (k : Int) + 1 + 3 = 6 * (k : Int) + 3 + 1 by omega, qb]
            have oo : ∀ j : Int, (j < 6 * (k : Int) ∨ 6 * (k : Int) + 6 ≤ j) → s6 161 j = σ 161 j := fun j hj => by rw [wo 161 j (by omega), o5 j (by omega) (by omega), o3 j (by omega) (by omega), o1 j (by omega)]
            dsimp only [qryY]
            unfold qryF
            rw [s_here t6.i]
            rw [Option.bind_some]
            try dsimp +instances only
            by_cases cb : c.2 < σ 143 20 ∧ mT σ c.2 = 32
            · have hh : hereC s6 = 32 := (hereC_is t6 (by decide)).mpr (by rw [e621, F6.L, F6.T]; exact cb)
              obtain ⟨ew, f, tt, s22, s21, sT, s20⟩ := mk_st t6 (by rw [e621, F6.L]; exact cb.1)
              rw [if_pos hh, if_pos cb, ew]
              generalize zu s6 143 21 (s6 143 21 + 1) = s7 at f tt s22 s21 sT s20
              have F7 := F6.trans (frQ2.of f)
              have W7 := m_wrd15 tt (by omega)
              rw [sT, F6.T, s20, F6.L, s21, e621] at W7
              refine zP'.bind W7 (fun w' s8 p8 => ?_)
              obtain ⟨p8, pw8⟩ := p8
              try dsimp +instances only
              have b6 := wrdR_bd (a := 5) (Ln := 2) (f := mT σ) (L := σ 143 20) (p := c.2 + 1) (by omega)
              cases e8 : wrdR 5 2 (mT σ) (σ 143 20) (c.2 + 1) with
              | inl q =>
                obtain ⟨n1, n2, n3⟩ := p8.no e8
                have hv : w' = -1 := Classical.byContradiction (fun hc => by rw [if_neg hc] at n2; exact absurd n2 (by decide))
                rw [hv, if_pos (by decide)]
                exact zP'.ret ⟨⟨F7.trans (frQ2.of n1), fun j hj => by rw [n1 161 j (Or.inl (by decide)), f 161 j (Or.inl (by decide)), oo j hj]⟩, rfl, n3⟩
              | inr d =>
                obtain ⟨n1, n2, np, n3⟩ := p8.ok e8
                rw [e8] at b6
                have b6 : c.2 + 1 ≤ d.2 ∧ d.2 ≤ σ 143 20 := b6
                have k8 := wrdR_ok (v := d.1) (p' := d.2) e8
                have hd : w' = d.1 := pw8.trans (wrdR_v (v := d.1) (p' := d.2) e8).symm
                have F8 := F7.trans (frQ2.of n1)
                have t8 : tpP s8 := F8.t h (by omega)
                rw [if_neg (by omega)]
                have W9 := m_sgn (x := 32) t8 (by omega) (by decide)
                rw [F8.T, F8.L, np] at W9
                dsimp only [qryI]
                refine zP'.bind W9 (fun u s9 p9 => ?_)
                try dsimp +instances only
                have b7 := sgnR_bd (x := 32) (f := mT σ) b6.2
                cases e9 : sgnR 32 (mT σ) (σ 143 20) d.2 with
                | inl q =>
                  obtain ⟨r1, rfl, r3⟩ := p9.no e9
                  rw [if_neg (by decide)]
                  exact zP'.ret ⟨⟨F8.trans (frQ2.of r1), fun j hj => by rw [r1 161 j (Or.inl (by decide)), n1 161 j (Or.inl (by decide)), f 161 j (Or.inl (by decide)), oo j hj]⟩, rfl, r3⟩
                | inr e =>
                  obtain ⟨r1, rfl, rp, r3⟩ := p9.ok e9
                  rw [e9] at b7
                  have b7 : d.2 ≤ e.2 ∧ e.2 ≤ σ 143 20 := b7
                  rw [if_pos (by decide), if_pos k65, rp]
                  have F9 := F8.trans (frQ2.of r1)
                  have y0 : frQ2 s9 (zu s9 161 (6 * (k : Int) + 5) e.2) := frQ2.u
                  have yv : zu s9 161 (6 * (k : Int) + 5) e.2 161 (6 * (k : Int) + 5) = e.2 := zu_e rfl
                  have yo : ∀ a j, (a ≠ 161 ∨ j ≠ 6 * (k : Int) + 5) → zu s9 161 (6 * (k : Int) + 5) e.2 a j = s9 a j := fun a j hh => zu_c hh
                  try dsimp +instances only
                  generalize zu s9 161 (6 * (k : Int) + 5) e.2 = sa at y0 yv yo
                  have Fa := F9.trans y0
                  have a21 : sa 143 21 = e.2 := (yo 143 21 (Or.inl (by decide))).trans rp
                  have a22 : sa 143 22 = σ 143 22 := by rw [yo 143 22 (Or.inl (by decide)), r3, n3, s22, e622]
                  have ta : tpP sa := Fa.t h (by omega)
                  have X := (m_expr (ev := ev) 700).1 zR 0 (fun _ => true) sa ta (by omega) (by decide) (by decide) (by rw [Fa.L, a21]; omega)
                  rw [Fa.T, Fa.L, a21] at X
                  dsimp only [qryS]
                  refine zP'.bind X (fun b sb pb' => b01 ?_)
                  obtain ⟨q1, q2⟩ := pb'
                  have oa : ∀ j : Int, j ≠ 6 * (k : Int) + 5 → sb 161 j = s6 161 j := fun j hj => by rw [q1 161 j (Or.inl (by decide)), yo 161 j (Or.inr hj), r1 161 j (Or.inl (by decide)), n1 161 j (Or.inl (by decide)), f 161 j (Or.inl (by decide))]
                  try dsimp only
                  cases e10 : eP ev (mT σ) (σ 143 20) 700 0 0 e.2 (fun _ => true) with
                  | inl q =>
                    rw [e10] at q2
                    exact ⟨⟨Fa.trans (frQ2.of q1), fun j hj => by rw [oa j (by omega), oo j hj]⟩, q2⟩
                  | inr zz =>
                    rw [e10] at q2
                    obtain ⟨u1, u2, u3⟩ := q2
                    refine ⟨⟨Fa.trans (frQ2.of q1), fun j hj => by rw [oa j (by omega), oo j hj]⟩, u1, u2, u3.trans a22, ?_, mB sb oa, ?_⟩
                    · rw [oa _ (by omega)]
                      exact m0
                    · rw [q1 161 _ (Or.inl (by decide)), yv]
            · have hh : ¬ hereC s6 = 32 := fun e => cb (by
                have := (hereC_is t6 (by decide)).mp e
                rw [e621, F6.L, F6.T] at this
                exact this)
              rw [if_neg hh, if_neg cb]
              exact zP'.ret ⟨⟨F6, oo⟩, rfl, e621, e622, m0, mB s6 (fun _ _ => rfl), wv⟩
/-- the parts told so far -/
def quR' (l : List zQy) (s : zS) : Prop := ∀ (i : Nat) (hi : i < l.length), s 161 (6 * (i : Int)) = l[i].1 ∧ bxA s 161 (6 * (i : Int) + 1) = l[i].2.1 ∧ s 161 (6 * (i : Int) + 5) = l[i].2.2.1
def rnQ (r : Int) (s : zS) : Sum Int (List zQy) → Prop
  | .inl q => s 143 22 = q
  | .inr l => r = (l.length : Int) ∧ s 143 22 = -1 ∧ quR' l s
theorem m_runP {ev : Int → Int → Int} {Q : Int → zS → Prop} {σ0 : zS} : ∀ (n m : Nat) (l : List zQy) (σ : zS), tpP σ → σ 143 22 = -1 → l.length + m = 8 → 0 < m → frQ2 σ0 σ → quR' l σ → (∀ r s, frQ2 σ0 s → rnQ r s (runP ev (mT σ) (σ 143 20) m (σ 143 21) l) → ∀ k, zP' (g_m_run_L8 k r 0 s) Q) → zP' (g_m_run_L8 n (l.length : Int) 1 σ) Q
  | 0, _, _, _, _, _, _, _, _, _, _ => zP'.no
  | n + 1, m, l, σ, h, hs, hl, hm, hf, hq, hQ => by
    have h2 := h.2.1
    obtain ⟨m, rfl⟩ : ∃ q, m = q + 1 := ⟨m - 1, by omega⟩
    rw [runP_1] at hQ
    unfold g_m_run_L8
    rw [if_neg (by decide)]
    have ex := w32_id (x := (l.length : Int) + 1) (by omega) (by omega)
    obtain ⟨d1, d2⟩ := qryR_ok (ev := ev) (f := mT σ) h2.1 h2.2
    refine zP'.bind (m_query6 (ev := ev) (k := l.length) (by omega) h (by omega)) (fun b s1 p1 => ?_)
    obtain ⟨⟨f1, fo⟩, p1⟩ := p1
    try dsimp +instances only
    rw [ex]
    cases e1 : qryR ev (mT σ) (σ 143 20) (σ 143 21) with
    | inl q =>
      rw [e1] at p1 hQ
      obtain ⟨rfl, p2⟩ := p1
      rw [if_pos rfl]
      unfold g_m_run_L41
      rw [if_pos rfl]
      exact hQ _ s1 (hf.trans f1) p2 n
    | inr x =>
      rw [e1] at p1 hQ
      obtain ⟨rfl, p2, p3, p4, p5, p6⟩ := p1
      have b := d2 x e1
      have t1 : tpP s1 := f1.t h (by omega)
      have hq1 : quR' (l ++ [x.1]) s1 := fun i hi => by
        rw [List.length_append] at hi
        have hi : i < l.length + 1 := hi
        by_cases ci : i < l.length
        · rw [List.getElem_append_left ci]
          have k := hq i ci
          have eb : bxA s1 161 (6 * (i : Int) + 1) = bxA σ 161 (6 * (i : Int) + 1) := by
            unfold bxA
            rw [fo _ (by omega), fo _ (by omega), fo _ (by omega), fo _ (by omega)]
          rw [fo _ (by omega), fo _ (by omega), eb]
          exact k
        · have ei : i = l.length := by omega
          subst ei
          rw [List.getElem_append_right (by omega)]
          have e0 : ([x.1] : List zQy)[l.length - l.length]'(by rw [Nat.sub_self]; exact Nat.one_pos) = x.1 := by
            simp
          rw [e0]
          exact ⟨p4, p5, p6⟩
      have el : (l.length : Int) + 1 = ((l ++ [x.1]).length : Int) := by
        rw [List.length_append]
        show (l.length : Int) + 1 = ((l.length + 1 : Nat) : Int)
        omega
      rw [if_neg (by decide), p2, f1.L]
      dsimp only at hQ
      by_cases cl : x.2 < σ 143 20
      · rw [if_pos cl] at hQ
        rw [if_pos (by omega)]
        unfold g_m_run_L41
        rw [if_neg (by decide)]
        refine zP'.ite (fun c8 => ?_) (fun c8 => ?_)
        · rw [if_neg (fun k => by omega)] at hQ
          try dsimp +instances only
          rw [m_fail (by omega)]
          rw [Option.bind_some]
          try dsimp +instances only
          unfold g_m_run_L68
          refine hQ _ _ ((hf.trans f1).trans (frQ2.of (fr3.u (by omega)))) ?_ n
          show zu s1 143 22 (s1 143 21) 143 22 = x.2
          rw [zu_e rfl, p2]
        · refine zP'.bind (m_sgn (x := 59) t1 (by omega) (by decide)) (fun b s2 k2 => ?_)
          try dsimp +instances only
          rw [f1.T, f1.L, p2] at k2
          unfold g_m_run_L68
          by_cases c59 : mT σ x.2 = 59
          · rw [if_pos ⟨by omega, c59⟩] at hQ
            have e2 : sgnR 59 (mT σ) (σ 143 20) x.2 = .inr (59, x.2 + 1) := if_pos ⟨cl, c59⟩
            obtain ⟨g1, rfl, gp, g3⟩ := k2.ok e2
            have gp : s2 143 21 = x.2 + 1 := gp
            have F2 := f1.trans (frQ2.of g1)
            have hq2 : quR' (l ++ [x.1]) s2 := fun i hi => by
              have k := hq1 i hi
              have eb : bxA s2 161 (6 * (i : Int) + 1) = bxA s1 161 (6 * (i : Int) + 1) := by
                unfold bxA
                rw [g1 161 _ (Or.inl (by decide)), g1 161 _ (Or.inl (by decide)), g1 161 _ (Or.inl (by decide)), g1 161 _ (Or.inl (by decide))]
              rw [g1 161 _ (Or.inl (by decide)), g1 161 _ (Or.inl (by decide)), eb]
              exact k
            rw [el]
            refine m_runP (ev := ev) n m (l ++ [x.1]) s2 (F2.t h (by omega)) (by rw [g3, p3]; exact hs) (by rw [List.length_append]; show l.length + 1 + m = 8; omega) (by omega) (hf.trans F2) hq2 ?_
            rw [F2.T, F2.L, gp]
            exact hQ
          · rw [if_neg (fun k => c59 k.2)] at hQ
            have e2 : sgnR 59 (mT σ) (σ 143 20) x.2 = .inl x.2 := if_neg (fun hn => c59 hn.2)
            obtain ⟨g1, rfl, g3⟩ := k2.no e2
            exact hQ _ s2 ((hf.trans f1).trans (frQ2.of g1)) g3 n
      · rw [if_neg cl] at hQ
        rw [if_neg (by omega)]
        exact hQ _ s1 (hf.trans f1) ⟨el, by rw [p3]; exact hs, hq1⟩ n
end
section
/-! 6u.fault -/
/-! A QUERY DONE by the reference leaves the fault as it was -/
theorem ord_same {v : Int} {σ : zS} : zP' (g_m_orderOf v σ) (fun _ s => s = σ) := by
  unfold g_m_orderOf g_m_rowAt
  simp only [Option.bind_some]
  exact zP'.gd (fun _ => zP'.gd (fun _ => zP'.ret rfl))
theorem ga_139 {a : Nat} {g : Int → Int → Int → zS → Option (Unit × zS)} {i t x4 x5 F : Int} {s : zS} (hg : ∀ s', frG s s' → s' 143 22 = s 143 22 → zP' (g i t (w32 (x4 + 1)) s') (fun _ u => u 143 22 = F)) : zP' (g_m_gathers_L139 a g i t x4 x5 s) (fun _ u => u 143 22 = F) := by
  unfold g_m_gathers_L139 g_m_gathers_L158
  refine zP'.gd (fun _ => ?_)
  try dsimp +instances only
  exact hg _ (fun a j k1 k2 k3 => by rw [zu_c (by omega), zu_c (by omega)]) (by rw [zu_i (by decide), zu_a (by decide)])
theorem ga_90 {a : Nat} {g : Int → Int → Int → zS → Option (Unit × zS)} {i t x4 F : Int} : ∀ (m : Nat) (x5 : Int) (s : zS), (∀ s', frG s s' → s' 143 22 = s 143 22 → zP' (g i t (w32 (x4 + 1)) s') (fun _ u => u 143 22 = F)) → zP' (g_m_gathers_L90 a g m i t x4 x5 s) (fun _ u => u 143 22 = F)
  | 0, _, _, _ => zP'.no
  | m + 1, x5, s, hg => by
    unfold g_m_gathers_L90
    refine zP'.ite (fun _ => ga_139 hg) (fun _ => zP'.gd (fun _ => ?_))
    try dsimp +instances only
    refine zP'.bind ord_same (fun o1 s1 p1 => ?_)
    try dsimp +instances only
    rw [p1]
    refine zP'.bind ord_same (fun o2 s2 p2 => ?_)
    try dsimp +instances only
    rw [p2]
    refine zP'.ite (fun _ => ga_139 hg) (fun _ => zP'.gd (fun _ => zP'.gd (fun _ => ?_)))
    try dsimp +instances only
    refine ga_90 m _ _ (fun s' f e => hg s' (fun a j k1 k2 k3 => (f a j k1 k2 k3).trans (zu_c (by omega))) (e.trans (zu_a (by decide))))
theorem ga_8 {t : Int} {σ0 : zS} (hev : t < 0 ∨ ∀ (s : zS) (r : Int), 0 ≤ r → r < 60 → frG σ0 s → zP' (g_grp231 zR 231 r (zu s 143 21 t)) (fun _ s' => fr3 (zu s 143 21 t) s' ∧ s' 143 22 = s 143 22)) : ∀ (n : Nat) (k : Nat) (s : zS), k ≤ 60 → frG σ0 s → zP' (g_m_gathers_L8 152 n 0 t (k : Int) s) (fun _ u => u 143 22 = s 143 22)
  | 0, _, _, _, _ => zP'.no
  | n + 1, k, s, hk, hf => by
    have l152 : zLI 152 = 4 := rfl
    have l167 : ∀ (m : Nat) (x : Int) (s : zS), zP' (g_m_gathers_L167 152 m x s) (fun _ u => u 143 22 = s 143 22) := by
      intro m
      induction m with
      | zero => exact fun _ _ => zP'.no
      | succ m ih =>
        intro x s
        unfold g_m_gathers_L167
        refine zP'.ite (fun _ => zP'.ret rfl) (fun _ => zP'.gd (fun _ => zP'.gd (fun _ => zP'.gd (fun _ => ?_))))
        try dsimp +instances only
        exact (ih _ _).imp (fun _ u e => e.trans (zu_a (by decide)))
    unfold g_m_gathers_L8
    refine zP'.ite (fun _ => l167 _ _ _) (fun c => ?_)
    have ek := w32_id (x := (k : Int) + 1) (by omega) (by omega)
    have rc : ∀ s', frG s s' → s' 143 22 = s 143 22 → zP' (g_m_gathers_L8 152 n 0 t (w32 ((k : Int) + 1)) s') (fun _ u => u 143 22 = s 143 22) := fun s' f e => by
      rw [ek, show (k : Int) + 1 = ((k + 1 : Nat) : Int) by omega]
      exact (ga_8 hev n (k + 1) s' (by omega) (hf.trans f)).imp (fun _ u h => h.trans e)
    rw [s_rowAt (by omega) (by omega)]
    rw [Option.bind_some]
    try dsimp +instances only
    refine zP'.gd (fun _ => ?_)
    unfold g_m_gathers_L158 g_m_gathers_L84
    refine zP'.ite (fun _ => rc s (frG.refl s) rfl) (fun _ => ?_)
    rw [s_rowAt (by omega) (by omega)]
    rw [Option.bind_some]
    try dsimp +instances only
    refine zP'.gd (fun _ => ?_)
    rw [s_rowAt (by omega) (by omega)]
    rw [Option.bind_some]
    try dsimp +instances only
    refine zP'.gd (fun _ => ?_)
    rw [s_has (by omega) (by rw [l152]; omega) (by rw [l152]; omega)]
    rw [Option.bind_some]
    try dsimp +instances only
    refine zP'.ite (fun _ => ?_) (fun _ => rc s (frG.refl s) rfl)
    have f21 : frG s (zu s 143 21 t) := fun a j k1 k2 k3 => zu_c (by omega)
    have e22 : zu s 143 21 t 143 22 = s 143 22 := zu_i (by decide)
    refine zP'.ite (fun _ => ga_90 _ _ _ (fun s' f e => rc s' (f21.trans f) (e.trans e22))) (fun c3 => ?_)
    have hv := (hev.resolve_left c3) s (k : Int) (by omega) (by omega) hf
    refine zP'.bind hv (fun b s2 p => ?_)
    obtain ⟨p1, p2⟩ := p
    have f2 : frG s s2 := f21.trans (fun a j k1 k2 k3 => p1 a j (by omega))
    try dsimp +instances only
    exact zP'.ite (fun _ => ga_90 _ _ _ (fun s' f e => rc s' (f2.trans f) (e.trans p2))) (fun _ => rc s2 f2 p2)
theorem ga_fault {t : Int} {σ : zS} (hev : t < 0 ∨ ∀ (s : zS) (r : Int), 0 ≤ r → r < 60 → frG σ s → zP' (g_grp231 zR 231 r (zu s 143 21 t)) (fun _ s' => fr3 (zu s 143 21 t) s' ∧ s' 143 22 = s 143 22)) : zP' (g_m_gathers 152 0 t σ) (fun _ u => u 143 22 = σ 143 22) := by
  unfold g_m_gathers
  try dsimp +instances only
  exact (ga_8 hev zK 0 (zu σ 143 14 0) (by omega) (fun a j k1 _ _ => zu_c (by omega))).imp (fun _ u e => e.trans (zu_i (by decide)))
end
section
/-! 6v.done -/
/-! A QUERY DONE, of both sides: the rows that a test leaves, told alike -/
/-- what run() answers -/
def runAns : Sum Int (List zQy) → Int
  | .inl q => -100 - q
  | .inr l => (l.length : Int)
def liT (σ : zS) (c : Nat) (B : Bx) (T : Int → Bool) : List Int := (ordL σ c).filter (fun v => decide (bIn B (σ (c + 1) v) (σ (c + 2) v)) && T v)
def valT (σ : zS) (c : Nat) (B : Bx) (T : Int → Bool) (ms : Int) : Int := msF (fun j => σ (c + 3) ((liT σ c B T).getD j.toNat 0)) (liT σ c B T).length ms
theorem liT_E {σ s : zS} {B : Bx} {T : Int → Bool} (e : stE σ s) : liT s 41 B T = liT σ 41 B T := by
  have e42 : s 42 = σ 42 := funext (fun j => e 42 j (by unfold stK; omega))
  have e43 : s 43 = σ 43 := funext (fun j => e 43 j (by unfold stK; omega))
  have e45 : s 45 = σ 45 := funext (fun j => e 45 j (by unfold stK; omega))
  have e4 : s 41 4 = σ 41 4 := e 41 4 (by unfold stK; omega)
  show (sg (s 45) 0 (s 41 4).toNat).filter (fun v => decide (bIn B (s 42 v) (s 43 v)) && T v) = (sg (σ 45) 0 (σ 41 4).toNat).filter (fun v => decide (bIn B (σ 42 v) (σ 43 v)) && T v)
  rw [e42, e43, e45, e4]
theorem valT_E {σ s : zS} {B : Bx} {T : Int → Bool} {ms : Int} (e : stE σ s) : valT s 41 B T ms = valT σ 41 B T ms := by
  have e44 : s 44 = σ 44 := funext (fun j => e 44 j (by unfold stK; omega))
  show msF (fun j => s 44 ((liT s 41 B T).getD j.toNat 0)) (liT s 41 B T).length ms = msF (fun j => σ 44 ((liT σ 41 B T).getD j.toNat 0)) (liT σ 41 B T).length ms
  rw [e44, liT_E e]
theorem liT_mem {σ : zS} {I : Nat → Bool} (S : ST σ 41 I) {B : Bx} {T : Int → Bool} {v : Int} (h : v ∈ liT σ 41 B T) : 0 ≤ v ∧ v < 60 := by
  obtain ⟨q, e, hq⟩ := (S.2.2.2 v).mp (List.mem_filter.mp h).1
  have := S.1 q hq
  omega
theorem p_fiMeasT {a : Nat} (ha : a = 60 ∨ a = 70) {σ : zS} {I : Nat → Bool} {B : Bx} {T : Int → Bool} {ms rows : Int} (H : CI σ) (S : ST σ 41 I) (hms : 0 ≤ ms ∧ ms ≤ 6) (ok : ∀ r : Nat, r < 60 → okL (σ 44 (r : Int))) (hr : ∀ q : Nat, q < 60 → bq rows q = (I q && (decide (bIn B (σ 42 (q : Int)) (σ 43 (q : Int))) && T (q : Int)))) : zP' (g_fi_gather a rows σ) (fun _ s => (∀ b j, b ≠ a + 1 → b ≠ a + 2 → (b ≠ a ∨ j ≠ 2) → s b j = σ b j) ∧ s a 2 = ((liT σ 41 B T).length : Int) ∧ sg (s (a + 1)) 0 (liT σ 41 B T).length = liT σ 41 B T ∧ (∀ j : Nat, j < (liT σ 41 B T).length → s (a + 2) (j : Int) = σ 44 ((liT σ 41 B T).getD j 0)) ∧ zP' (g_fi_measured a ms s) (fun v t => t = s ∧ v = valT σ 41 B T ms)) := by
  have h4 := CI.c4 (a := 41) H (by omega)
  refine (p_gather ha (P := fun v => I v.toNat && (decide (bIn B (σ 42 v) (σ 43 v)) && T v)) (rows := rows) (σ := σ) (fun q hq => by
    rw [hr q hq]
    try dsimp only
    rw [show ((q : Nat) : Int).toNat = q by omega]) h4 (ST_val S)).imp (fun _ s p => ?_)
  obtain ⟨p1, d, p2, p3, p4⟩ := p
  have eL : (ordL σ 41).filter (fun v => I v.toNat && (decide (bIn B (σ 42 v) (σ 43 v)) && T v)) = liT σ 41 B T := by
    unfold liT
    refine List.filter_congr (fun v hv => ?_)
    obtain ⟨q, e, hq⟩ := (S.2.2.2 v).mp hv
    subst e
    rw [show ((q : Nat) : Int).toNat = q by omega, hq, Bool.true_and]
  rw [eL] at p3
  have hd : d = (liT σ 41 B T).length := by rw [← p3, sg_len]
  have hl : d ≤ 60 := by
    have h1 := List.length_filter_le (fun v => decide (bIn B (σ (41 + 1) v) (σ (41 + 2) v)) && T v) (ordL σ 41)
    have h2 : (ordL σ 41).length = (σ 41 4).toNat := sg_len _ _ _
    unfold liT at hd
    omega
  have cell : ∀ j : Nat, j < d → s (a + 1) (j : Int) = (liT σ 41 B T).getD j 0 := fun j hj => by
    rw [← p3, sg_get d 0 j hj, show (0 : Int) + (j : Int) = (j : Int) by omega]
  have wc : ∀ j : Nat, j < d → s (a + 2) (j : Int) = σ 44 ((liT σ 41 B T).getD j 0) := fun j hj => by rw [p4 j hj, cell j hj]
  have okd : ∀ j : Nat, j < d → okL (s (a + 2) (j : Int)) := fun j hj => by
    rw [wc j hj]
    have hm := liT_mem S (getD_mem (L := liT σ 41 B T) (j := j) (by omega))
    have h := ok ((liT σ 41 B T).getD j 0).toNat (by omega)
    rw [show ((((liT σ 41 B T).getD j 0).toNat : Nat) : Int) = (liT σ 41 B T).getD j 0 by omega] at h
    exact h
  refine ⟨p1, by rw [p2, hd], by rw [← hd]; exact p3, fun j hj => wc j (by omega), ?_⟩
  refine (p_measured p2 hl hms okd).imp (fun v t q => ⟨q.1, ?_⟩)
  rw [q.2]
  unfold valT
  rw [← hd]
  exact msF_ext (fun j hj => by
    rw [wc j hj]
    rfl)
/-- the class's find is that of a box and a test -/
def fnT (σ s : zS) (B : Bx) (T : Int → Bool) : Prop := s 60 2 = ((liT σ 41 B T).length : Int) ∧ sg (s 61) 0 (liT σ 41 B T).length = liT σ 41 B T ∧ ∀ j : Nat, j < (liT σ 41 B T).length → s 62 (j : Int) = σ 44 ((liT σ 41 B T).getD j 0)
theorem fnT_E {σ0 σ s : zS} {B : Bx} {T : Int → Bool} (e : stE σ0 σ) (h : fnT σ s B T) : fnT σ0 s B T := by
  have e44 : σ 44 = σ0 44 := funext (fun j => e 44 j (by unfold stK; omega))
  unfold fnT at *
  rw [liT_E e, e44] at h
  exact h
theorem p_doneT {σ : zS} {I : Nat → Bool} {B : Bx} {T : Int → Bool} {m y : Int} (H : CI σ) (S : ST σ 41 I) (hb : bOk B) (hm : 0 ≤ m ∧ m ≤ 6) (ok : ok44 σ) (hy : btE I y T) : zP' (g_c_done m (enc B) y σ) (fun v s => v = valT σ 41 B T m ∧ fnT σ s B T) := by
  unfold g_c_done
  refine zP'.bind (zP'.of (g_ca_serve_sp (a0 := 48) (by omega) H)) (fun _ s1 p1 => ?_)
  obtain ⟨H1, G1, -⟩ := p1
  have e : stE σ s1 := stE.of G1 (fun _ => ⟨rfl, rfl, rfl, rfl, rfl, rfl, rfl⟩)
  have S1 := ST_E S e
  try dsimp +instances only
  obtain ⟨rows, e1, e2⟩ := p_rowsIn (σ := s1) (b := B) S1.2.1 hb
  rw [e1]
  rw [Option.bind_some]
  try dsimp +instances only
  have e44 : s1 44 = σ 44 := funext (fun j => e 44 j (by unfold stK; omega))
  refine zP'.bind (p_fiMeasT (a := 60) (by omega) (B := B) (T := T) H1 S1 hm (fun r hr => by rw [e44]; exact ok r hr) (fun q hq => by
    rw [bq_and, e2 q (by omega)]
    cases hI : I q with
    | false => rfl
    | true => rw [hy q hq hI, Bool.true_and, Bool.true_and])) (fun _ s p => ?_)
  obtain ⟨-, p2, p3, p4, p5⟩ := p
  try dsimp +instances only
  refine zP'.bind p5 (fun v t q => ?_)
  refine zP'.ret ⟨?_, ?_⟩
  · dsimp only
    rw [q.2, valT_E e]
  · dsimp only
    rw [q.1]
    exact fnT_E e ⟨p2, p3, p4⟩
/-- the two lists are one -/
theorem liT_eq {σ : zS} {c m mw : Nat} (R : RW σ c m mw) (B : Bx) (T : Int → Bool) : liT σ c B T = liR (σ m) B T ∧ ∀ v, v ∈ liT σ c B T → (0 ≤ v ∧ v < 60) ∧ σ (c + 3) v = σ mw (1 + v) := by
  obtain ⟨⟨b1, b2, b3, b5⟩, hr⟩ := R
  have mem : ∀ a, a ∈ ordL σ c → ∃ q : Nat, a = (q : Int) ∧ q < 60 ∧ inS σ m q = true := fun a ha => by
    obtain ⟨q, h1, h2⟩ := (b5 a).mp ha
    exact ⟨q, h1, b1 q h2, h2⟩
  have hS : SL (KF (σ m)) (selF (σ m) B T) (liT σ c B T) := by
    refine ⟨?_, fun v => ?_⟩
    · refine List.Pairwise.imp_of_mem (fun {a b} ha hb h => ?_) (List.Pairwise.filter _ b3)
      obtain ⟨q1, rfl, h1, -⟩ := mem a (List.mem_filter.mp ha).1
      obtain ⟨q2, rfl, h2, -⟩ := mem b (List.mem_filter.mp hb).1
      obtain ⟨-, x1, y1, -⟩ := hr q1 h1
      obtain ⟨-, x2, y2, -⟩ := hr q2 h2
      unfold rkA at h
      rw [x1, y1, x2, y2] at h
      exact h
    · unfold liT
      rw [List.mem_filter]
      constructor
      · rintro ⟨h1, h2⟩
        obtain ⟨q, rfl, h3, h4⟩ := mem v h1
        obtain ⟨-, x1, y1, -⟩ := hr q h3
        obtain ⟨h2, hT⟩ := Bool.and_eq_true_iff.mp h2
        have h2 := of_decide_eq_true h2
        rw [x1, y1] at h2
        have h5 := of_decide_eq_true h4
        exact ⟨q, h3, rfl, by omega, h2, hT⟩
      · rintro ⟨q, h1, rfl, h2, h3, hT⟩
        obtain ⟨z1, x1, y1, -⟩ := hr q h1
        refine ⟨(b5 _).mpr ⟨q, rfl, decide_eq_true ⟨h1, by omega⟩⟩, Bool.and_eq_true_iff.mpr ⟨decide_eq_true ?_, hT⟩⟩
        rw [x1, y1]
        exact h3
  refine ⟨(liR_eq hS).symm, fun v hv => ?_⟩
  obtain ⟨q, rfl, h1, -⟩ := mem v (List.mem_filter.mp hv).1
  obtain ⟨-, -, -, w1, -⟩ := hr q h1
  exact ⟨by omega, w1⟩
theorem valT_eq {σ : zS} {c m mw : Nat} (R : RW σ c m mw) (B : Bx) (T : Int → Bool) (ms : Int) : valT σ c B T ms = valR (σ m) (σ mw) B T ms := by
  obtain ⟨e, g⟩ := liT_eq R B T
  unfold valT valR
  rw [← e]
  refine msF_ext (fun j hj => ?_)
  obtain ⟨hb, w1⟩ := g _ (getD_mem hj)
  rw [show ((j : Nat) : Int).toNat = j by omega, w1]
  exact (if_pos (by omega)).symm
/-- the find of both sides is one -/
def FNe (s : zS) : Prop := s 60 2 = s 144 8 ∧ ∀ j : Nat, j < 60 → (j : Int) < s 60 2 → s 61 (j : Int) = s 144 (200 + (j : Int)) ∧ s 62 (j : Int) = s 147 (61 + (j : Int))
theorem FN_of {σ s t : zS} {B : Bx} {T : Int → Bool} (R : RW σ 41 144 147) (h1 : fnT σ s B T) (h2 : fnR σ t B T) (e : ∀ a j, (a = 60 ∧ j = 2) ∨ a = 61 ∨ a = 62 → t a j = s a j) : FNe t := by
  obtain ⟨el, g⟩ := liT_eq R B T
  obtain ⟨a1, a2, a3⟩ := h1
  obtain ⟨b1, b2, b3⟩ := h2
  rw [← el] at b1 b2 b3
  generalize liT σ 41 B T = L at a1 a2 a3 b1 b2 b3 g
  refine ⟨by rw [e 60 2 (by omega), a1, b1], fun j _ hj => ?_⟩
  rw [e 60 2 (by omega), a1] at hj
  have hj : j < L.length := by omega
  have c1 := sg_get (f := s 61) L.length 0 j hj
  have c2 := sg_get (f := fun j => t 144 (200 + j)) L.length 0 j hj
  rw [a2] at c1
  rw [b2] at c2
  rw [show (0 : Int) + (j : Int) = (j : Int) by omega] at c1 c2
  obtain ⟨-, w⟩ := g _ (getD_mem hj)
  refine ⟨?_, ?_⟩
  · rw [e 61 _ (by omega), ← c1]
    exact c2
  · rw [e 62 _ (by omega), a3 j hj, b3 j hj, w]
end
section
/-! 6w.askT -/
/-! WHAT THE REFERENCE ASKS with a test: the answer, the find, the fault kept -/
theorem asked_fault {σ : zS} {N : Nat} {q : Bx} {x t : Int} (hR : RI σ N) (hN : σ 144 0 = (N : Int)) (hN2 : N ≤ 12) (hq : bOk q) (hb : bxA σ 152 0 = q) (h13 : 1 ≤ σ 144 13) (h13b : σ 144 13 ≤ 12) (h12 : 1 ≤ σ 144 12) (ht : ∀ s, frQ σ s → tstOk s t) (hev : ∀ s, frQ σ s → (t < 0 ∨ ∀ (s' : zS) (r : Int), 0 ≤ r → r < 60 → frG s s' → zP' (g_grp231 zR 231 r (zu s' 143 21 t)) (fun _ u => fr3 (zu s' 143 21 t) u ∧ u 143 22 = s' 143 22))) : zP' (g_m_asked x t σ) (fun _ u => u 143 22 = σ 143 22) := by
  have l152 : zLI 152 = 4 := rfl
  obtain ⟨s1, N1, e1, e2, e3, e4, e5⟩ := s_queries hR hN hN2 hq hb h13 h13b h12
  obtain ⟨s2, m, f1, f2, f3, f4, f5⟩ := s_gathers (a := 152) (i := 0) (t := t) (σ := s1) (by omega) (by omega) (by omega) (ht s1 e5)
  have ff : s2 143 22 = s1 143 22 := ga_fault (hev s1 e5) () s2 f1
  obtain ⟨v, s3, g1, g2⟩ := s_asked27 (x := x) f2 m 0 zK (zu s2 144 8 (m : Int)) (by omega) (by show _ < 1000000; omega) (by rw [zu_a (by decide)]; exact f4)
  unfold g_m_asked
  rw [e1]
  rw [Option.bind_some]
  try dsimp only
  rw [f1]
  simp only [Option.bind_some, f4]
  have g1 : g_m_asked_L27 zK x 0 (zu s2 144 8 (m : Int)) = some (v, s3) := g1
  rw [g1]
  refine zP'.ret ?_
  rw [g2 143 22 (Or.inl (by decide)) (Or.inl (by decide)) (Or.inr (by decide)), zu_a (by decide), ff]
  exact e5 143 22 (Or.inl (by decide)) (Or.inl (by decide)) (by decide) (by decide) (by decide) (Or.inr (by decide))
/-- a row's test, read anew -/
theorem ev_row {ev : Int → Int → Int} {r t p' : Int} {T : Int → Bool} {s : zS} (hr : 0 ≤ r ∧ r < 60) (hL : 0 ≤ s 143 20 ∧ s 143 20 ≤ 160) (hb : tpR s) (h0 : 0 ≤ t ∧ t ≤ s 143 20) (he : ∀ l, mev s l r = ev l r) (e : eP ev (mT s) (s 143 20) 700 0 0 t (fun _ => true) = .inr (T, p')) : zP' (g_grp231 zR 231 r (zu s 143 21 t)) (evQ (zu s 143 21 t) (T r) p') := by
  have f : fr3 s (zu s 143 21 t) := fr3.u (Or.inl rfl)
  have e21 : zu s 143 21 t 143 21 = t := zu_e rfl
  have e20 : zu s 143 21 t 143 20 = s 143 20 := zu_i (by decide)
  have tp : tpP (zu s 143 21 t) := by
    refine ⟨by rw [e20]; exact hL, by rw [e20, e21]; exact h0, ?_⟩
    unfold tpR
    rw [e20]
    exact fun j j1 j2 => by rw [zu_a (by decide)]; exact hb j j1 j2
  refine (m_eval (ev := ev) hr 700).1 zR 0 (fun _ => true) (T, p') _ tp (fun l => (mev_f f l r).trans (he l)) ?_
  rw [mT_f f, e20, e21]
  exact e
/-- what a query of the line is, told of any state that keeps tape and rows -/
def tpK (σ s : zS) : Prop := s 143 20 = σ 143 20 ∧ (∀ j, s 159 j = σ 159 j) ∧ (∀ j, 20 ≤ j → j < 200 → s 144 j = σ 144 j) ∧ ∀ j, 1 ≤ j → j < 61 → s 147 j = σ 147 j
theorem tpK.eT {σ s : zS} (k : tpK σ s) : mT s = mT σ := by
  unfold mT
  rw [k.1, show s 159 = σ 159 from funext k.2.1]
theorem tpK.eV {σ s : zS} (k : tpK σ s) {r : Int} (hr : 0 ≤ r ∧ r < 60) (l : Int) : mev s l r = mev σ l r := by
  unfold mev
  rw [k.2.2.2 (1 + r) (by omega) (by omega), k.2.2.1 (21 + 3 * r) (by omega) (by omega), k.2.2.1 (22 + 3 * r) (by omega) (by omega)]
theorem tpK.trans {σ s t : zS} (h1 : tpK σ s) (h2 : tpK s t) : tpK σ t := ⟨h2.1.trans h1.1, fun j => (h2.2.1 j).trans (h1.2.1 j), fun j a b => (h2.2.2.1 j a b).trans (h1.2.2.1 j a b), fun j a b => (h2.2.2.2 j a b).trans (h1.2.2.2 j a b)⟩
theorem tpK.Q {σ s : zS} (h : frQ σ s) : tpK σ s := ⟨h 143 20 (Or.inl (by decide)) (Or.inl (by decide)) (by decide) (by decide) (by decide) (Or.inr (by decide)), fun j => h 159 j (Or.inl (by decide)) (Or.inl (by decide)) (by decide) (by decide) (by decide) (Or.inl (by decide)), fun j a b => h 144 j (Or.inr (by omega)) (Or.inl (by decide)) (by decide) (by decide) (by decide) (Or.inl (by decide)), fun j a b => h 147 j (Or.inl (by decide)) (Or.inr (by omega)) (by decide) (by decide) (by decide) (Or.inl (by decide))⟩
theorem tpK.G {σ s : zS} (h : frG σ s) : tpK σ s := ⟨h 143 20 (Or.inr (by decide)) (by decide) (by decide), fun j => h 159 j (Or.inl (by decide)) (by decide) (by decide), fun j _ _ => h 144 j (Or.inl (by decide)) (by decide) (by decide), fun j _ _ => h 147 j (Or.inl (by decide)) (by decide) (by decide)⟩
theorem q_ev {σ s : zS} {Q : zQy} (hL : 0 ≤ σ 143 20 ∧ σ 143 20 ≤ 160) (hb : tpR σ) (k : tpK σ s) (ok : qOkP (mev σ) (mT σ) (σ 143 20) Q) : Q.2.2.1 < 0 ∧ (∀ r, Q.2.2.2 r = true) ∨ 0 ≤ Q.2.2.1 ∧ ∃ p', ∀ (s' : zS) (r : Int), 0 ≤ r → r < 60 → frG s s' → zP' (g_grp231 zR 231 r (zu s' 143 21 Q.2.2.1)) (evQ (zu s' 143 21 Q.2.2.1) (Q.2.2.2 r) p') := by
  obtain ⟨-, -, h⟩ := ok
  rcases h with ⟨h1, h2⟩ | ⟨h1, h2, p', h3⟩
  · exact Or.inl ⟨h1, h2⟩
  · refine Or.inr ⟨h1, p', fun s' r r1 r2 g => ?_⟩
    have k' := k.trans (tpK.G g)
    have hb' : tpR s' := by
      unfold tpR
      rw [k'.1]
      exact fun j j1 j2 => by rw [k'.2.1]; exact hb j j1 j2
    refine ev_row (ev := mev σ) ⟨r1, r2⟩ (by rw [k'.1]; exact hL) hb' (by rw [k'.1]; exact ⟨h1, h2⟩) (fun l => k'.eV ⟨r1, r2⟩ l) ?_
    rw [k'.eT, k'.1]
    exact h3
theorem q_tst {σ s : zS} {Q : zQy} (hL : 0 ≤ σ 143 20 ∧ σ 143 20 ≤ 160) (hb : tpR σ) (k : tpK σ s) (ok : qOkP (mev σ) (mT σ) (σ 143 20) Q) : tstT s Q.2.2.1 Q.2.2.2 := by
  rcases q_ev hL hb k ok with h | ⟨h1, p', h2⟩
  · exact Or.inl h
  · have h3 : Q.2.2.1 ≤ σ 143 20 := by
      rcases ok.2.2 with h | h
      · omega
      · exact h.2.1
    have t0 := tst_ok (σ := s) (t := Q.2.2.1) (by rw [k.1]; exact hL) (by omega)
    refine Or.inr ⟨by omega, fun s' g r r1 r2 => ?_⟩
    obtain ⟨b, s'', e1, e2⟩ := (t0.resolve_left (by omega)) s' g r r1 r2
    obtain ⟨-, p2, -⟩ := h2 s' r r1 r2 g b s'' e1
    refine ⟨b, s'', e1, ?_, fun a j h => e2 a j h⟩
    rw [p2]
    cases Q.2.2.2 r with
    | true => exact ⟨fun _ => rfl, fun _ => by decide⟩
    | false => exact ⟨fun h => absurd rfl h, fun h => by cases h⟩
theorem t_askedQ {σ s : zS} {N : Nat} {Q : zQy} (hL : 0 ≤ σ 143 20 ∧ σ 143 20 ≤ 160) (hb : tpR σ) (k : tpK σ s) (ok : qOkP (mev σ) (mT σ) (σ 143 20) Q) (hR : RI s N) (hN : s 144 0 = (N : Int)) (hN2 : N ≤ 12) (hq : bxA s 152 0 = Q.2.1) (h13 : 1 ≤ s 144 13) (h13b : s 144 13 ≤ 12) (h12 : 1 ≤ s 144 12) (hp : plR s) (o7 : ok147 s) : ∃ t N', g_m_asked Q.1 Q.2.2.1 s = some (valR (σ 144) (σ 147) Q.2.1 Q.2.2.2 Q.1, t) ∧ fnR σ t Q.2.1 Q.2.2.2 ∧ t 143 22 = s 143 22 ∧ RI t N' ∧ t 144 0 = (N' : Int) ∧ N' ≤ 12 ∧ frK s t ∧ 0 ≤ t 144 8 ∧ t 144 8 ≤ 60 := by
  have hx := ok.1
  have hbx := ok.2.1
  have tsk : ∀ u, frQ s u → tstT u Q.2.2.1 Q.2.2.2 := fun u g => q_tst hL hb (k.trans (tpK.Q g)) ok
  have tso : ∀ u, frQ s u → tstOk u Q.2.2.1 := fun u g => tst_ok (by rw [(k.trans (tpK.Q g)).1]; exact hL) (by
    rcases ok.2.2 with h | h
    · omega
    · omega)
  obtain ⟨t, e1, e2⟩ := t_asked (x := Q.1) (t := Q.2.2.1) (T := Q.2.2.2) hR hN hN2 hbx hq h13 h13b h12 hp o7 hx tsk
  obtain ⟨v, t', N', g1, g2, g3, g4, g5, g6, g7⟩ := s_asked (x := Q.1) (t := Q.2.2.1) hR hN hN2 hbx hq h13 h13b h12 tso
  rw [e1] at g1
  cases g1
  have g0 := asked_fault (x := Q.1) (t := Q.2.2.1) hR hN hN2 hbx hq h13 h13b h12 tso (fun u g => by
    rcases q_ev hL hb (k.trans (tpK.Q g)) ok with h | ⟨h1, p', h2⟩
    · exact Or.inl h.1
    · refine Or.inr (fun s' r r1 r2 gg => (h2 s' r r1 r2 gg).imp (fun b w p => ⟨p.1.1, p.1.2.trans (zu_i (by decide))⟩))) _ _ e1
  have eV : valR (s 144) (s 147) Q.2.1 Q.2.2.2 Q.1 = valR (σ 144) (σ 147) Q.2.1 Q.2.2.2 Q.1 := valR_ext k.2.2.1 k.2.2.2
  have eL : liR (s 144) Q.2.1 Q.2.2.2 = liR (σ 144) Q.2.1 Q.2.2.2 := liR_ext k.2.2.1
  refine ⟨t, N', by rw [← eV]; exact e1, ?_, g0, g2, g3, g4, g5, g6, g7⟩
  obtain ⟨f1, f2, f3⟩ := e2
  unfold fnR
  rw [eL] at f1 f2 f3
  refine ⟨f1, f2, fun j hj => ?_⟩
  have hm : (liR (σ 144) Q.2.1 Q.2.2.2).getD j 0 ∈ liR (σ 144) Q.2.1 Q.2.2.2 := getD_mem hj
  obtain ⟨s5, m5, -, -, -, -, k5, -⟩ := t_gathers (a := 152) (i := 0) (t := Q.2.2.1) (σ := s) (B := Q.2.1) (T := Q.2.2.2) (by omega) (by show (0 : Int) + 3 < 4; decide) (by decide) (by decide) (by decide) (by decide) hq hp (tsk s (fun _ _ _ _ _ _ _ _ => rfl))
  have eq : liR (s 144) Q.2.1 Q.2.2.2 = sg (s5 154) 0 m5 := liR_eq k5
  rw [← eL, eq] at hm
  have bd := selF_bd (f := s 144) (B := Q.2.1) (T := Q.2.2.2) ((k5.2 _).mp hm)
  rw [← eq, eL] at bd
  rw [f3 j hj, k.2.2.2 _ (by omega) (by omega)]
end
section
/-! 6x.runM -/
/-! run() OF THE REFERENCE: its answers, its find -/
def anR (σ : zS) (l : List zQy) (k : Nat) (s : zS) : Prop := ∀ (i : Nat) (hi : i < l.length), i < k → s 162 (i : Int) = valR (σ 144) (σ 147) l[i].2.1 l[i].2.2.2 l[i].1
def fnRl (σ : zS) (l : List zQy) (k : Nat) (s : zS) : Prop := ∀ (i : Nat) (hi : i < l.length), i + 1 = k → fnR σ s l[i].2.1 l[i].2.2.2
theorem m_run86T {σ : zS} {l : List zQy} (hl : l.length ≤ 8) (h0 : 0 < l.length) (hL : 0 ≤ σ 143 20 ∧ σ 143 20 ≤ 160) (hb : tpR σ) (ok : ∀ Q ∈ l, qOkP (mev σ) (mT σ) (σ 143 20) Q) (o7 : ok147 σ) : ∀ (n k : Nat) (s : zS), k ≤ l.length → MI s → tpK σ s → s 143 22 = -1 → s 143 27 = (l.length : Int) → quR' l s → anR σ l k s → fnRl σ l k s → zP' (g_m_run_L86 n (l.length : Int) (k : Int) s) (fun v t => v = (l.length : Int) ∧ t 143 27 = (l.length : Int) ∧ anR σ l l.length t ∧ fnRl σ l l.length t)
  | 0, _, _, _, _, _, _, _, _, _, _ => zP'.no
  | n + 1, k, s, hk, h, kp, hs, h27, hq, ha, hf => by
    have l161 : zLI 161 = 48 := rfl
    have l152 : zLI 152 = 4 := rfl
    unfold g_m_run_L86
    by_cases c : (l.length : Int) ≤ (k : Int)
    · have ek : k = l.length := by omega
      subst ek
      rw [if_pos c]
      unfold g_m_run_L145
      try dsimp +instances only
      have e22 : zu s 143 20 0 143 22 = -1 := (zu_i (by decide)).trans hs
      rw [if_neg (by rw [e22]; decide)]
      refine zP'.ret ⟨rfl, (zu_i (by decide)).trans h27, fun i hi hik => ?_, fun i hi hik => ?_⟩
      · rw [zu_a (by decide)]
        exact ha i hi hik
      · obtain ⟨f1, f2, f3⟩ := hf i hi hik
        refine ⟨(zu_a (by decide)).trans f1, ?_, fun j hj => (zu_a (by decide)).trans (f3 j hj)⟩
        have e : (fun j => zu s 143 20 0 144 (200 + j)) = fun j => s 144 (200 + j) := funext (fun j => zu_a (by decide))
        show sg (fun j => zu s 143 20 0 144 (200 + j)) 0 _ = _
        rw [e]
        exact f2
    · have hk' : k < l.length := by omega
      have okQ := ok l[k] (List.getElem_mem hk')
      obtain ⟨q1, q2, q3⟩ := hq k hk'
      rw [if_neg c, w32_id (x := 6 * (k : Int)) (by omega) (by omega), w32_id (x := 6 * (k : Int) + 1) (by omega) (by omega), s_copies (by omega) (by omega) (by omega) (by omega) (by omega) (by omega)]
      rw [Option.bind_some]
      try dsimp +instances only
      rw [if_pos (by omega), w32_id (x := 6 * (k : Int) + 5) (by omega) (by omega), if_pos (by omega)]
      generalize hs1 : zb s 152 0 (bxA s 161 (6 * (k : Int) + 1)) = s1
      have f1 : ∀ a j, a ≠ 152 → s1 a j = s a j := fun a j ha => by rw [← hs1]; exact zb_a ha
      have hb1 : bxA s1 152 0 = l[k].2.1 := by rw [← hs1, ← q2]; exact zb_bx rfl
      have h1 : MI s1 := MI_144 h (fun a j hh => f1 a j (by omega))
      have k1 : tpK σ s1 := kp.trans ⟨f1 143 20 (by decide), fun j => f1 159 j (by decide), fun j _ _ => f1 144 j (by decide), fun j _ _ => f1 147 j (by decide)⟩
      rw [f1 161 _ (by decide), f1 161 _ (by decide), q1, q3]
      obtain ⟨N, n1, n2, n3⟩ := h1.1
      have hp : plR s1 := fun r hr => h1.2.1.2.2.2.2.2.2 r hr
      have o71 : ok147 s1 := fun r hr => by
        rw [k1.2.2.2 _ (by omega) (by omega)]
        exact o7 r hr
      obtain ⟨t, N', e1, e2, e3, e4, e5, e6, e7, e8⟩ := t_askedQ hL hb k1 okQ n3 n2 n1 hb1 h1.2.1.2.1.1 h1.2.1.2.1.2 h1.2.1.1.1 hp o71
      rw [e1]
      rw [Option.bind_some]
      try dsimp +instances only
      rw [if_pos (by omega), w32_id (x := (k : Int) + 1) (by omega) (by omega)]
      have q : ∀ a j, (a < 143 ∨ 168 ≤ a ∨ a = 159 ∨ a = 161 ∨ a = 162 ∨ a = 166 ∨ a = 167 ∨ a = 145 ∨ a = 148 ∨ (a = 144 ∧ ((9 ≤ j ∧ j < 200) ∨ (260 ≤ j ∧ j < 340))) ∨ (a = 147 ∧ 1 ≤ j ∧ j < 61) ∨ (a = 143 ∧ (j = 6 ∨ j = 20 ∨ j = 27 ∨ j = 29 ∨ j = 32))) → t a j = s1 a j := fun a j hh => e7 a j (by omega) (by omega) (by omega) (by omega) (by omega) (by omega) (by omega) (by omega)
      have hH2 : HI t := HI_fr h1.2.1 (fun j hj => q 144 j (by omega)) e8
      have h2 : MI t := MI_q h1 ⟨N', e6, e5, e4⟩ hH2 (fun a j hh => q a j (by omega))
      generalize hv : valR (σ 144) (σ 147) l[k].2.1 l[k].2.2.2 l[k].1 = v
      have h3 : MI (zu t 162 (k : Int) v) := MI_144 h2 (fun a j hh => zu_a (by omega))
      have z : ∀ a j, a ≠ 162 → zu t 162 (k : Int) v a j = t a j := fun a j ha => zu_a (by omega)
      rw [show (k : Int) + 1 = ((k + 1 : Nat) : Int) by omega]
      refine m_run86T hl h0 hL hb ok o7 n (k + 1) _ (by omega) h3 (k1.trans ⟨?_, fun j => ?_, fun j j1 j2 => ?_, fun j j1 j2 => ?_⟩) ?_ ?_ ?_ ?_ ?_
      · rw [z 143 20 (by decide)]
        exact q 143 20 (by omega)
      · rw [z 159 j (by decide)]
        exact q 159 j (by omega)
      · rw [z 144 j (by decide)]
        exact q 144 j (by omega)
      · rw [z 147 j (by decide)]
        exact q 147 j (by omega)
      · rw [z 143 22 (by decide), e3, f1 143 22 (by decide)]
        exact hs
      · rw [z 143 27 (by decide), q 143 27 (by omega), f1 143 27 (by decide)]
        exact h27
      · intro i hi
        have g := hq i hi
        have e : ∀ j, zu t 162 (k : Int) v 161 j = s 161 j := fun j => (z 161 j (by decide)).trans ((q 161 j (by omega)).trans (f1 161 j (by decide)))
        have eb : bxA (zu t 162 (k : Int) v) 161 (6 * (i : Int) + 1) = bxA s 161 (6 * (i : Int) + 1) := by
          unfold bxA
          rw [e, e, e, e]
        rw [e, e, eb]
        exact g
      · intro i hi hik
        by_cases ci : i = k
        · subst ci
          rw [zu_e rfl, ← hv]
        · rw [zu_i (by omega), q 162 _ (by omega), f1 162 _ (by decide)]
          exact ha i hi (by omega)
      · intro i hi hik
        have ci : i = k := by omega
        subst ci
        obtain ⟨g1, g2, g3⟩ := e2
        refine ⟨(z 144 8 (by decide)).trans g1, ?_, fun j hj => (z 147 _ (by decide)).trans (g3 j hj)⟩
        have e : (fun j => zu t 162 (i : Int) v 144 (200 + j)) = fun j => t 144 (200 + j) := funext (fun j => z 144 _ (by decide))
        show sg (fun j => zu t 162 (i : Int) v 144 (200 + j)) 0 _ = _
        rw [e]
        exact g2
def rnM (σ : zS) (t : zS) : Sum Int (List zQy) → Prop
  | .inl _ => ∀ a j, a ≠ 161 → (a ≠ 143 ∨ (j ≠ 20 ∧ j ≠ 21 ∧ j ≠ 22 ∧ j ≠ 23)) → t a j = σ a j
  | .inr l => t 143 27 = (l.length : Int) ∧ anR σ l l.length t ∧ fnRl σ l l.length t
theorem m_runA {σ : zS} (h : MI σ) (hb : tpR σ) (o7 : ok147 σ) : zP' (g_m_run σ) (fun v t => v = runAns (runP (mev σ) (mT σ) (σ 143 20) 8 0 []) ∧ rnM σ t (runP (mev σ) (mT σ) (σ 143 20) 8 0 [])) := by
  have h20 := h.2.2.1.1
  have ok := runP_ok (ev := mev σ) (f := mT σ) (L := σ 143 20) 8 0 [] (by decide) h20.1 rfl (fun Q hQ => absurd hQ List.not_mem_nil)
  unfold g_m_run g_m_begins
  rw [Option.bind_some]
  try dsimp +instances only
  have f3 : fr3 σ (zu (zu σ 143 21 0) 143 22 (-1)) := fun a j k2 => by rw [zu_c (by omega), zu_c (by omega)]
  have q21 : zu (zu σ 143 21 0) 143 22 (-1) 143 21 = 0 := by rw [zu_i (by omega), zu_e rfl]
  have q22 : zu (zu σ 143 21 0) 143 22 (-1) 143 22 = -1 := zu_e rfl
  generalize zu (zu σ 143 21 0) 143 22 (-1) = s1 at f3 q21 q22
  have e20 : s1 143 20 = σ 143 20 := f3 143 20 (by omega)
  have t1 : tpP s1 := by
    refine ⟨by rw [e20]; exact h20, by rw [e20, q21]; exact ⟨Int.le_refl 0, h20.1⟩, ?_⟩
    unfold tpR
    rw [e20]
    exact fun j j1 j2 => by rw [f3 159 j (Or.inl (by decide))]; exact hb j j1 j2
  refine m_runP (ev := mev σ) (σ0 := s1) zK 8 [] s1 t1 q22 rfl (by decide) (fun _ _ _ _ => rfl) (fun i hi => absurd hi (Nat.not_lt_zero _)) (fun r s f hr k => ?_)
  rw [mT_f f3, e20, q21] at hr
  have f : frQ2 σ s := (frQ2.of f3).trans f
  have hM := (MI_Q2 h f).1
  cases k with
  | zero => exact zP'.no
  | succ k =>
    unfold g_m_run_L8
    rw [if_pos rfl]
    cases e : runP (mev σ) (mT σ) (σ 143 20) 8 0 [] with
    | inl q =>
      rw [e] at hr
      have hr : s 143 22 = q := hr
      have bq := ok.1 q e
      try dsimp +instances only
      rw [if_pos (by omega)]
      unfold g_m_run_L145
      try dsimp +instances only
      have e22 : zu s 143 20 0 143 22 = q := (zu_i (by decide)).trans hr
      rw [e22, if_pos (by omega), w32_id (x := -100 - q) (by omega) (by omega)]
      exact zP'.ret ⟨rfl, fun a j k1 k2 => (zu_c (by omega)).trans (f a j k1 (by omega))⟩
    | inr l =>
      rw [e] at hr
      obtain ⟨rfl, h22, hq⟩ := hr
      obtain ⟨l8, l0, lq⟩ := ok.2 l e
      try dsimp +instances only
      rw [if_neg (by omega)]
      have z : ∀ a j, (a ≠ 143 ∨ j ≠ 27) → zu s 143 27 (l.length : Int) a j = s a j := fun a j hh => zu_c hh
      have kp : tpK σ (zu s 143 27 (l.length : Int)) := ⟨by rw [z 143 20 (by omega)]; exact f 143 20 (by decide) (by omega), fun j => by rw [z 159 j (by omega)]; exact f 159 j (by decide) (by omega), fun j _ _ => by rw [z 144 j (by omega)]; exact f 144 j (by decide) (by omega), fun j _ _ => by rw [z 147 j (by omega)]; exact f 147 j (by decide) (by omega)⟩
      have hM2 : MI (zu s 143 27 (l.length : Int)) := by
        refine ⟨NI_fr hM.1 (fun j _ => z 144 j (by omega)), HI_fr8 hM.2.1 (fun j _ _ => z 144 j (by omega)), ?_, II_fr hM.2.2.2 (z 143 6 (by omega)) (fun j => z 145 j (by omega))⟩
        obtain ⟨x1, x2, x3, x4, x5⟩ := hM.2.2.1
        refine ⟨by rw [z 143 20 (by omega)]; exact x1, by rw [zu_e rfl]; omega, by rw [z 143 29 (by omega)]; exact x3, by rw [z 143 32 (by omega)]; exact x4, fun k hk => ?_⟩
        rw [z 166 _ (by omega)]
        exact x5 k hk
      exact m_run86T l8 l0 h20 hb lq o7 zK 0 _ (Nat.zero_le _) hM2 kp ((z 143 22 (by omega)).trans h22) (zu_e rfl) (fun i hi => by
        have g := hq i hi
        have eb : bxA (zu s 143 27 (l.length : Int)) 161 (6 * (i : Int) + 1) = bxA s 161 (6 * (i : Int) + 1) := by
          unfold bxA
          rw [z 161 _ (by omega), z 161 _ (by omega), z 161 _ (by omega), z 161 _ (by omega)]
        rw [z 161 _ (by omega), z 161 _ (by omega), eb]
        exact g) (fun i hi hik => absurd hik (Nat.not_lt_zero _)) (fun i hi hik => by omega)
end
section
/-! 6y.runC -/
/-! run() OF THE CLASS: its answers, its find; both sides together -/
def anC (σ : zS) (l : List zQy) (k : Nat) (s : zS) : Prop := ∀ (i : Nat) (hi : i < l.length), i < k → s 128 (i : Int) = valT σ 41 l[i].2.1 l[i].2.2.2 l[i].1
def fnCl (σ : zS) (l : List zQy) (k : Nat) (s : zS) : Prop := ∀ (i : Nat) (hi : i < l.length), i + 1 = k → fnT σ s l[i].2.1 l[i].2.2.2
theorem fnT_zu {σ s : zS} {B : Bx} {T : Int → Bool} {a : Nat} {i v : Int} (h : fnT σ s B T) (k : a ≠ 60 ∧ a ≠ 61 ∧ a ≠ 62) : fnT σ (zu s a i v) B T := by
  obtain ⟨f1, f2, f3⟩ := h
  refine ⟨(zu_a (by omega)).trans f1, ?_, fun j hj => (zu_a (by omega)).trans (f3 j hj)⟩
  have e : zu s a i v 61 = s 61 := funext (fun j => zu_a (by omega))
  rw [e]
  exact f2
theorem c_run37T {I : Nat → Bool} {σ : zS} {l : List zQy} (hl : l.length ≤ 8) (ok : ∀ Q ∈ l, (0 ≤ Q.1 ∧ Q.1 ≤ 6) ∧ bOk Q.2.1) (S : ST σ 41 I) (o4 : ok44 σ) : ∀ (n k : Nat) (s : zS), k ≤ l.length → CI s → stE σ s → s 120 3 = -1 → s 122 5 = (l.length : Int) → s 39 9 = (l.length : Int) → quH I l s → anC σ l k s → fnCl σ l k s → zP' (g_c_run_L37 n (k : Int) s) (fun v t => v = (l.length : Int) ∧ t 39 9 = (l.length : Int) ∧ anC σ l l.length t ∧ fnCl σ l l.length t)
  | 0, _, _, _, _, _, _, _, _, _, _, _ => zP'.no
  | n + 1, k, s, hk, H, e, h3, h5, h9, hq, ha, hf => by
    unfold g_c_run_L37
    try dsimp +instances only
    rw [h5]
    by_cases c : (l.length : Int) ≤ (k : Int)
    · have ek : k = l.length := by omega
      subst ek
      rw [if_pos c]
      unfold g_c_run_L100
      try dsimp +instances only
      rw [c_end, if_pos h3]
      rw [Option.bind_some]
      have z : ∀ a j, a ≠ 120 → zu s 120 1 0 a j = s a j := fun a j h => zu_a h
      exact zP'.ret ⟨h5, (z 39 9 (by decide)).trans h9, fun i hi hik => (z 128 _ (by decide)).trans (ha i hi hik), fun i hi hik => fnT_zu (hf i hi hik) (by decide)⟩
    · have hk' : k < l.length := by omega
      obtain ⟨okm, okb⟩ := ok l[k] (List.getElem_mem hk')
      obtain ⟨q1, q2, q3⟩ := hq k hk'
      rw [if_neg c, if_neg (by omega), if_pos (by omega), if_pos (by omega), if_pos (by omega), q1, q2]
      have S1 := ST_E S e
      have o41 : ok44 s := fun r hr => by
        rw [e 44 _ (by unfold stK; omega)]
        exact o4 r hr
      refine zP'.bind ((p_doneT (T := l[k].2.2.2) H S1 okb okm o41 q3).and (zP'.of (g_c_done_sp H))) (fun v t p => ?_)
      obtain ⟨⟨p1, p2⟩, Ht, Gt, -⟩ := p
      try dsimp +instances only
      rw [if_pos (by omega), w32_id (x := (k : Int) + 1) (by omega) (by omega), show (k : Int) + 1 = ((k + 1 : Nat) : Int) by omega]
      have et : stE s t := stE.of Gt (fun _ => ⟨rfl, rfl, rfl, rfl, rfl, rfl, rfl⟩)
      have z : ∀ a j, a ≠ 128 → zu t 128 (k : Int) v a j = t a j := fun a j ha => zu_a (by omega)
      have ez : stE σ (zu t 128 (k : Int) v) := (e.trans et).trans (fun a j hh => z a j (by unfold stK at hh; omega))
      refine c_run37T hl ok S o4 n (k + 1) _ (by omega) (CI_zun Ht (by decide) (by decide) rfl) ez ?_ ?_ ?_ ?_ ?_ ?_
      · rw [z 120 3 (by decide), Gt 120 3 (Or.inr rfl)]
        exact h3
      · rw [z 122 5 (by decide), Gt 122 5 (Or.inr rfl)]
        exact h5
      · rw [z 39 9 (by decide), Gt 39 9 (Or.inr rfl)]
        exact h9
      · intro i hi
        rw [z 123 _ (by decide), z 124 _ (by decide), z 125 _ (by decide), Gt 123 _ (Or.inr rfl), Gt 124 _ (Or.inr rfl), Gt 125 _ (Or.inr rfl)]
        exact hq i hi
      · intro i hi hik
        by_cases ci : i = k
        · subst ci
          rw [zu_e rfl, p1, valT_E e]
        · rw [zu_i (by omega), Gt 128 _ (Or.inr rfl)]
          exact ha i hi (by omega)
      · intro i hi hik
        have ci : i = k := by omega
        subst ci
        exact fnT_zu (fnT_E e p2) (by decide)
def rnKc (σ : zS) (t : zS) : Sum Int (List zQy) → Prop
  | .inl _ => t 39 9 = σ 39 9 ∧ t 60 2 = σ 60 2 ∧ ∀ j, t 128 j = σ 128 j ∧ t 61 j = σ 61 j ∧ t 62 j = σ 62 j
  | .inr l => t 39 9 = (l.length : Int) ∧ anC σ l l.length t ∧ fnCl σ l l.length t
theorem c_runA {I : Nat → Bool} {ev : Int → Int → Int} {σ : zS} (H : CI σ) (hb : byC σ) (S : ST σ 41 I) (o4 : ok44 σ) (hev : ∀ q : Nat, q < 60 → I q = true → ∀ l : Int, 0 ≤ l → l ≤ 3 → cev σ l (q : Int) = ev l (q : Int)) : zP' (g_c_run σ) (fun v t => v = runAns (runP ev (cT σ) (σ 120 1) 8 0 []) ∧ rnKc σ t (runP ev (cT σ) (σ 120 1) 8 0 [])) := by
  have ht := CI.ct H
  unfold g_c_run
  rw [c_begin]
  rw [Option.bind_some]
  try dsimp +instances only
  have Hb : CI (zu (zu σ 120 2 0) 120 3 (-1)) := (zP'.of (g_ta_begin_sp H) _ _ c_begin).1
  have PP : zP' (g_qu_readParts (zu (zu σ 120 2 0) 120 3 (-1))) (fun _ s => frQu σ s ∧ quPo I (zu (zu (zu σ 120 2 0) 120 3 (-1)) 122 5 0) (runP ev (cT σ) (σ 120 1) 8 0 []) s) := by
    unfold g_qu_readParts
    try dsimp +instances only
    have f0 : frQu σ (zu (zu (zu σ 120 2 0) 120 3 (-1)) 122 5 0) := fun a j k1 k2 k3 k4 k5 => by rw [zu_c k5, zu_c (by omega), zu_c (by omega)]
    have e2 : zu (zu (zu σ 120 2 0) 120 3 (-1)) 122 5 0 120 2 = 0 := by rw [zu_a (by decide), zu_i (by decide), zu_e rfl]
    have e3 : zu (zu (zu σ 120 2 0) 120 3 (-1)) 122 5 0 120 3 = -1 := by rw [zu_a (by decide), zu_e rfl]
    have e5 : zu (zu (zu σ 120 2 0) 120 3 (-1)) 122 5 0 122 5 = 0 := zu_e rfl
    generalize zu (zu (zu σ 120 2 0) 120 3 (-1)) 122 5 0 = s1 at f0 e2 e3 e5
    have t1 : tpL s1 := by
      have e121 : s1 121 = σ 121 := funext (fun j => f0 121 j (Or.inl (by decide)) (by decide) (by decide) (by decide) (Or.inl (by decide)))
      unfold tpL
      rw [f0.L, e2, e121]
      exact ⟨ht, by omega, hb⟩
    have H1 : CI s1 := CI_Qu H f0 (by omega) (by omega)
    have O1 : exOk I ev s1 := (show exOk I ev σ from ⟨H, S, hev⟩).q f0 H1
    have P := c_runP (I := I) (ev := ev) zK 8 [] s1 t1 e3 O1 rfl (by decide) (fun i hi => absurd hi (Nat.not_lt_zero _))
    rw [f0.T, f0.L, e2] at P
    have P : zP' (g_qu_readParts_L9 zK 1 0 s1) (fun _ s => quPo I s1 (runP ev (cT σ) (σ 120 1) 8 0 []) s) := P
    exact P.imp (fun _ s p => ⟨f0.trans p.1, p⟩)
  refine zP'.bind (PP.and (zP'.of (g_qu_readParts_sp Hb))) (fun _ s2 p2 => ?_)
  obtain ⟨⟨F2, f2, p2⟩, H2, -, -⟩ := p2
  try dsimp +instances only
  rw [p_isSound]
  rw [Option.bind_some]
  try dsimp +instances only
  have ok := runP_ok (ev := ev) (f := cT σ) (L := σ 120 1) 8 0 [] (by decide) (by omega) rfl (fun Q hQ => absurd hQ List.not_mem_nil)
  cases e : runP ev (cT σ) (σ 120 1) 8 0 [] with
  | inl q =>
    rw [e] at p2
    have p2 : s2 120 3 = q := p2
    have hq := ok.1 q e
    have n3 : ¬ s2 120 3 = -1 := by omega
    rw [if_neg n3, if_pos rfl]
    unfold g_c_run_L100
    try dsimp +instances only
    rw [c_end, if_neg n3, p2, w32_id (x := -100 - q) (by omega) (by omega)]
    rw [Option.bind_some]
    have g : ∀ a j, a ≠ 120 → a ≠ 123 → a ≠ 124 → a ≠ 125 → a ≠ 122 → zu s2 120 1 0 a j = σ a j := fun a j k1 k2 k3 k4 k5 => (zu_a (by omega)).trans (F2 a j (Or.inl k1) k2 k3 k4 (Or.inl k5))
    exact zP'.ret ⟨rfl, g 39 9 (by decide) (by decide) (by decide) (by decide) (by decide), g 60 2 (by decide) (by decide) (by decide) (by decide) (by decide), fun j => ⟨g 128 j (by decide) (by decide) (by decide) (by decide) (by decide), g 61 j (by decide) (by decide) (by decide) (by decide) (by decide), g 62 j (by decide) (by decide) (by decide) (by decide) (by decide)⟩⟩
  | inr l =>
    rw [e] at p2
    obtain ⟨q3, q5, q6⟩ := p2
    rw [if_pos q3, if_neg (by decide)]
    obtain ⟨l8, l0, lq⟩ := ok.2 l e
    have H3 : CI (zu s2 39 9 (s2 122 5)) := CI_zuy H2 (by decide) (by decide) (lo := 0) (hi := 8) rfl (by omega) (by omega)
    have z : ∀ a j, a ≠ 39 → zu s2 39 9 (s2 122 5) a j = s2 a j := fun a j ha => zu_a (by omega)
    have e2 : stE σ (zu s2 39 9 (s2 122 5)) := fun a j hh => by
      unfold stK at hh
      rw [z a j (by omega)]
      exact F2 a j (Or.inl (by omega)) (by omega) (by omega) (by omega) (Or.inl (by omega))
    exact c_run37T l8 (fun Q hQ => ⟨(lq Q hQ).1, (lq Q hQ).2.1⟩) S o4 zK 0 _ (Nat.zero_le _) H3 e2 ((z 120 3 (by decide)).trans q3) ((z 122 5 (by decide)).trans q5) ((zu_e rfl).trans q5) (fun i hi => by
      rw [z 123 _ (by decide), z 124 _ (by decide), z 125 _ (by decide)]
      exact q6 i hi) (fun i hi hik => absurd hik (Nat.not_lt_zero _)) (fun i hi hik => by omega)
/-- the answers of both sides are one -/
def ANe (s : zS) : Prop := s 39 9 = s 143 27 ∧ ∀ j : Nat, j < 8 → (j : Int) < s 39 9 → s 128 (j : Int) = s 162 (j : Int)
theorem RW_ev {σ : zS} (R : RW σ 41 144 147) : ∀ q : Nat, q < 60 → inS σ 144 q = true → ∀ l : Int, 0 ≤ l → l ≤ 3 → cev σ l (q : Int) = mev σ l (q : Int) := fun q hq hi l l1 l2 => by
  obtain ⟨-, g2, g3, g4, -⟩ := R.2 q hq
  have g2 : σ 42 (q : Int) = σ 144 (21 + 3 * (q : Int)) := g2
  have g3 : σ 43 (q : Int) = σ 144 (22 + 3 * (q : Int)) := g3
  have g4 : σ 44 (q : Int) = σ 147 (1 + (q : Int)) := g4
  unfold cev mev
  rw [g2, g3, g4]
/-- the line of queries, both sides -/
theorem run_two {σ : zS} (I : InvS σ) {v w : Int} {s1 s2 : zS} (e1 : g_c_run σ = some (v, s1)) (e2 : g_m_run s1 = some (w, s2)) : v = w ∧ ((s2 39 9 = σ 39 9 ∧ s2 60 2 = σ 60 2 ∧ s2 143 27 = σ 143 27 ∧ (∀ j, s2 128 j = σ 128 j ∧ s2 61 j = σ 61 j ∧ s2 62 j = σ 62 j ∧ s2 162 j = σ 162 j ∧ s2 144 j = σ 144 j ∧ s2 147 j = σ 147 j)) ∨ (ANe s2 ∧ FNe s2)) := by
  have H := I.1.1.1.1
  have R : RW σ 41 144 147 := I.1.1.2.1.1
  have B : BK σ 41 144 147 := I.1.1.2.1
  have hL : σ 120 1 = σ 143 20 := I.1.1.1.2.2.1
  obtain ⟨c1, c2⟩ := c_runA (I := inS σ 144) (ev := mev σ) H I.1.2.c R.1 B.ok (RW_ev R) v s1 e1
  obtain ⟨-, G1, -⟩ := zP'.of (g_c_run_sp H) v s1 e1
  have ref : ∀ a j, 143 ≤ a → a < 168 → s1 a j = σ a j := fun a j k1 k2 => G1 a j (Or.inl ⟨k1, k2⟩)
  have M1 : MI s1 := MI_cls I.1.1.1.2.1 ref
  have e159 : s1 159 = σ 159 := funext (fun j => ref 159 j (by decide) (by decide))
  have e144 : s1 144 = σ 144 := funext (fun j => ref 144 j (by decide) (by decide))
  have e147 : s1 147 = σ 147 := funext (fun j => ref 147 j (by decide) (by decide))
  have e20 : s1 143 20 = σ 143 20 := ref 143 20 (by decide) (by decide)
  have hR : tpR s1 := by
    unfold tpR
    rw [e20, e159]
    exact I.1.2.m hL
  have eT : mT s1 = cT σ := by
    rw [cT_mT hL I.1.2]
    unfold mT
    rw [e20, e159]
  have eE : mev s1 = mev σ := by
    funext l r
    unfold mev
    rw [e144, e147]
  obtain ⟨m1, m2⟩ := m_runA M1 hR (B.ok7 e147) w s2 e2
  have F2 := f_run M1 w s2 e2
  rw [eT, e20, eE, ← hL] at m1 m2
  refine ⟨c1.trans m1.symm, ?_⟩
  cases e : runP (mev σ) (cT σ) (σ 120 1) 8 0 [] with
  | inl q =>
    rw [e] at c2 m2
    obtain ⟨k1, k2, k3⟩ := c2
    have m2 : ∀ a j, a ≠ 161 → (a ≠ 143 ∨ (j ≠ 20 ∧ j ≠ 21 ∧ j ≠ 22 ∧ j ≠ 23)) → s2 a j = s1 a j := m2
    refine Or.inl ⟨by rw [m2 39 9 (by decide) (by omega)]; exact k1, by rw [m2 60 2 (by decide) (by omega)]; exact k2, by rw [m2 143 27 (by decide) (by omega)]; exact ref 143 27 (by decide) (by decide), fun j => ?_⟩
    obtain ⟨k4, k5, k6⟩ := k3 j
    rw [m2 128 j (by decide) (by omega), m2 61 j (by decide) (by omega), m2 62 j (by decide) (by omega), m2 162 j (by decide) (by omega), m2 144 j (by decide) (by omega), m2 147 j (by decide) (by omega)]
    exact ⟨k4, k5, k6, ref 162 j (by decide) (by decide), ref 144 j (by decide) (by decide), ref 147 j (by decide) (by decide)⟩
  | inr l =>
    rw [e] at c2 m2
    obtain ⟨k1, k2, k3⟩ := c2
    obtain ⟨n1, n2, n3⟩ := m2
    have ok := runP_ok (ev := mev σ) (f := cT σ) (L := σ 120 1) 8 0 [] (by decide) (CI.ct H).1 rfl (fun Q hQ => absurd hQ List.not_mem_nil)
    obtain ⟨l8, l0, -⟩ := ok.2 l e
    have cl : ∀ a j, a < 143 → s2 a j = s1 a j := fun a j k => F2 a j (by omega)
    refine Or.inr ⟨⟨by rw [cl 39 9 (by decide), k1, n1], fun j _ hj => ?_⟩, ?_⟩
    · rw [cl 39 9 (by decide), k1] at hj
      have hj : j < l.length := by omega
      rw [cl 128 _ (by decide), k2 j hj hj, n2 j hj hj, e144, e147]
      exact valT_eq R _ _ _
    · have g1 := k3 (l.length - 1) (by omega) (by omega)
      have g2 := n3 (l.length - 1) (by omega) (by omega)
      have g2 : fnR σ s2 l[l.length - 1].2.1 l[l.length - 1].2.2.2 := by
        unfold fnR at *
        rw [e144, e147] at g2
        exact g2
      exact FN_of R g1 g2 (fun a j k => cl a j (by omega))
theorem qd_run {σ : zS} (I : InvS σ) : two (g_c_run σ) g_m_run (fun v w s => InvS s ∧ v = w) := by
  obtain ⟨v, s1, e1, w, s2, e2, J⟩ := qs_run I
  exact ⟨v, s1, e1, w, s2, e2, J, (run_two I e1 e2).1⟩
end
section
/-! 6z.frames2 -/
/-! WIDER FRAMES of settings() and load() (printed by wip/zf.py) -/
def frT5 (σ s : zS) : Prop := ∀ a j, (a < 143 ∨ 168 ≤ a ∨ a = 159 ∨ (161 ≤ a ∧ a < 168) ∨ a = 145 ∨ a = 148 ∨ (a = 144 ∧ ((8 ≤ j ∧ j < 11) ∨ (18 ≤ j ∧ j < 340))) ∨ (a = 147 ∧ 1 ≤ j ∧ j < 121) ∨ (a = 143 ∧ (j = 6 ∨ j = 27 ∨ j = 29 ∨ j = 32))) → s a j = σ a j
theorem x_set105 {σ0 : zS} {x : Int} (h : MI σ0) : ∀ (d k n : Nat) (s : zS), k + d = 7 → d < n → (∀ a j, a ≠ 160 → (a ≠ 143 ∨ (j ≠ 20 ∧ j ≠ 21 ∧ j ≠ 22 ∧ j ≠ 23)) → (a ≠ 144 ∨ j < 11 ∨ 18 ≤ j) → s a j = σ0 a j) → s 143 20 = 0 → stO s → (1 ≤ s 144 12 ∧ s 144 12 ≤ 99) → (1 ≤ s 144 13 ∧ s 144 13 ≤ 12) → ∃ s', g_m_settings_L105 n x (k : Int) s = some (x, s') ∧ MI s' ∧ s' 143 20 = 0 ∧ frT5 σ0 s'
  | _, _, 0, _, _, h, _, _, _, _, _ => absurd h (Nat.not_lt_zero _)
  | 0, k, n + 1, s, hk, _, hf, h20, hst, h12, h13 => by
    unfold g_m_settings_L105
    rw [if_pos (by omega)]
    obtain ⟨N, n1, n2, n3⟩ := h.1
    have hN : NI s := NI_fr h.1 (fun j hj => hf 144 j (by omega) (by omega) (by omega))
    obtain ⟨N, n1, n2, n3⟩ := hN
    obtain ⟨s', N', e1, e2, e3, e4, e5, e6⟩ := s_trims n3 n2 (by omega) h13.1 h12.1
    rw [e1]
    rw [Option.bind_some]
    try dsimp only
    have q : ∀ a j, (a ≠ 144 ∨ (8 ≤ j ∧ j < 340)) → a ≠ 147 → s' a j = s a j := fun a j k1 k2 => e5 a j k1 (Or.inl k2)
    have hH : HI s' := by
      obtain ⟨h1, h2, h3, h4, h5, h6, h7⟩ := h.2.1
      have q2 : ∀ j : Int, (8 ≤ j ∧ j < 11) ∨ (18 ≤ j ∧ j < 340) → s' 144 j = σ0 144 j := fun j hj => (q 144 j (by omega) (by decide)).trans (hf 144 j (by omega) (by omega) (by omega))
      refine ⟨by rw [q 144 12 (by omega) (by decide)]; exact h12, by rw [q 144 13 (by omega) (by decide)]; exact h13, by rw [q2 8 (by omega)]; exact h3, by rw [q2 9 (by omega)]; exact h4, by rw [q2 10 (by omega)]; exact h5, fun t ht => ?_, fun r hr => ?_⟩
      · rw [q2 9 (by omega)] at ht
        unfold bxA
        rw [q2 _ (by omega), q2 _ (by omega), q2 _ (by omega), q2 _ (by omega)]
        exact h6 t ht
      · rw [q2 _ (by omega), q2 _ (by omega)]
        exact h7 r hr
    have q3 : ∀ a j, a ≠ 144 → a ≠ 147 → a ≠ 160 → (a ≠ 143 ∨ (j ≠ 20 ∧ j ≠ 21 ∧ j ≠ 22 ∧ j ≠ 23)) → s' a j = σ0 a j := fun a j k1 k2 k3 k4 => (q a j (Or.inl k1) k2).trans (hf a j k3 k4 (Or.inl k1))
    have h20' : s' 143 20 = 0 := (q 143 20 (by omega) (by decide)).trans h20
    refine ⟨s', rfl, ⟨⟨N', by omega, e4, e3⟩, hH, ?_, II_fr h.2.2.2 (q3 143 6 (by decide) (by decide) (by decide) (by omega)) (fun j => q3 145 j (by decide) (by decide) (by decide) (by omega))⟩, h20', fun a j hh => (e5 a j (by omega) (by omega)).trans (hf a j (by omega) (by omega) (by omega))⟩
    obtain ⟨x1, x2, x3, x4, x5⟩ := h.2.2.1
    refine ⟨by rw [h20']; omega, by rw [q3 143 27 (by decide) (by decide) (by decide) (by omega)]; exact x2, by rw [q3 143 29 (by decide) (by decide) (by decide) (by omega)]; exact x3, by rw [q3 143 32 (by decide) (by decide) (by decide) (by omega)]; exact x4, fun k hk => ?_⟩
    rw [q3 166 _ (by decide) (by decide) (by decide) (by omega)]
    exact x5 k hk
  | d + 1, k, n + 1, s, hk, hn, hf, h20, hst, h12, h13 => by
    unfold g_m_settings_L105
    rw [if_neg (by omega), if_pos (by omega), w32_id (x := 11 + (k : Int)) (by omega) (by omega)]
    dsimp only
    rw [if_pos (by omega), w32_id (x := (k : Int) + 1) (by omega) (by omega)]
    have hst' := hst
    unfold stO at hst'
    have e := x_set105 (x := x) h d (k + 1) n (zu s 144 (11 + (k : Int)) (s 160 (k : Int))) (by omega) (by omega) (fun a j k1 k2 k3 => (zu_c (by omega)).trans (hf a j k1 k2 k3)) ((zu_a (by decide)).trans h20) (by
      unfold stO
      rw [zu_a (by decide), zu_a (by decide)]
      exact hst) (by
      by_cases c : (12 : Int) = 11 + (k : Int)
      · rw [zu_e c, show (k : Int) = 1 by omega]; exact hst'.1
      · rw [zu_i c]; exact h12) (by
      by_cases c : (13 : Int) = 11 + (k : Int)
      · rw [zu_e c, show (k : Int) = 2 by omega]; exact hst'.2
      · rw [zu_i c]; exact h13)
    rw [show ((k + 1 : Nat) : Int) = (k : Int) + 1 by omega] at e
    exact e
theorem x_set37 {σ0 : zS} (h : MI σ0) : ∀ (d n : Nat) (x b : Int) (s : zS), (b = 0 ∨ b = 1) → s 143 20 - s 143 21 ≤ (d : Int) → d + 2 < n → frS σ0 s → pI s → s 143 21 ≤ 160 → stO s → ∃ c s', g_m_settings_L37 n x b s = some (c, s') ∧ MI s' ∧ s' 143 20 = 0 ∧ frT5 σ0 s' := by
  have stop : ∀ (n : Nat) (x : Int) (s : zS), frS σ0 s → stO s → ∃ c s', g_m_settings_L37 (n + 1) x 0 s = some (c, s') ∧ MI s' ∧ s' 143 20 = 0 ∧ frT5 σ0 s' := by
    intro n x s hf hst
    unfold g_m_settings_L37
    rw [if_pos rfl]
    have q : ∀ a j, a ≠ 160 → (a ≠ 143 ∨ (j ≠ 20 ∧ j ≠ 21 ∧ j ≠ 22 ∧ j ≠ 23)) → zu s 143 20 0 a j = σ0 a j := fun a j k1 k2 => (zu_c (by omega)).trans (hf a j k1 (by omega))
    have hH := h.2.1
    dsimp only
    split
    · obtain ⟨s', e1, e2, e3, e4⟩ := x_set105 (x := x) h 7 0 zK (zu s 143 20 0) rfl (by show 7 < 1000000; omega) (fun a j k1 k2 _ => q a j k1 k2) (zu_e rfl) (by
        unfold stO at *
        rw [zu_a (by decide), zu_a (by decide)]
        exact hst) (by rw [q 144 12 (by decide) (by omega)]; exact hH.1) (by rw [q 144 13 (by decide) (by omega)]; exact hH.2.1)
      exact ⟨x, s', e1, e2, e3, e4⟩
    · refine ⟨_, _, rfl, ⟨NI_fr h.1 (fun j _ => q 144 j (by decide) (by omega)), HI_fr8 h.2.1 (fun j _ _ => q 144 j (by decide) (by omega)), ?_, II_fr h.2.2.2 (q 143 6 (by decide) (by omega)) (fun j => q 145 j (by decide) (by omega))⟩, zu_e rfl, fun a j hh => q a j (by omega) (by omega)⟩
      obtain ⟨x1, x2, x3, x4, x5⟩ := h.2.2.1
      refine ⟨by rw [zu_e rfl]; omega, by rw [q 143 27 (by decide) (by omega)]; exact x2, by rw [q 143 29 (by decide) (by omega)]; exact x3, by rw [q 143 32 (by decide) (by omega)]; exact x4, fun k hk => ?_⟩
      rw [q 166 _ (by decide) (by omega)]
      exact x5 k hk
  intro d
  induction d with
  | zero =>
    intro n x b s hb hd hn hf hp h5 hst
    obtain ⟨n, rfl⟩ : ∃ k, n = k + 2 := ⟨n - 2, by omega⟩
    by_cases c : b = 0
    · subst c; exact stop (n + 1) x s hf hst
    · unfold g_m_settings_L37
      rw [if_neg c]
      obtain ⟨b1, s1, e1, e2, e3, e4, e5⟩ := s_isSetting hp h5
      rw [e1]
      rw [Option.bind_some]
      try dsimp only
      obtain ⟨p1, p2⟩ := pI_160 hp h5 e2
      have f1 := hf.trans e3
      by_cases c1 : b1 = 0
      · rw [if_pos c1]
        unfold g_m_settings_L69
        rw [if_pos c1]
        subst c1
        exact stop n _ s1 f1 (e4 hst)
      · have e6 := e5 (by unfold pO at e2; omega)
        unfold pO at e2
        omega
  | succ d ih =>
    intro n x b s hb hd hn hf hp h5 hst
    obtain ⟨n, rfl⟩ : ∃ k, n = k + 2 := ⟨n - 2, by omega⟩
    by_cases c : b = 0
    · subst c; exact stop (n + 1) x s hf hst
    · unfold g_m_settings_L37
      rw [if_neg c]
      obtain ⟨b1, s1, e1, e2, e3, e4, e5⟩ := s_isSetting hp h5
      rw [e1]
      rw [Option.bind_some]
      try dsimp only
      obtain ⟨p1, p2⟩ := pI_160 hp h5 e2
      have f1 := hf.trans e3
      by_cases c1 : b1 = 0
      · rw [if_pos c1]
        unfold g_m_settings_L69
        rw [if_pos c1]
        subst c1
        exact stop n _ s1 f1 (e4 hst)
      · have hb1 : b1 = 1 := by unfold pO at e2; omega
        have e6 := e5 hb1
        rw [if_neg c1]
        by_cases c2 : s1 143 21 ≠ s1 143 20
        · rw [if_pos c2]
          unfold g_m_settings_L69
          rw [if_neg c1]
          obtain ⟨b2, s2, g1, g2, g3, g4⟩ := s_isSign1 (x := 59) p1 (by decide)
          rw [g1]
          rw [Option.bind_some]
          try dsimp only
          obtain ⟨p3, p4⟩ := pI_160 p1 p2 g2
          refine ih (n + 1) _ b2 s2 ?_ ?_ (by omega) (f1.trans (frS.of g3)) p3 p4 (stO_3 (e4 hst) g3)
          · unfold pO at g2; exact g2.1
          · unfold pO at e2 g2
            omega
        · rw [if_neg c2]
          exact stop n _ s1 f1 (e4 hst)
theorem x_set2 {σ : zS} (h : MI σ) : ∀ (d k n : Nat) (s : zS), k + d = 7 → d < n → (∀ a j, a ≠ 160 → s a j = σ a j) → (∀ j : Nat, j < k → s 160 (j : Int) = σ 144 (11 + (j : Int))) → ∃ c s', g_m_settings_L2 n (k : Int) s = some (c, s') ∧ MI s' ∧ s' 143 20 = 0 ∧ frT5 σ s'
  | _, _, 0, _, _, h, _, _ => absurd h (Nat.not_lt_zero _)
  | 0, k, n + 1, s, hk, _, hf, hs => by
    unfold g_m_settings_L2 g_m_begins
    rw [if_pos (by omega)]
    rw [Option.bind_some]
    try dsimp only
    have hH := h.2.1
    have f1 : frS σ (zu (zu s 143 21 0) 143 22 (-1)) := fun a j k1 k2 => by rw [zu_c (by omega), zu_c (by omega)]; exact hf a j k1
    have h20 := h.2.2.1.1
    have q20 : zu (zu s 143 21 0) 143 22 (-1) 143 20 = σ 143 20 := f1 143 20 (by decide) (by omega)
    have q21 : zu (zu s 143 21 0) 143 22 (-1) 143 21 = 0 := by rw [zu_i (by omega), zu_e rfl]
    refine x_set37 h 160 zK 0 1 _ (Or.inr rfl) (by rw [q20, q21]; omega) (by show _ < 1000000; omega) f1 ⟨by rw [q20]; omega, by rw [q20]; omega, by rw [q21]; omega⟩ (by rw [q21]; omega) ?_
    unfold stO
    rw [zu_a (by decide), zu_a (by decide), zu_a (by decide), zu_a (by decide)]
    have a1 := hs 1 (by omega)
    have a2 := hs 2 (by omega)
    rw [show ((1 : Nat) : Int) = 1 from rfl, show (11 : Int) + 1 = 12 from rfl] at a1
    rw [show ((2 : Nat) : Int) = 2 from rfl, show (11 : Int) + 2 = 13 from rfl] at a2
    rw [a1, a2]
    exact ⟨hH.1, hH.2.1⟩
  | d + 1, k, n + 1, s, hk, hn, hf, hs => by
    unfold g_m_settings_L2
    rw [if_neg (by omega), w32_id (x := 11 + (k : Int)) (by omega) (by omega), if_pos (by omega)]
    dsimp only
    rw [if_pos (by omega), w32_id (x := (k : Int) + 1) (by omega) (by omega)]
    have e := x_set2 h d (k + 1) n (zu s 160 (k : Int) (s 144 (11 + (k : Int)))) (by omega) (by omega) (fun a j k1 => (zu_a k1).trans (hf a j k1)) (fun j hj => by
      by_cases c : (j : Int) = (k : Int)
      · rw [zu_e c, c, hf 144 _ (by decide)]
      · rw [zu_i c]; exact hs j (by omega))
    rw [show ((k + 1 : Nat) : Int) = (k : Int) + 1 by omega] at e
    exact e
theorem x_settings2 {σ : zS} (h : MI σ) : ∃ c s, g_m_settings σ = some (c, s) ∧ MI s ∧ s 143 20 = 0 ∧ frT5 σ s := x_set2 h 7 0 zK σ rfl (by show 7 < 1000000; omega) (fun _ _ _ => rfl) (fun j hj => absurd hj (Nat.not_lt_zero _))
def frT4 (σ s : zS) : Prop := ∀ a j, (a < 143 ∨ 168 ≤ a ∨ (159 ≤ a ∧ a < 164) ∨ (165 ≤ a ∧ a < 168) ∨ a = 145 ∨ a = 148 ∨ (a = 144 ∧ 8 ≤ j ∧ j < 340) ∨ (a = 147 ∧ 1 ≤ j ∧ j < 121) ∨ (a = 143 ∧ (j = 6 ∨ j = 27 ∨ j = 29 ∨ j = 32))) → s a j = σ a j
theorem x_L2 {σ s : zS} (h : MI σ) (f : frL2 σ s) : MI s ∧ frT4 σ s :=
  ⟨MI_144 h (fun a j hh => f a j (by omega) (by omega)), fun a j hh => f a j (by omega) (by omega)⟩
theorem x_z20 {σ0 s : zS} (h : MI s) (f : frT4 σ0 s) : MI (zu s 143 20 0) ∧ zu s 143 20 0 143 20 = 0 ∧ frT4 σ0 (zu s 143 20 0) := by
  obtain ⟨s', e1, e2, e3, e4⟩ := m_clear h
  have q : s' = zu s 143 20 0 := by
    unfold g_m_clear at e1
    injection e1 with e1
    exact (congrArg Prod.snd e1).symm
  subst q
  exact ⟨e2, e3, fun a j hh => (zu_c (by omega)).trans (f a j hh)⟩
theorem x_loadStop {σ0 s : zS} {n k : Nat} (h : MI σ0) (f : frL2 σ0 s) (hk : 0 ≤ s 143 22 ∨ (k ≤ 12 ∧ ∀ t : Nat, t < k → bOk (bxA s 164 (4 * (t : Int))))) : ∃ c s', g_m_load_L8 (n + 1) (k : Int) 0 s = some (c, s') ∧ MI s' ∧ s' 143 20 = 0 ∧ frT4 σ0 s' := by
  obtain ⟨h1, f1⟩ := x_L2 h f
  obtain ⟨h2, h20, f2⟩ := x_z20 h1 f1
  unfold g_m_load_L8
  rw [if_pos rfl]
  try dsimp +instances only
  rw [show zu s 143 20 0 143 22 = s 143 22 from zu_i (by decide)]
  by_cases c : s 143 22 < 0
  · rw [if_pos c]
    obtain ⟨k12, hq⟩ := hk.resolve_left (by omega)
    obtain ⟨N, hN2, hN, hR⟩ := h2.1
    obtain ⟨v, s', g1, g2, g3, g4⟩ := s_load99 k12 k 0 zK (zu s 143 20 0) N 0 (by omega) (by show _ < 1000000; omega) hR hN (by omega) h2.2.1 (fun t ht => by
      rw [zu_bxa (by decide)]; exact hq t ht)
    refine ⟨v, s', g1, MI_q h2 g2 g3 (fun a j hh => g4 a j (by omega) (by omega)), ?_, fun a j hh => (g4 a j (by omega) (by omega)).trans (f2 a j hh)⟩
    rw [g4 143 20 (by omega) (by omega)]; exact h20
  · rw [if_neg c]
    exact ⟨_, _, rfl, h2, h20, f2⟩
theorem x_load8 {σ0 : zS} (h : MI σ0) : ∀ (d k n : Nat) (s : zS), k + d = 12 → 1 ≤ d → d + 1 < n → frL2 σ0 s → pI s → s 143 21 ≤ 160 → (0 ≤ s 143 22 ∨ ∀ t : Nat, t < k → bOk (bxA s 164 (4 * (t : Int)))) → ∃ c s', g_m_load_L8 n (k : Int) 1 s = some (c, s') ∧ MI s' ∧ s' 143 20 = 0 ∧ frT4 σ0 s' := by
  intro d
  induction d with
  | zero => intro k n s _ h1; omega
  | succ d ih =>
    intro k n s hk _ hn f p p5 hq
    obtain ⟨n, rfl⟩ : ∃ m, n = m + 2 := ⟨n - 2, by omega⟩
    unfold g_m_load_L8
    rw [if_neg (by decide), w32_id (x := 4 * (k : Int)) (by omega) (by omega)]
    obtain ⟨b, s1, e1, e2, e3, e4, e5⟩ := s_isSpelled (x := 4 * (k : Int)) p p5 (by omega)
    rw [e1]
    rw [Option.bind_some]
    try dsimp +instances only
    obtain ⟨p1, p15⟩ := pI_160 p p5 e2
    have f1 := f.trans e3
    rw [w32_id (x := (k : Int) + 1) (by omega) (by omega), show (k : Int) + 1 = ((k + 1 : Nat) : Int) by omega]
    have hb := e2
    unfold pO at hb
    have bxs : ∀ {u v : zS}, (∀ j, u 164 j = v 164 j) → ∀ t : Nat, bxA u 164 (4 * (t : Int)) = bxA v 164 (4 * (t : Int)) := fun q t => by
      unfold bxA
      rw [q, q, q, q]
    by_cases c : b = 0
    · rw [if_pos c]
      unfold g_m_load_L43
      rw [if_pos c, c]
      exact x_loadStop h f1 (Or.inl (hb.2.2.2.2.2 c))
    · have hb1 : b = 1 := by omega
      have hq1 : 0 ≤ s1 143 22 ∨ ∀ t : Nat, t < k + 1 → bOk (bxA s1 164 (4 * (t : Int))) := by
        rcases hq with hq | hq
        · exact Or.inl (hb.2.2.2.2.1 hq)
        · refine Or.inr (fun t ht => ?_)
          by_cases ct : t = k
          · subst ct; exact e5 hb1
          · have e : bxA s1 164 (4 * (t : Int)) = bxA s 164 (4 * (t : Int)) := by
              unfold bxA
              rw [e4 _ (by omega), e4 _ (by omega), e4 _ (by omega), e4 _ (by omega)]
            rw [e]; exact hq t (by omega)
      rw [if_neg c]
      by_cases c2 : s1 143 21 ≠ s1 143 20
      · rw [if_pos c2]
        unfold g_m_load_L43
        rw [if_neg c]
        by_cases c3 : 12 ≤ ((k + 1 : Nat) : Int)
        · rw [if_pos c3]
          obtain ⟨s2, g1, g2, g3⟩ := s_failsO p1
          dsimp only
          rw [g1]
          rw [Option.bind_some]
          dsimp only
          unfold g_m_load_L70
          unfold pO at g2
          exact x_loadStop h (f1.trans (frL2.of g3)) (Or.inl (g2.2.2.2.2.2 rfl))
        · rw [if_neg c3]
          obtain ⟨b2, s2, g1, g2, g3⟩ := s_isSign (x := 59) p1 (by decide)
          rw [g1]
          rw [Option.bind_some]
          dsimp only
          unfold g_m_load_L70
          have g4 := g2
          unfold pO at g4
          obtain ⟨p2, p25⟩ := pI_160 p1 p15 g2
          by_cases c4 : b2 = 0
          · rw [c4]
            exact x_loadStop h (f1.trans (frL2.of g3)) (Or.inl (g4.2.2.2.2.2 c4))
          · have hb2 : b2 = 1 := by omega
            rw [hb2]
            refine ih (k + 1) (n + 1) s2 (by omega) (by omega) (by omega) (f1.trans (frL2.of g3)) p2 p25 ?_
            rcases hq1 with hq1 | hq1
            · exact Or.inl (g4.2.2.2.2.1 hq1)
            · exact Or.inr (fun t ht => by rw [bxs (fun j => g3 164 j (by omega)) t]; exact hq1 t ht)
      · rw [if_neg c2]
        refine x_loadStop h f1 ?_
        rcases hq1 with hq1 | hq1
        · exact Or.inl hq1
        · exact Or.inr ⟨by omega, hq1⟩
theorem x_load2 {σ : zS} (h : MI σ) : ∃ c s, g_m_load σ = some (c, s) ∧ MI s ∧ s 143 20 = 0 ∧ frT4 σ s := by
  unfold g_m_load g_m_begins
  rw [Option.bind_some]
  dsimp only
  have f1 : frL2 σ (zu (zu σ 143 21 0) 143 22 (-1)) := fun a j k1 k2 => by rw [zu_c (by omega), zu_c (by omega)]
  have h20 := h.2.2.1.1
  have q20 : zu (zu σ 143 21 0) 143 22 (-1) 143 20 = σ 143 20 := f1 143 20 (by decide) (by omega)
  have q21 : zu (zu σ 143 21 0) 143 22 (-1) 143 21 = 0 := by rw [zu_i (by omega), zu_e rfl]
  exact x_load8 h 12 0 zK _ rfl (by omega) (by show _ < 1000000; omega) f1 ⟨by rw [q20]; omega, by rw [q20]; omega, by rw [q21]; omega⟩ (by rw [q21]; omega) (Or.inr (fun t ht => absurd ht (Nat.not_lt_zero _)))
theorem f_settings5 {σ : zS} (h : MI σ) : zP' (g_m_settings σ) (fun _ s => frT5 σ s) := by
  obtain ⟨v, s, e, -, -, e3⟩ := x_settings2 h
  rw [e]
  exact zP'.ret e3
theorem f_load4 {σ : zS} (h : MI σ) : zP' (g_m_load σ) (fun _ s => frT4 σ s) := by
  obtain ⟨v, s, e, -, -, e3⟩ := x_load2 h
  rw [e]
  exact zP'.ret e3
end
section
/-! 80.pop -/
/-! Long.bitCount: how many bits of a set of rows -/
def vB : List Nat → Nat
  | [] => 0
  | b :: l => b + 256 * vB l
theorem and256 {p q m M : Nat} (hp : p < 256) (hm : m < 256) : (p + 256 * q) &&& (m + 256 * M) = (p &&& m) + 256 * (q &&& M) := by
  have h8 : (256 : Nat) = 2 ^ 8 := by decide
  have hpm : p &&& m < 256 := by
    rw [h8]
    exact Nat.and_lt_two_pow _ (by omega)
  apply Nat.eq_of_testBit_eq
  intro i
  have t : ∀ a b : Nat, a < 256 → (a + 256 * b).testBit i = if i < 8 then a.testBit i else b.testBit (i - 8) := fun a b ha => by
    rw [show a + 256 * b = 2 ^ 8 * b + a by omega]
    exact Nat.testBit_two_pow_mul_add b (by omega) i
  rw [Nat.testBit_and, t p q hp, t m M hm, t _ _ hpm, Nat.testBit_and, Nat.testBit_and]
  by_cases c : i < 8
  · rw [if_pos c, if_pos c, if_pos c]
  · rw [if_neg c, if_neg c, if_neg c]
def s1B (b : Nat) : Nat := b - (b / 2 &&& 85)
def s2B (b : Nat) : Nat := (b &&& 51) + (b / 4 &&& 51)
def s3B (b : Nat) : Nat := (b + b / 16) &&& 15
theorem s1B_f : ∀ (b : Fin 256) (c : Fin 2), ((b.val / 2 + 128 * c.val) &&& 85) = (b.val / 2 &&& 85) ∧ (b.val / 2 &&& 85) ≤ b.val := by decide +kernel
theorem s2B_f : ∀ (b : Fin 256) (c : Fin 4), ((b.val / 4 + 64 * c.val) &&& 51) = (b.val / 4 &&& 51) := by decide +kernel
theorem s3B_f : ∀ (b : Fin 69) (c : Fin 5), ((b.val + b.val / 16 + 16 * c.val) &&& 15) = s3B b.val := by decide +kernel
def nbB (b : Nat) : Prop := b % 16 ≤ 4 ∧ b / 16 ≤ 4
theorem s12_f : ∀ b : Fin 256, s1B b.val < 256 ∧ (s2B (s1B b.val) % 16 ≤ 4 ∧ s2B (s1B b.val) / 16 ≤ 4) ∧ s3B (s2B (s1B b.val)) ≤ 8 := by decide +kernel
theorem vB_1 : ∀ L : List Nat, (∀ b ∈ L, b < 256) → (vB L / 2 &&& vB (L.map (fun _ => 85))) ≤ vB L ∧ vB L - (vB L / 2 &&& vB (L.map (fun _ => 85))) = vB (L.map s1B)
  | [], _ => ⟨by decide, by decide⟩
  | b :: l, h => by
    obtain ⟨i1, i2⟩ := vB_1 l (fun x hx => h x (List.mem_cons_of_mem _ hx))
    have hb := h b List.mem_cons_self
    have e : vB (b :: l) / 2 = (b / 2 + 128 * (vB l % 2)) + 256 * (vB l / 2) := by
      show (b + 256 * vB l) / 2 = _
      omega
    obtain ⟨f1, f2⟩ := s1B_f ⟨b, hb⟩ ⟨vB l % 2, by omega⟩
    have f1 : ((b / 2 + 128 * (vB l % 2)) &&& 85) = (b / 2 &&& 85) := f1
    have f2 : (b / 2 &&& 85) ≤ b := f2
    rw [e]
    show ((b / 2 + 128 * (vB l % 2)) + 256 * (vB l / 2) &&& (85 + 256 * vB (l.map (fun _ => 85)))) ≤ b + 256 * vB l ∧ b + 256 * vB l - ((b / 2 + 128 * (vB l % 2)) + 256 * (vB l / 2) &&& (85 + 256 * vB (l.map (fun _ => 85)))) = s1B b + 256 * vB (l.map s1B)
    rw [and256 (by omega) (by decide), f1, ← i2]
    unfold s1B
    omega
theorem vB_2 : ∀ L : List Nat, (∀ b ∈ L, b < 256) → (vB L &&& vB (L.map (fun _ => 51))) + (vB L / 4 &&& vB (L.map (fun _ => 51))) = vB (L.map s2B)
  | [], _ => by decide
  | b :: l, h => by
    have i := vB_2 l (fun x hx => h x (List.mem_cons_of_mem _ hx))
    have hb := h b List.mem_cons_self
    have e : vB (b :: l) / 4 = (b / 4 + 64 * (vB l % 4)) + 256 * (vB l / 4) := by
      show (b + 256 * vB l) / 4 = _
      omega
    have f1 : ((b / 4 + 64 * (vB l % 4)) &&& 51) = (b / 4 &&& 51) := s2B_f ⟨b, hb⟩ ⟨vB l % 4, by omega⟩
    rw [e]
    show (b + 256 * vB l &&& (51 + 256 * vB (l.map (fun _ => 51)))) + ((b / 4 + 64 * (vB l % 4)) + 256 * (vB l / 4) &&& (51 + 256 * vB (l.map (fun _ => 51)))) = s2B b + 256 * vB (l.map s2B)
    rw [and256 hb (by decide), and256 (by omega) (by decide), f1, ← i]
    unfold s2B
    omega
theorem vB_3 : ∀ L : List Nat, (∀ b ∈ L, nbB b) → (vB L + vB L / 16 &&& vB (L.map (fun _ => 15))) = vB (L.map s3B) ∧ vB L % 16 ≤ 4
  | [], _ => ⟨by decide, by decide⟩
  | b :: l, h => by
    obtain ⟨i, m⟩ := vB_3 l (fun x hx => h x (List.mem_cons_of_mem _ hx))
    obtain ⟨h1, h2⟩ := h b List.mem_cons_self
    have e : vB (b :: l) + vB (b :: l) / 16 = (b + b / 16 + 16 * (vB l % 16)) + 256 * (vB l + vB l / 16) := by
      show (b + 256 * vB l) + (b + 256 * vB l) / 16 = _
      omega
    have f1 : ((b + b / 16 + 16 * (vB l % 16)) &&& 15) = s3B b := s3B_f ⟨b, by omega⟩ ⟨vB l % 16, by omega⟩
    refine ⟨?_, ?_⟩
    · rw [e]
      show ((b + b / 16 + 16 * (vB l % 16)) + 256 * (vB l + vB l / 16) &&& (15 + 256 * vB (l.map (fun _ => 15)))) = s3B b + 256 * vB (l.map s3B)
      rw [and256 (by omega) (by decide), f1, i]
    · show (b + 256 * vB l) % 16 ≤ 4
      omega
/-- bits below k -/
def cntB (n : Nat) : Nat → Nat
  | 0 => 0
  | k + 1 => cntB n k + (n.testBit k).toNat
theorem s3B_c : ∀ b : Fin 256, s3B (s2B (s1B b.val)) = cntB b.val 8 := by decide +kernel
theorem cntB_lo {b m : Nat} (hb : b < 256) : ∀ k : Nat, k ≤ 8 → cntB (b + 256 * m) k = cntB b k
  | 0, _ => rfl
  | k + 1, hk => by
    show cntB (b + 256 * m) k + ((b + 256 * m).testBit k).toNat = cntB b k + (b.testBit k).toNat
    rw [cntB_lo hb k (by omega), show b + 256 * m = 2 ^ 8 * m + b by omega, Nat.testBit_two_pow_mul_add m (show b < 2 ^ 8 by omega) k, if_pos (by omega)]
theorem cntB_hi {b m : Nat} (hb : b < 256) : ∀ k : Nat, cntB (b + 256 * m) (8 + k) = cntB b 8 + cntB m k
  | 0 => by
    show cntB (b + 256 * m) 8 = cntB b 8 + 0
    rw [cntB_lo hb 8 (Nat.le_refl _), Nat.add_zero]
  | k + 1 => by
    show cntB (b + 256 * m) (8 + k) + ((b + 256 * m).testBit (8 + k)).toNat = cntB b 8 + (cntB m k + (m.testBit k).toNat)
    rw [cntB_hi hb k, show b + 256 * m = 2 ^ 8 * m + b by omega, Nat.testBit_two_pow_mul_add m (show b < 2 ^ 8 by omega) (8 + k), if_neg (by omega), show 8 + k - 8 = k by omega]
    omega
def sumL : List Nat → Nat
  | [] => 0
  | b :: l => b + sumL l
theorem cntB_L : ∀ L : List Nat, (∀ b ∈ L, b < 256) → sumL (L.map (fun b => s3B (s2B (s1B b)))) = cntB (vB L) (8 * L.length)
  | [], _ => rfl
  | b :: l, h => by
    have hb := h b List.mem_cons_self
    show s3B (s2B (s1B b)) + sumL (l.map _) = cntB (b + 256 * vB l) (8 * (l.length + 1))
    rw [cntB_L l (fun x hx => h x (List.mem_cons_of_mem _ hx)), show 8 * (l.length + 1) = 8 + 8 * l.length by omega, cntB_hi hb]
    have e := s3B_c ⟨b, hb⟩
    have e : s3B (s2B (s1B b)) = cntB b 8 := e
    rw [e]
/-- the whole, of naturals -/
def popN (n : Nat) : Nat :=
  let a := n - (n / 2 &&& 6148914691236517205)
  let b := (a &&& 3689348814741910323) + (a / 4 &&& 3689348814741910323)
  let c := b + b / 16 &&& 1085102592571150095
  let d := c + c / 256
  let e := d + d / 65536
  (e + e / 4294967296) % 128
def byL (n : Nat) : List Nat := [n % 256, n / 256 % 256, n / 65536 % 256, n / 16777216 % 256, n / 4294967296 % 256, n / 1099511627776 % 256, n / 281474976710656 % 256, n / 72057594037927936 % 256]
theorem byL_v {n : Nat} (h : n < 18446744073709551616) : vB (byL n) = n := by
  show n % 256 + 256 * (n / 256 % 256 + 256 * (n / 65536 % 256 + 256 * (n / 16777216 % 256 + 256 * (n / 4294967296 % 256 + 256 * (n / 1099511627776 % 256 + 256 * (n / 281474976710656 % 256 + 256 * (n / 72057594037927936 % 256 + 256 * 0))))))) = n
  omega
theorem byL_lt {n : Nat} : ∀ b ∈ byL n, b < 256 := by
  intro b hb
  unfold byL at hb
  simp only [List.mem_cons, List.not_mem_nil, or_false] at hb
  omega
theorem popN_sum {p0 p1 p2 p3 p4 p5 p6 p7 : Nat} (h0 : p0 ≤ 8) (h1 : p1 ≤ 8) (h2 : p2 ≤ 8) (h3 : p3 ≤ 8) (h4 : p4 ≤ 8) (h5 : p5 ≤ 8) (h6 : p6 ≤ 8) (h7 : p7 ≤ 8) {c d e : Nat} (hc : c = p0 + 256 * p1 + 65536 * p2 + 16777216 * p3 + 4294967296 * p4 + 1099511627776 * p5 + 281474976710656 * p6 + 72057594037927936 * p7) (hd : d = c + c / 256) (he : e = d + d / 65536) : (e + e / 4294967296) % 128 = p0 + p1 + p2 + p3 + p4 + p5 + p6 + p7 := by
  have k1 : c / 256 = p1 + 256 * p2 + 65536 * p3 + 16777216 * p4 + 4294967296 * p5 + 1099511627776 * p6 + 281474976710656 * p7 := by omega
  have d1 : d = (p0 + p1) + 256 * (p1 + p2) + 65536 * (p2 + p3) + 16777216 * (p3 + p4) + 4294967296 * (p4 + p5) + 1099511627776 * (p5 + p6) + 281474976710656 * (p6 + p7) + 72057594037927936 * p7 := by omega
  clear hd k1 hc
  have k2 : d / 65536 = (p2 + p3) + 256 * (p3 + p4) + 65536 * (p4 + p5) + 16777216 * (p5 + p6) + 4294967296 * (p6 + p7) + 1099511627776 * p7 := by omega
  have e1 : e = (p0 + p1 + p2 + p3) + 256 * (p1 + p2 + p3 + p4) + 65536 * (p2 + p3 + p4 + p5) + 16777216 * (p3 + p4 + p5 + p6) + 4294967296 * (p4 + p5 + p6 + p7) + 1099511627776 * (p5 + p6 + p7) + 281474976710656 * (p6 + p7) + 72057594037927936 * p7 := by omega
  clear he k2 d1
  have k3 : e / 4294967296 = (p4 + p5 + p6 + p7) + 256 * (p5 + p6 + p7) + 65536 * (p6 + p7) + 16777216 * p7 := by omega
  omega
theorem popN_key : ∀ L : List Nat, L.length = 8 → (∀ b ∈ L, b ≤ 8) → (vB L + vB L / 256 + (vB L + vB L / 256) / 65536 + (vB L + vB L / 256 + (vB L + vB L / 256) / 65536) / 4294967296) % 128 = sumL L := fun L hL hb => by
  match L, hL with
  | [p0, p1, p2, p3, p4, p5, p6, p7], _ =>
    simp only [List.mem_cons, List.not_mem_nil, or_false] at hb
    have hs : sumL [p0, p1, p2, p3, p4, p5, p6, p7] = p0 + p1 + p2 + p3 + p4 + p5 + p6 + p7 := by
      show p0 + (p1 + (p2 + (p3 + (p4 + (p5 + (p6 + (p7 + 0))))))) = _
      omega
    rw [hs]
    refine popN_sum (hb p0 (by simp)) (hb p1 (by simp)) (hb p2 (by simp)) (hb p3 (by simp)) (hb p4 (by simp)) (hb p5 (by simp)) (hb p6 (by simp)) (hb p7 (by simp)) ?_ rfl rfl
    show p0 + 256 * (p1 + 256 * (p2 + 256 * (p3 + 256 * (p4 + 256 * (p5 + 256 * (p6 + 256 * (p7 + 256 * 0))))))) = _
    omega
theorem popN_cnt {n : Nat} (h : n < 18446744073709551616) : popN n = cntB n 64 := by
  have m85 : vB ((byL n).map (fun _ => 85)) = 6148914691236517205 := by
    show vB [85, 85, 85, 85, 85, 85, 85, 85] = _
    decide +kernel
  have m51 : ∀ L : List Nat, L.length = 8 → vB (L.map (fun _ => 51)) = 3689348814741910323 := fun L hL => by
    match L, hL with
    | [_, _, _, _, _, _, _, _], _ =>
      show vB [51, 51, 51, 51, 51, 51, 51, 51] = _
      decide +kernel
  have m15 : ∀ L : List Nat, L.length = 8 → vB (L.map (fun _ => 15)) = 1085102592571150095 := fun L hL => by
    match L, hL with
    | [_, _, _, _, _, _, _, _], _ =>
      show vB [15, 15, 15, 15, 15, 15, 15, 15] = _
      decide +kernel
  have l8 : (byL n).length = 8 := rfl
  have lt := byL_lt (n := n)
  have v0 := byL_v h
  have a1 := (vB_1 (byL n) lt).2
  rw [m85, v0] at a1
  have a2 := vB_2 ((byL n).map s1B) (fun x hx => by
    obtain ⟨b, hb, rfl⟩ := List.mem_map.mp hx
    exact (s12_f ⟨b, lt b hb⟩).1)
  rw [m51 _ (by rw [List.length_map]; exact l8), ← a1, List.map_map] at a2
  have a3 := (vB_3 ((byL n).map (s2B ∘ s1B)) (fun x hx => by
    obtain ⟨b, hb, rfl⟩ := List.mem_map.mp hx
    exact (s12_f ⟨b, lt b hb⟩).2.1)).1
  rw [m15 _ (by rw [List.length_map]; exact l8), ← a2, List.map_map] at a3
  have sm := cntB_L (byL n) lt
  rw [l8, v0] at sm
  have bd : ∀ b ∈ byL n, s3B (s2B (s1B b)) ≤ 8 := fun b hb => (s12_f ⟨b, lt b hb⟩).2.2
  unfold popN
  try dsimp only
  rw [a3]
  rw [← sm]
  exact popN_key _ (by rw [List.length_map]; exact l8) (fun x hx => by
    obtain ⟨b, hb, rfl⟩ := List.mem_map.mp hx
    exact bd b hb)
end
section
/-! 81.bitc -/
/-! Long.bitCount as printed -/
theorem i64_n {n : Nat} (h : n < 9223372036854775808) : (Int64.ofInt (n : Int)).toBitVec.toNat = n := by
  rw [Int64.toBitVec_ofInt, BitVec.toNat_ofInt]
  omega
theorem i64_ti {x : Int64} (h : x.toBitVec.toNat < 9223372036854775808) : x.toInt = (x.toBitVec.toNat : Int) := by
  show x.toBitVec.toInt = _
  rw [BitVec.toInt_eq_toNat_of_lt (by omega)]
theorem lAnd_n {n m : Nat} (hn : n < 9223372036854775808) (hm : m < 9223372036854775808) : lAnd (n : Int) (m : Int) = ((n &&& m : Nat) : Int) := by
  unfold lAnd
  have h : (Int64.ofInt (n : Int) &&& Int64.ofInt (m : Int)).toBitVec.toNat = n &&& m := by
    rw [Int64.toBitVec_and, BitVec.toNat_and, i64_n hn, i64_n hm]
  have h2 : n &&& m ≤ n := Nat.and_le_left
  rw [i64_ti (by rw [h]; exact Nat.lt_of_le_of_lt h2 hn), h]
theorem lUshr_n {n k : Nat} (hn : n < 9223372036854775808) (hk : k < 64) : lUshr (n : Int) (k : Int) = ((n / 2 ^ k : Nat) : Int) := by
  unfold lUshr
  have h : (((Int64.ofInt (n : Int)).toUInt64 >>> ((Int32.ofInt (k : Int)).toInt64.toUInt64 &&& Int64.toUInt64 63)).toInt64).toBitVec.toNat = n / 2 ^ k := by
    rw [bq_ush hk, BitVec.toNat_ushiftRight, i64_n hn, Nat.shiftRight_eq_div_pow]
  have h2 : n / 2 ^ k ≤ n := Nat.div_le_self n _
  rw [i64_ti (by rw [h]; exact Nat.lt_of_le_of_lt h2 hn), h]
theorem w32_m {x : Int} : w32 x % 128 = x % 128 := by
  unfold w32 Int.bmod
  simp only [Nat.reducePow]
  split <;> omega
theorem iAnd_127 {x : Int} (h1 : -2147483648 ≤ x) (h2 : x < 2147483648) (h : 0 ≤ x % 128 ∧ x % 128 < 128) : iAnd x 127 = x % 128 := by
  have e : (Int32.ofInt x &&& Int32.ofInt 127).toBitVec.toNat = (x % 128).toNat := by
    rw [Int32.toBitVec_and, BitVec.toNat_and]
    have e1 : (Int32.ofInt 127).toBitVec.toNat = 2 ^ 7 - 1 := by decide +kernel
    rw [e1, Nat.and_two_pow_sub_one_eq_mod, Int32.toBitVec_ofInt, BitVec.toNat_ofInt]
    omega
  unfold iAnd
  rw [i32_ti (by rw [e]; omega), e]
  omega
theorem mod128 {x c : Nat} (h : x % 128 = c) : ((x : Nat) : Int) % 128 = (c : Int) := by omega
theorem bitC_n {n : Nat} (h : n < 1152921504606846976) {σ : zS} : g_jLong_bitCount (n : Int) σ = some (((cntB n 64 : Nat) : Int), σ) := by
  have hp := popN_cnt (n := n) (by omega)
  unfold popN at hp
  try dsimp only at hp
  have A1 : lAnd (lUshr (n : Int) 1) 6148914691236517205 = ((n / 2 &&& 6148914691236517205 : Nat) : Int) := by
    rw [show (1 : Int) = ((1 : Nat) : Int) from rfl, lUshr_n (by omega) (by decide)]
    exact lAnd_n (m := 6148914691236517205) (by omega) (by decide)
  have le1 : n / 2 &&& 6148914691236517205 ≤ n / 2 := Nat.and_le_left
  generalize ha : n - (n / 2 &&& 6148914691236517205) = a at hp
  have A2 : w64 ((n : Int) - (lAnd (lUshr (n : Int) 1) 6148914691236517205)) = (a : Int) := by
    rw [A1, w64_id (by omega) (by omega)]
    omega
  have a0 : a ≤ n := by omega
  have le2 : a &&& 3689348814741910323 ≤ a := Nat.and_le_left
  have le3 : a / 4 &&& 3689348814741910323 ≤ a / 4 := Nat.and_le_left
  have B1 : lAnd (a : Int) 3689348814741910323 = ((a &&& 3689348814741910323 : Nat) : Int) := lAnd_n (m := 3689348814741910323) (by omega) (by decide)
  have B2 : lAnd (lUshr (a : Int) 2) 3689348814741910323 = ((a / 4 &&& 3689348814741910323 : Nat) : Int) := by
    rw [show (2 : Int) = ((2 : Nat) : Int) from rfl, lUshr_n (by omega) (by decide)]
    exact lAnd_n (m := 3689348814741910323) (by omega) (by decide)
  generalize hb : (a &&& 3689348814741910323) + (a / 4 &&& 3689348814741910323) = b at hp
  have B3 : w64 (lAnd (a : Int) 3689348814741910323 + lAnd (lUshr (a : Int) 2) 3689348814741910323) = (b : Int) := by
    rw [B1, B2, w64_id (by omega) (by omega)]
    omega
  have b0 : b ≤ 2 * n := by omega
  have C0 : w64 ((b : Int) + lUshr (b : Int) 4) = ((b + b / 16 : Nat) : Int) := by
    rw [show (4 : Int) = ((4 : Nat) : Int) from rfl, lUshr_n (by omega) (by decide), w64_id (by omega) (by omega)]
    omega
  have le4 : b + b / 16 &&& 1085102592571150095 ≤ 1085102592571150095 := Nat.and_le_right
  have C1 : lAnd (w64 ((b : Int) + lUshr (b : Int) 4)) 1085102592571150095 = ((b + b / 16 &&& 1085102592571150095 : Nat) : Int) := by
    rw [C0]
    exact lAnd_n (m := 1085102592571150095) (by omega) (by decide)
  generalize hc : b + b / 16 &&& 1085102592571150095 = c at hp le4 C1
  have D1 : w64 ((c : Int) + lUshr (c : Int) 8) = ((c + c / 256 : Nat) : Int) := by
    rw [show (8 : Int) = ((8 : Nat) : Int) from rfl, lUshr_n (by omega) (by decide), w64_id (by omega) (by omega)]
    omega
  generalize hd : c + c / 256 = d at hp D1
  have E1 : w64 ((d : Int) + lUshr (d : Int) 16) = ((d + d / 65536 : Nat) : Int) := by
    rw [show (16 : Int) = ((16 : Nat) : Int) from rfl, lUshr_n (by omega) (by decide), w64_id (by omega) (by omega)]
    omega
  generalize he : d + d / 65536 = e at hp E1
  have F1 : w64 ((e : Int) + lUshr (e : Int) 32) = ((e + e / 4294967296 : Nat) : Int) := by
    rw [show (32 : Int) = ((32 : Nat) : Int) from rfl, lUshr_n (by omega) (by decide), w64_id (by omega) (by omega)]
    omega
  unfold g_jLong_bitCount
  rw [A2, B3, C1, D1, E1, F1]
  have hw := w32_bd ((e + e / 4294967296 : Nat) : Int)
  rw [iAnd_127 hw.1 hw.2 ⟨Int.emod_nonneg _ (by decide), Int.emod_lt_of_pos _ (by decide)⟩, w32_m, mod128 hp]
/-- a set of rows below 60 as a natural -/
theorem bq_nat {v : Int} (hv : okL v) (h : ∀ q, q < 64 → 60 ≤ q → bq v q = false) : ∃ n : Nat, v = (n : Int) ∧ n < 1152921504606846976 ∧ ∀ q, q < 64 → n.testBit q = bq v q := by
  have e : (Int64.ofInt v).toInt = v := toInt_ofInt64 hv
  have lt : (Int64.ofInt v).toBitVec.toNat < 2 ^ 60 := by
    refine Nat.lt_pow_two_of_testBit _ (fun i hi => ?_)
    by_cases c : i < 64
    · have k := h i c hi
      unfold bq at k
      exact k
    · exact Nat.testBit_lt_two_pow (Nat.lt_of_lt_of_le (Int64.ofInt v).toBitVec.isLt (Nat.pow_le_pow_right (by decide) (by omega)))
  refine ⟨(Int64.ofInt v).toBitVec.toNat, ?_, by omega, fun q hq => rfl⟩
  rw [← i64_ti (by omega), e]
def cnP (P : Nat → Bool) : Nat → Int
  | 0 => 0
  | k + 1 => cnP P k + (if P k = true then 1 else 0)
theorem cnP_ext {P Q : Nat → Bool} : ∀ k : Nat, (∀ q : Nat, q < k → P q = Q q) → cnP P k = cnP Q k
  | 0, _ => rfl
  | k + 1, h => by
    show cnP P k + _ = cnP Q k + _
    rw [cnP_ext k (fun q hq => h q (by omega)), h k (by omega)]
theorem cnP_bd {P : Nat → Bool} : ∀ k : Nat, 0 ≤ cnP P k ∧ cnP P k ≤ (k : Int)
  | 0 => ⟨Int.le_refl _, Int.le_refl _⟩
  | k + 1 => by
    have ih := cnP_bd (P := P) k
    show 0 ≤ cnP P k + _ ∧ cnP P k + _ ≤ ((k + 1 : Nat) : Int)
    split <;> omega
theorem cntB_P {n : Nat} {P : Nat → Bool} : ∀ k : Nat, (∀ q : Nat, q < k → n.testBit q = P q) → ((cntB n k : Nat) : Int) = cnP P k
  | 0, _ => rfl
  | k + 1, h => by
    have ih := cntB_P k (fun q hq => h q (by omega))
    show ((cntB n k + (n.testBit k).toNat : Nat) : Int) = cnP P k + _
    rw [h k (by omega), ← ih]
    cases P k
    · show ((cntB n k + 0 : Nat) : Int) = _
      rw [if_neg (by decide)]
      omega
    · show ((cntB n k + 1 : Nat) : Int) = _
      rw [if_pos rfl]
      omega
theorem cntB_60 {n : Nat} (h : n < 1152921504606846976) : cntB n 64 = cntB n 60 := by
  have z : ∀ q, 60 ≤ q → n.testBit q = false := fun q hq => Nat.testBit_lt_two_pow (Nat.lt_of_lt_of_le (show n < 2 ^ 60 by omega) (Nat.pow_le_pow_right (by decide) hq))
  show cntB n 60 + (n.testBit 60).toNat + (n.testBit 61).toNat + (n.testBit 62).toNat + (n.testBit 63).toNat = _
  rw [z 60 (by decide), z 61 (by decide), z 62 (by decide), z 63 (by decide)]
  rfl
theorem lAnd_ok (x y : Int) : okL (lAnd x y) := by
  unfold lAnd
  have h1 := Int64.le_toInt (Int64.ofInt x &&& Int64.ofInt y)
  have h2 := Int64.toInt_lt (Int64.ofInt x &&& Int64.ofInt y)
  omega
theorem rowsIn_ok {x : Int} {σ : zS} : zP' (g_so_rowsIn x σ) (fun v _ => okL v) := by
  unfold g_so_rowsIn g_b_x1 g_b_x0 g_b_y1 g_b_y0
  simp only [Option.bind_some]
  repeat' first | exact zP'.ret (lAnd_ok _ _) | refine zP'.gd (fun _ => ?_)
/-- how many rows lie in a box, of the class's store -/
def rnC (σ : zS) (I : Nat → Bool) (b : Bx) : Int := cnP (fun q => I q && decide (bIn b (σ 42 (q : Int)) (σ 43 (q : Int)))) 60
theorem p_rc {σ : zS} {I : Nat → Bool} {b : Bx} (S : STb σ 41 I) (hI : ∀ r, I r = true → r < 60) (hb : bOk b) : ∃ v, g_so_rowsIn (enc b) σ = some (v, σ) ∧ ∀ s, g_jLong_bitCount v s = some (rnC σ I b, s) := by
  obtain ⟨v, e1, e2⟩ := p_rowsIn (σ := σ) (b := b) S hb
  refine ⟨v, e1, fun s => ?_⟩
  have hv : okL v := rowsIn_ok v σ e1
  obtain ⟨n, rfl, hn, ht⟩ := bq_nat hv (fun q h1 h2 => by
    rw [e2 q h1]
    cases hq : I q with
    | false => rfl
    | true =>
      have := hI q hq
      omega)
  rw [bitC_n hn, cntB_60 hn, cntB_P (P := fun q => I q && decide (bIn b (σ 42 (q : Int)) (σ 43 (q : Int)))) 60 (fun q hq => by rw [ht q (by omega), e2 q (by omega)])]
  rfl
theorem rnC_bd {σ : zS} {I : Nat → Bool} {b : Bx} : 0 ≤ rnC σ I b ∧ rnC σ I b ≤ 60 := cnP_bd 60
theorem rowsC_P {σ : zS} {b : Bx} : ∀ k : Nat, rowsC σ b k = cnP (fun q => decide (σ 144 (20 + 3 * (q : Int)) = 1 ∧ bIn b (σ 144 (21 + 3 * (q : Int))) (σ 144 (22 + 3 * (q : Int))))) k
  | 0 => rfl
  | k + 1 => by
    show rowsC σ b k + _ = cnP _ k + _
    rw [rowsC_P k]
    by_cases c : σ 144 (20 + 3 * (k : Int)) = 1 ∧ bIn b (σ 144 (21 + 3 * (k : Int))) (σ 144 (22 + 3 * (k : Int)))
    · rw [if_pos c, if_pos (decide_eq_true c)]
    · rw [if_neg c, if_neg (fun h => c (of_decide_eq_true h))]
theorem rnC_eq {σ : zS} {b : Bx} (R : RW σ 41 144 147) : rnC σ (inS σ 144) b = rowsN σ b := by
  unfold rnC rowsN
  rw [rowsC_P]
  refine cnP_ext 60 (fun q hq => ?_)
  obtain ⟨g1, g2, g3, -⟩ := R.2 q hq
  have g2 : σ 42 (q : Int) = σ 144 (21 + 3 * (q : Int)) := g2
  have g3 : σ 43 (q : Int) = σ 144 (22 + 3 * (q : Int)) := g3
  try dsimp only
  rw [g2, g3]
  unfold inS
  by_cases c : σ 144 (20 + 3 * (q : Int)) = 1
  · rw [decide_eq_true (show q < 60 ∧ _ from ⟨hq, c⟩), Bool.true_and]
    by_cases c2 : bIn b (σ 144 (21 + 3 * (q : Int))) (σ 144 (22 + 3 * (q : Int)))
    · rw [decide_eq_true c2, decide_eq_true (show _ ∧ _ from ⟨c, c2⟩)]
    · rw [decide_eq_false c2, decide_eq_false (fun h => c2 h.2)]
  · rw [decide_eq_false (fun h => c h.2), Bool.false_and, decide_eq_false (fun h => c h.1)]
end
section
/-! 82.cbox -/
/-! BOXES OF THE CLASS: meeting, common, around, area, joining -/
def encH (h : Bx) : Int := if h.1 < 0 then -1 else enc h
theorem bOk.n {b : Bx} (h : bOk b) : ¬ b.1 < 0 := by
  dsimp only [bOk] at h
  omega
theorem encH_ok {b : Bx} (h : bOk b) : encH b = enc b := if_neg h.n
theorem enc_ne {b : Bx} (h : bOk b) : enc b ≠ -1 := by
  have := enc_bd h.s
  omega
theorem p_max {x y : Int} {σ : zS} : g_jMath_max_289 x y σ = some (zmx x y, σ) := by
  unfold g_jMath_max_289 zmx
  by_cases c : x < y
  · rw [if_pos c, if_pos c]
  · rw [if_neg c, if_neg c]
theorem p_min {x y : Int} {σ : zS} : g_jMath_min_291 x y σ = some (zmn x y, σ) := by
  unfold g_jMath_min_291 zmn
  by_cases c : y < x
  · rw [if_pos c, if_neg (by omega)]
  · rw [if_neg c]
    by_cases c2 : x < y
    · rw [if_pos c2]
    · rw [if_neg c2, show x = y by omega]
theorem c_meet {a b : Bx} (ha : bOk a) (hb : bOk b) {σ : zS} : g_b_meet (enc a) (enc b) σ = some (if bMt a b then 1 else 0, σ) := by
  unfold g_b_meet
  rw [if_neg (enc_ne ha), if_neg (enc_ne hb), b_x0 ha.s]
  rw [Option.bind_some]
  try dsimp +instances only
  rw [b_x1 hb.s]
  rw [Option.bind_some]
  try dsimp +instances only
  by_cases c1 : b.2.1 < a.1
  · rw [if_pos c1, if_neg (fun h => by have := h.1; omega)]
  rw [if_neg c1, b_x0 hb.s]
  rw [Option.bind_some]
  try dsimp +instances only
  rw [b_x1 ha.s]
  rw [Option.bind_some]
  try dsimp +instances only
  by_cases c2 : a.2.1 < b.1
  · rw [if_pos c2, if_neg (fun h => by have := h.2.1; omega)]
  rw [if_neg c2, b_y0 ha.s]
  rw [Option.bind_some]
  try dsimp +instances only
  rw [b_y1 hb.s]
  rw [Option.bind_some]
  try dsimp +instances only
  by_cases c3 : b.2.2.2 < a.2.2.1
  · rw [if_pos c3, if_neg (fun h => by have := h.2.2.1; omega)]
  rw [if_neg c3, b_y0 hb.s]
  rw [Option.bind_some]
  try dsimp +instances only
  rw [b_y1 ha.s]
  rw [Option.bind_some]
  try dsimp +instances only
  by_cases c4 : a.2.2.2 < b.2.2.1
  · rw [if_pos c4, if_neg (fun h => by have := h.2.2.2; omega)]
  rw [if_neg c4, if_pos ⟨by omega, by omega, by omega, by omega⟩]
theorem c_meetH {h b : Bx} (hh : h.1 < 0 ∨ bOk h) (hb : bOk b) {σ : zS} : g_b_meet (encH h) (enc b) σ = some (if 0 ≤ h.1 ∧ bMt h b then 1 else 0, σ) := by
  by_cases c : h.1 < 0
  · unfold g_b_meet encH
    rw [if_pos c, if_pos rfl, if_neg (fun k => by omega)]
  · have ok := hh.resolve_left c
    rw [encH_ok ok, c_meet ok hb]
    by_cases c2 : bMt h b
    · rw [if_pos c2, if_pos ⟨by omega, c2⟩]
    · rw [if_neg c2, if_neg (fun k => c2 k.2)]
theorem c_common {h b : Bx} (hh : h.1 < 0 ∨ bOk h) (hb : bOk b) {σ : zS} : g_b_common (encH h) (enc b) σ = some (if 0 ≤ h.1 ∧ bMt h b then enc (bCom h b) else -1, σ) := by
  unfold g_b_common
  rw [c_meetH hh hb]
  rw [Option.bind_some]
  try dsimp +instances only
  by_cases c : 0 ≤ h.1 ∧ bMt h b
  · have ok := hh.resolve_left (by omega)
    rw [if_pos c, if_pos c, if_pos (show (1 : Int) ≠ 0 by decide), encH_ok ok, b_x0 ok.s]
    rw [Option.bind_some]
    try dsimp +instances only
    rw [b_x0 hb.s]
    rw [Option.bind_some]
    try dsimp +instances only
    rw [p_max]
    rw [Option.bind_some]
    try dsimp +instances only
    rw [b_x1 ok.s]
    rw [Option.bind_some]
    try dsimp +instances only
    rw [b_x1 hb.s]
    rw [Option.bind_some]
    try dsimp +instances only
    rw [p_min]
    rw [Option.bind_some]
    try dsimp +instances only
    rw [b_y0 ok.s]
    rw [Option.bind_some]
    try dsimp +instances only
    rw [b_y0 hb.s]
    rw [Option.bind_some]
    try dsimp +instances only
    rw [p_max]
    rw [Option.bind_some]
    try dsimp +instances only
    rw [b_y1 ok.s]
    rw [Option.bind_some]
    try dsimp +instances only
    rw [b_y1 hb.s]
    rw [Option.bind_some]
    try dsimp +instances only
    rw [p_min]
    rw [Option.bind_some]
    try dsimp +instances only
    have e := b_of (b := bCom h b) (bCom_ok ok hb c.2).1.s σ
    have e : g_b_of (zmx h.1 b.1) (zmn h.2.1 b.2.1) (zmx h.2.2.1 b.2.2.1) (zmn h.2.2.2 b.2.2.2) σ = some (enc (bCom h b), σ) := e
    rw [e]
    rfl
  · rw [if_neg c, if_neg c, if_neg (show ¬ (0 : Int) ≠ 0 by decide)]
theorem c_around {a b : Bx} (ha : a.1 < 0 ∨ bOk a) (hb : b.1 < 0 ∨ bOk b) {σ : zS} : g_b_around (encH a) (encH b) σ = some (encH (if b.1 < 0 then a else bAro a b), σ) := by
  unfold g_b_around
  by_cases c1 : a.1 < 0
  · have e1 : encH a = -1 := if_pos c1
    rw [e1, if_neg (by decide)]
    by_cases c2 : b.1 < 0
    · have e2 : encH b = -1 := if_pos c2
      rw [e2, if_pos c2, e1]
    · rw [if_neg c2, bAro_neg (by omega)]
  · have ka := ha.resolve_left c1
    rw [encH_ok ka, if_pos (enc_ne ka)]
    by_cases c2 : b.1 < 0
    · have e2 : encH b = -1 := if_pos c2
      rw [e2, if_neg (by decide), if_pos c2, encH_ok ka]
    · have kb := hb.resolve_left c2
      rw [encH_ok kb, if_pos (enc_ne kb), if_neg c2, encH_ok (bAro_ok ka kb).1, b_x0 ka.s]
      rw [Option.bind_some]
      try dsimp +instances only
      rw [b_x0 kb.s]
      rw [Option.bind_some]
      try dsimp +instances only
      rw [p_min]
      rw [Option.bind_some]
      try dsimp +instances only
      rw [b_x1 ka.s]
      rw [Option.bind_some]
      try dsimp +instances only
      rw [b_x1 kb.s]
      rw [Option.bind_some]
      try dsimp +instances only
      rw [p_max]
      rw [Option.bind_some]
      try dsimp +instances only
      rw [b_y0 ka.s]
      rw [Option.bind_some]
      try dsimp +instances only
      rw [b_y0 kb.s]
      rw [Option.bind_some]
      try dsimp +instances only
      rw [p_min]
      rw [Option.bind_some]
      try dsimp +instances only
      rw [b_y1 ka.s]
      rw [Option.bind_some]
      try dsimp +instances only
      rw [b_y1 kb.s]
      rw [Option.bind_some]
      try dsimp +instances only
      rw [p_max]
      rw [Option.bind_some]
      try dsimp +instances only
      have e := b_of (b := bAro a b) (bAro_ok ka kb).1.s σ
      rw [bAro_pos (show 0 ≤ a.1 by omega)] at e ⊢
      have e : g_b_of (zmn a.1 b.1) (zmx a.2.1 b.2.1) (zmn a.2.2.1 b.2.2.1) (zmx a.2.2.2 b.2.2.2) σ = some (enc (zmn a.1 b.1, zmx a.2.1 b.2.1, zmn a.2.2.1 b.2.2.1, zmx a.2.2.2 b.2.2.2), σ) := e
      rw [e]
      rfl
theorem c_area {b : Bx} (hb : bOk b) {σ : zS} : g_b_area (enc b) σ = some (bArea b, σ) := by
  unfold g_b_area bArea
  rw [b_x1 hb.s]
  rw [Option.bind_some]
  try dsimp +instances only
  rw [b_x0 hb.s]
  rw [Option.bind_some]
  try dsimp +instances only
  rw [b_y1 hb.s]
  rw [Option.bind_some]
  try dsimp +instances only
  rw [b_y0 hb.s]
  rfl
theorem en_1023 {b : Bx} (h : sOk b) : iAnd (enc b) 1023 = b.1 + 32 * b.2.1 := by
  have hb := enc_bd h
  rw [iAnd_1023 (by omega) (by omega)]
  dsimp only [sOk] at h
  unfold enc
  omega
theorem en_s10 {b : Bx} (h : sOk b) : iShr (enc b) 10 = b.2.2.1 + 32 * b.2.2.2 := by
  have hb := enc_bd h
  have e := iShr_d (x := enc b) (k := 10) (by decide) (by omega) (by omega)
  have e : iShr (enc b) 10 = enc b / 1024 := e
  rw [e]
  dsimp only [sOk] at h
  unfold enc
  omega
theorem c_join {a b : Bx} (ha : bOk a) (hb : bOk b) {σ : zS} : g_b_join (enc a) (enc b) σ = some (if bOne a b then 1 else 0, σ) := by
  have hA := ha
  have hB := hb
  dsimp only [bOk] at hA hB
  have L111 : ∀ (x y : Int) (s : zS), g_b_join_L111 x y s = some (if x = 0 ∨ y = 0 then 0 else 1, s) := fun x y s => by
    unfold g_b_join_L111
    by_cases c1 : x = 0
    · rw [if_pos c1, if_pos (Or.inl c1)]
    · rw [if_neg c1]
      by_cases c2 : y = 0
      · rw [if_pos c2, if_pos (Or.inr c2)]
      · rw [if_neg c2, if_neg (fun h => h.elim c1 c2)]
  have L100 : ∀ (x y z w : Int) (s : zS), g_b_join_L100 x y z w s = some (if (x ≠ 0 ∧ w ≠ 0) ∨ (y ≠ 0 ∧ z ≠ 0) then 1 else 0, s) := fun x y z w s => by
    unfold g_b_join_L100
    rw [L111]
    by_cases c1 : x = 0
    · rw [if_pos c1]
      by_cases c2 : y = 0 ∨ z = 0
      · rw [if_pos c2, if_neg (by omega)]
      · rw [if_neg c2, if_pos (by omega)]
    · rw [if_neg c1]
      by_cases c3 : w ≠ 0
      · rw [if_pos c3, if_pos (Or.inl ⟨c1, c3⟩)]
      · rw [if_neg c3]
        by_cases c2 : y = 0 ∨ z = 0
        · rw [if_pos c2, if_neg (by omega)]
        · rw [if_neg c2, if_pos (by omega)]
  have L82 : ∀ (x y z : Int) (s : zS), g_b_join_L82 (enc a) (enc b) x y z s = some (if (x ≠ 0 ∧ a.2.2.1 = b.2.2.1 ∧ a.2.2.2 = b.2.2.2) ∨ (y ≠ 0 ∧ z ≠ 0) then 1 else 0, s) := fun x y z s => by
    unfold g_b_join_L82
    rw [en_s10 ha.s, en_s10 hb.s]
    by_cases c : a.2.2.1 + 32 * a.2.2.2 ≠ b.2.2.1 + 32 * b.2.2.2
    · rw [if_pos c, L100]
      by_cases c2 : y ≠ 0 ∧ z ≠ 0
      · rw [if_pos (Or.inr c2), if_pos (Or.inr c2)]
      · rw [if_neg (fun h => h.elim (fun k => k.2 rfl) c2), if_neg (fun h => h.elim (fun k => c (by omega)) c2)]
    · rw [if_neg c, L100]
      by_cases c1 : x ≠ 0
      · rw [if_pos (Or.inl ⟨c1, by decide⟩), if_pos (Or.inl ⟨c1, by omega⟩)]
      · by_cases c2 : y ≠ 0 ∧ z ≠ 0
        · rw [if_pos (Or.inr c2), if_pos (Or.inr c2)]
        · rw [if_neg (fun h => h.elim (fun k => c1 k.1) c2), if_neg (fun h => h.elim (fun k => c1 k.1) c2)]
  have L63 : ∀ (x y : Int) (s : zS), g_b_join_L63 (enc a) (enc b) x y s = some (if (x ≠ 0 ∧ a.2.2.1 = b.2.2.1 ∧ a.2.2.2 = b.2.2.2) ∨ (y ≠ 0 ∧ a.1 = b.1 ∧ a.2.1 = b.2.1) then 1 else 0, s) := fun x y s => by
    unfold g_b_join_L63
    rw [en_1023 ha.s, en_1023 hb.s]
    by_cases c : a.1 + 32 * a.2.1 ≠ b.1 + 32 * b.2.1
    · rw [if_pos c, L82]
      by_cases c2 : x ≠ 0 ∧ a.2.2.1 = b.2.2.1 ∧ a.2.2.2 = b.2.2.2
      · rw [if_pos (Or.inl c2), if_pos (Or.inl c2)]
      · rw [if_neg (fun h => h.elim c2 (fun k => k.2 rfl)), if_neg (fun h => h.elim c2 (fun k => c (by omega)))]
    · rw [if_neg c, L82]
      by_cases c2 : x ≠ 0 ∧ a.2.2.1 = b.2.2.1 ∧ a.2.2.2 = b.2.2.2
      · rw [if_pos (Or.inl c2), if_pos (Or.inl c2)]
      · by_cases c1 : y ≠ 0
        · rw [if_pos (Or.inr ⟨c1, by decide⟩), if_pos (Or.inr ⟨c1, by omega⟩)]
        · rw [if_neg (fun h => h.elim c2 (fun k => c1 k.1)), if_neg (fun h => h.elim c2 (fun k => c1 k.1))]
  have L31 : ∀ (x : Int) (s : zS), g_b_join_L31 (enc a) (enc b) x s = some (if (x ≠ 0 ∧ a.2.2.1 = b.2.2.1 ∧ a.2.2.2 = b.2.2.2) ∨ ((a.2.2.2 + 1 = b.2.2.1 ∨ b.2.2.2 + 1 = a.2.2.1) ∧ a.1 = b.1 ∧ a.2.1 = b.2.1) then 1 else 0, s) := fun x s => by
    unfold g_b_join_L31
    rw [b_y1 ha.s]
    rw [Option.bind_some]
    try dsimp +instances only
    rw [b_y0 hb.s]
    rw [Option.bind_some]
    try dsimp +instances only
    rw [w32_id (x := a.2.2.2 + 1) (by omega) (by omega)]
    have go : ∀ y : Int, (y ≠ 0 ↔ (a.2.2.2 + 1 = b.2.2.1 ∨ b.2.2.2 + 1 = a.2.2.1)) → g_b_join_L63 (enc a) (enc b) x y s = some (if (x ≠ 0 ∧ a.2.2.1 = b.2.2.1 ∧ a.2.2.2 = b.2.2.2) ∨ ((a.2.2.2 + 1 = b.2.2.1 ∨ b.2.2.2 + 1 = a.2.2.1) ∧ a.1 = b.1 ∧ a.2.1 = b.2.1) then 1 else 0, s) := fun y hy => by
      rw [L63]
      by_cases c2 : x ≠ 0 ∧ a.2.2.1 = b.2.2.1 ∧ a.2.2.2 = b.2.2.2
      · rw [if_pos (Or.inl c2), if_pos (Or.inl c2)]
      · by_cases c1 : y ≠ 0 ∧ a.1 = b.1 ∧ a.2.1 = b.2.1
        · rw [if_pos (Or.inr c1), if_pos (Or.inr ⟨hy.mp c1.1, c1.2⟩)]
        · rw [if_neg (fun h => h.elim c2 c1), if_neg (fun h => h.elim c2 (fun k => c1 ⟨hy.mpr k.1, k.2⟩))]
    by_cases c1 : a.2.2.2 + 1 = b.2.2.1
    · rw [if_pos c1]
      unfold g_b_join_L58
      exact go 1 ⟨fun _ => Or.inl c1, fun _ => by decide⟩
    · rw [if_neg c1, b_y1 hb.s]
      rw [Option.bind_some]
      try dsimp +instances only
      rw [b_y0 ha.s]
      rw [Option.bind_some]
      try dsimp +instances only
      rw [w32_id (x := b.2.2.2 + 1) (by omega) (by omega)]
      by_cases c3 : b.2.2.2 + 1 = a.2.2.1
      · rw [if_neg (fun h => h c3)]
        unfold g_b_join_L58
        exact go 1 ⟨fun _ => Or.inr c3, fun _ => by decide⟩
      · rw [if_pos c3]
        exact go 0 ⟨fun h => absurd rfl h, fun h => h.elim (fun k => absurd k c1) (fun k => absurd k c3)⟩
  unfold g_b_join
  rw [b_x1 ha.s]
  rw [Option.bind_some]
  try dsimp +instances only
  rw [b_x0 hb.s]
  rw [Option.bind_some]
  try dsimp +instances only
  rw [w32_id (x := a.2.1 + 1) (by omega) (by omega)]
  have go : ∀ x : Int, (x ≠ 0 ↔ (a.2.1 + 1 = b.1 ∨ b.2.1 + 1 = a.1)) → g_b_join_L31 (enc a) (enc b) x σ = some (if bOne a b then 1 else 0, σ) := fun x hx => by
    rw [L31]
    by_cases c : bOne a b
    · rw [if_pos c, if_pos (by
        rcases c with k | k
        · exact Or.inl ⟨hx.mpr k.2.2, k.1, k.2.1⟩
        · exact Or.inr ⟨k.2.2, k.1, k.2.1⟩)]
    · rw [if_neg c, if_neg (fun h => c (by
        rcases h with k | k
        · exact Or.inl ⟨k.2.1, k.2.2, hx.mp k.1⟩
        · exact Or.inr ⟨k.2.1, k.2.2, k.1⟩))]
  by_cases c1 : a.2.1 + 1 = b.1
  · rw [if_pos c1]
    unfold g_b_join_L26
    exact go 1 ⟨fun _ => Or.inl c1, fun _ => by decide⟩
  · rw [if_neg c1, b_x1 hb.s]
    rw [Option.bind_some]
    try dsimp +instances only
    rw [b_x0 ha.s]
    rw [Option.bind_some]
    try dsimp +instances only
    rw [w32_id (x := b.2.1 + 1) (by omega) (by omega)]
    by_cases c3 : b.2.1 + 1 = a.1
    · rw [if_neg (fun h => h c3)]
      unfold g_b_join_L26
      exact go 1 ⟨fun _ => Or.inr c3, fun _ => by decide⟩
    · rw [if_pos c3]
      exact go 0 ⟨fun h => absurd rfl h, fun h => h.elim (fun k => absurd k c1) (fun k => absurd k c3)⟩
end
section
/-! 83.cache -/
/-! THE CACHE OF THE CLASS: its cells told as a list of regions (box, hot, number, hits, weight) -/
def cRg (σ : zS) (a0 : Nat) (k : Int) (r : Rg) : Prop := σ (a0 + 4) k = enc r.1 ∧ σ (a0 + 6) k = encH r.2.1 ∧ σ (a0 + 3) k = r.2.2.1 ∧ σ (a0 + 5) k = r.2.2.2.1 ∧ σ (a0 + 7) k = r.2.2.2.2
def cRs (σ : zS) (a0 : Nat) (L : List Rg) : Prop := σ a0 2 = (L.length : Int) ∧ ∀ (k : Nat) (hk : k < L.length), cRg σ a0 (k : Int) L[k]
theorem p_seOf {a : Nat} {i : Int} {σ : zS} (h : 0 ≤ i ∧ i < 7) : g_se_of a i σ = some (σ (a + 1) i, σ) := by
  unfold g_se_of
  rw [if_neg (by omega), if_neg (by omega), if_pos h]
theorem p_maxL {x y : Int} {σ : zS} : g_jMath_max_290 x y σ = some (if x < y then y else x, σ) := by
  unfold g_jMath_max_290
  by_cases c : x < y
  · rw [if_pos c, if_pos (by
      unfold lCmp
      rw [if_neg (by omega), if_neg (by omega)]
      decide)]
  · rw [if_neg c, if_neg (by
      unfold lCmp
      by_cases c2 : x > y
      · rw [if_pos c2]; decide
      · rw [if_neg c2, if_pos (by omega)]; decide)]
/-- the weight of a region -/
theorem c_weigh {a0 : Nat} {k : Int} {σ : zS} {I : Nat → Bool} {b : Bx} (hk : 0 ≤ k ∧ k < 181) (e : σ (a0 + 4) k = enc b) (hb : bOk b) (S : STb σ 41 I) (hI : ∀ r, I r = true → r < 60) : g_ca_weigh a0 k σ = some ((), zu σ (a0 + 7) k (wgt (σ a0 9) (w32 (σ (a0 + 2) 0 + rnC σ I b)) (σ (a0 + 5) k) (1 + rnC σ I b))) := by
  obtain ⟨v, e1, e2⟩ := p_rc (σ := σ) S hI hb
  have bd := rnC_bd (σ := σ) (I := I) (b := b)
  unfold g_ca_weigh
  rw [if_pos hk, e]
  try dsimp +instances only
  rw [e1]
  rw [Option.bind_some]
  try dsimp +instances only
  rw [e2]
  rw [Option.bind_some]
  try dsimp +instances only
  rw [p_seOf (by decide)]
  rw [Option.bind_some]
  try dsimp +instances only
  rw [w32_id (x := 1 + rnC σ I b) (by omega) (by omega), if_pos hk, if_neg (by omega), if_pos hk]
  rfl
theorem c_costOf {a0 : Nat} {σ : zS} {I : Nat → Bool} {b : Bx} (hb : bOk b) (S : STb σ 41 I) (hI : ∀ r, I r = true → r < 60) : g_ca_costOf a0 (enc b) σ = some (w32 (σ (a0 + 2) 0 + rnC σ I b), σ) := by
  obtain ⟨v, e1, e2⟩ := p_rc (σ := σ) S hI hb
  unfold g_ca_costOf
  rw [p_seOf (by decide)]
  rw [Option.bind_some]
  try dsimp +instances only
  rw [e1]
  rw [Option.bind_some]
  try dsimp +instances only
  rw [e2]
  rfl
theorem c_sizeOf {a0 : Nat} {σ : zS} {I : Nat → Bool} {b : Bx} (hb : bOk b) (S : STb σ 41 I) (hI : ∀ r, I r = true → r < 60) : g_ca_sizeOf a0 (enc b) σ = some (1 + rnC σ I b, σ) := by
  obtain ⟨v, e1, e2⟩ := p_rc (σ := σ) S hI hb
  have bd := rnC_bd (σ := σ) (I := I) (b := b)
  unfold g_ca_sizeOf
  rw [e1]
  rw [Option.bind_some]
  try dsimp +instances only
  rw [e2]
  rw [Option.bind_some]
  try dsimp +instances only
  rw [w32_id (x := 1 + rnC σ I b) (by omega) (by omega)]
/-- a region goes -/
theorem c_rem4 {a0 : Nat} {N : Nat} (hN : N ≤ 181) : ∀ (n m : Nat) (σ : zS), σ a0 2 = (N : Int) → 1 ≤ m → m ≤ N → zP' (g_ca_remove_L4 a0 n (m : Int) σ) (fun _ s => s a0 2 = (N : Int) - 1 ∧ (∀ f : Nat, 3 ≤ f → f ≤ 7 → ∀ j, s (a0 + f) j = if (m : Int) - 1 ≤ j ∧ j < (N : Int) - 1 then σ (a0 + f) (j + 1) else σ (a0 + f) j) ∧ ∀ b j, (b < a0 + 3 ∨ a0 + 7 < b) → (b ≠ a0 ∨ j ≠ 2) → s b j = σ b j)
  | 0, _, _, _, _, _ => zP'.no
  | n + 1, m, σ, h2, h1, hm => by
    unfold g_ca_remove_L4
    try dsimp +instances only
    rw [h2]
    by_cases c : (N : Int) ≤ (m : Int)
    · rw [if_pos c, w32_id (x := (N : Int) - 1) (by omega) (by omega)]
      refine zP'.ret ⟨zu_e rfl, fun f f1 f2 j => ?_, fun b j k1 k2 => zu_c (by omega)⟩
      rw [zu_a (by omega), if_neg (by omega)]
    · rw [if_neg c]
      have g1 : 0 ≤ (m : Int) ∧ (m : Int) < 181 := by omega
      have g2 : 0 ≤ (m : Int) - 1 ∧ (m : Int) - 1 < 181 := by omega
      rw [w32_id (x := (m : Int) - 1) (by omega) (by omega), w32_id (x := (m : Int) + 1) (by omega) (by omega)]
      rw [if_pos g1]
      rw [if_pos g2]
      rw [if_pos g1]
      rw [if_pos g2]
      rw [if_pos g1]
      rw [if_pos g2]
      rw [if_pos g1]
      rw [if_pos g2]
      rw [if_pos g1]
      rw [if_pos g2]
      try dsimp +instances only
      have e4 : zu σ (a0 + 3) ((m : Int) - 1) (σ (a0 + 3) (m : Int)) (a0 + 4) (m : Int) = σ (a0 + 4) (m : Int) := zu_a (by omega)
      rw [e4]
      generalize hs1 : zu (zu σ (a0 + 3) ((m : Int) - 1) (σ (a0 + 3) (m : Int))) (a0 + 4) ((m : Int) - 1) (σ (a0 + 4) (m : Int)) = s1
      have e5 : s1 (a0 + 5) (m : Int) = σ (a0 + 5) (m : Int) := by rw [← hs1, zu_a (by omega), zu_a (by omega)]
      have e6 : zu s1 (a0 + 5) ((m : Int) - 1) (s1 (a0 + 5) (m : Int)) (a0 + 6) (m : Int) = σ (a0 + 6) (m : Int) := by rw [zu_a (by omega), ← hs1, zu_a (by omega), zu_a (by omega)]
      rw [e6, e5]
      generalize hs2 : zu (zu s1 (a0 + 5) ((m : Int) - 1) (σ (a0 + 5) (m : Int))) (a0 + 6) ((m : Int) - 1) (σ (a0 + 6) (m : Int)) = s2
      have e7 : s2 (a0 + 7) (m : Int) = σ (a0 + 7) (m : Int) := by rw [← hs2, zu_a (by omega), zu_a (by omega), ← hs1, zu_a (by omega), zu_a (by omega)]
      rw [e7]
      generalize hs3 : zu s2 (a0 + 7) ((m : Int) - 1) (σ (a0 + 7) (m : Int)) = s3
      have cell : ∀ f : Nat, 3 ≤ f → f ≤ 7 → ∀ j, s3 (a0 + f) j = if j = (m : Int) - 1 then σ (a0 + f) (m : Int) else σ (a0 + f) j := fun f f1 f2 j => by
        have cs : f = 3 ∨ f = 4 ∨ f = 5 ∨ f = 6 ∨ f = 7 := by omega
        rw [← hs3]
        by_cases cj : j = (m : Int) - 1
        · rw [if_pos cj]
          rcases cs with rfl | rfl | rfl | rfl | rfl
          · rw [zu_a (by omega), ← hs2, zu_a (by omega), zu_a (by omega), ← hs1, zu_a (by omega), zu_e cj]
          · rw [zu_a (by omega), ← hs2, zu_a (by omega), zu_a (by omega), ← hs1, zu_e cj]
          · rw [zu_a (by omega), ← hs2, zu_a (by omega), zu_e cj]
          · rw [zu_a (by omega), ← hs2, zu_e cj]
          · rw [zu_e cj]
        · rw [if_neg cj, zu_c (by omega), ← hs2, zu_c (by omega), zu_c (by omega), ← hs1, zu_c (by omega), zu_c (by omega)]
      have oth : ∀ b j, (b < a0 + 3 ∨ a0 + 7 < b) → s3 b j = σ b j := fun b j k => by
        rw [← hs3, zu_a (by omega), ← hs2, zu_a (by omega), zu_a (by omega), ← hs1, zu_a (by omega), zu_a (by omega)]
      rw [show (m : Int) + 1 = ((m + 1 : Nat) : Int) by omega]
      refine (c_rem4 hN n (m + 1) s3 ((oth a0 2 (by omega)).trans h2) (by omega) (by omega)).imp (fun _ s p => ?_)
      obtain ⟨p1, p2, p3⟩ := p
      refine ⟨p1, fun f f1 f2 j => ?_, fun b j k1 k2 => (p3 b j k1 k2).trans (oth b j k1)⟩
      rw [p2 f f1 f2 j]
      by_cases c1 : ((m + 1 : Nat) : Int) - 1 ≤ j ∧ j < (N : Int) - 1
      · rw [if_pos c1, if_pos (by omega), cell f f1 f2, if_neg (by omega)]
      · rw [if_neg c1, cell f f1 f2]
        by_cases cj : j = (m : Int) - 1
        · rw [if_pos cj, if_pos (by omega), cj]
          congr 1
          omega
        · rw [if_neg cj, if_neg (by omega)]
theorem c_remove {a0 k : Nat} {L : List Rg} {σ : zS} (h : cRs σ a0 L) (hL : L.length ≤ 181) (hk : k < L.length) : zP' (g_ca_remove a0 (k : Int) σ) (fun _ s => cRs s a0 (L.eraseIdx k) ∧ ∀ b j, (b < a0 + 3 ∨ a0 + 7 < b) → (b ≠ a0 ∨ j ≠ 2) → s b j = σ b j) := by
  unfold g_ca_remove
  rw [w32_id (x := (k : Int) + 1) (by omega) (by omega), show (k : Int) + 1 = ((k + 1 : Nat) : Int) by omega]
  refine (c_rem4 hL zK (k + 1) σ h.1 (by omega) (by omega)).imp (fun _ s p => ?_)
  obtain ⟨p1, p2, p3⟩ := p
  have hl : (L.eraseIdx k).length = L.length - 1 := List.length_eraseIdx_of_lt hk
  refine ⟨⟨by rw [p1, hl]; omega, fun i hi => ?_⟩, p3⟩
  rw [hl] at hi
  have cell : ∀ f : Nat, 3 ≤ f → f ≤ 7 → s (a0 + f) (i : Int) = σ (a0 + f) ((if i < k then i else i + 1 : Nat) : Int) := fun f f1 f2 => by
    rw [p2 f f1 f2]
    by_cases c : i < k
    · rw [if_neg (by omega), if_pos c]
    · rw [if_pos (by omega), if_neg c, show (i : Int) + 1 = ((i + 1 : Nat) : Int) by omega]
  have el : (L.eraseIdx k)[i]'(by rw [hl]; exact hi) = L[if i < k then i else i + 1]'(by split <;> omega) := by
    rw [List.getElem_eraseIdx]
    by_cases c : i < k
    · simp only [c, if_true, dite_true]
    · simp only [c, if_false, dite_false]
  have g := h.2 (if i < k then i else i + 1) (by split <;> omega)
  rw [el]
  unfold cRg at *
  rw [cell 4 (by decide) (by decide), cell 6 (by decide) (by decide), cell 3 (by decide) (by decide), cell 5 (by decide) (by decide), cell 7 (by decide) (by decide)]
  exact g
/-- a region more, the last one -/
theorem c_addLast {a0 : Nat} {L : List Rg} {σ : zS} {b h : Bx} {hits w : Int} (H : cRs σ a0 L) (hL : L.length < 181) : zP' (g_ca_addLast a0 (enc b) hits (encH h) w σ) (fun v s => v = 1 ∧ cRs s a0 (L ++ [(b, h, σ a0 8, hits, w)]) ∧ s a0 8 = w32 (σ a0 8 + 1) ∧ ∀ c j, (c < a0 + 3 ∨ a0 + 7 < c) → (c ≠ a0 ∨ (j ≠ 2 ∧ j ≠ 8)) → s c j = σ c j) := by
  have h2 := H.1
  unfold g_ca_addLast
  try dsimp +instances only
  rw [h2, if_pos (by omega)]
  have g : 0 ≤ (L.length : Int) ∧ (L.length : Int) < 181 := by omega
  generalize hs1 : zu σ (a0 + 3) (L.length : Int) (σ a0 8) = s1
  have o1 : ∀ c j, c ≠ a0 + 3 → s1 c j = σ c j := fun c j k => by rw [← hs1]; exact zu_a k
  rw [o1 a0 2 (by omega), h2]
  generalize hs2 : zu s1 (a0 + 4) (L.length : Int) (enc b) = s2
  have o2 : ∀ c j, c ≠ a0 + 3 → c ≠ a0 + 4 → s2 c j = σ c j := fun c j k k2 => by rw [← hs2]; exact (zu_a k2).trans (o1 c j k)
  rw [o2 a0 2 (by omega) (by omega), h2]
  generalize hs3 : zu s2 (a0 + 5) (L.length : Int) hits = s3
  have o3 : ∀ c j, c ≠ a0 + 3 → c ≠ a0 + 4 → c ≠ a0 + 5 → s3 c j = σ c j := fun c j k k2 k3 => by rw [← hs3]; exact (zu_a k3).trans (o2 c j k k2)
  rw [o3 a0 2 (by omega) (by omega) (by omega), h2]
  generalize hs4 : zu s3 (a0 + 6) (L.length : Int) (encH h) = s4
  have o4 : ∀ c j, c ≠ a0 + 3 → c ≠ a0 + 4 → c ≠ a0 + 5 → c ≠ a0 + 6 → s4 c j = σ c j := fun c j k k2 k3 k4 => by rw [← hs4]; exact (zu_a k4).trans (o3 c j k k2 k3)
  rw [o4 a0 2 (by omega) (by omega) (by omega) (by omega), h2]
  generalize hs5 : zu s4 (a0 + 7) (L.length : Int) w = s5
  have o5 : ∀ c j, (c < a0 + 3 ∨ a0 + 7 < c) → s5 c j = σ c j := fun c j k => by rw [← hs5]; exact (zu_a (by omega)).trans (o4 c j (by omega) (by omega) (by omega) (by omega))
  have e8 : zu s5 a0 8 (w32 (s5 a0 8 + 1)) a0 2 = (L.length : Int) := by rw [zu_i (by decide), o5 a0 2 (by omega), h2]
  rw [if_pos g]
  rw [if_pos g]
  rw [if_pos g]
  rw [if_pos g]
  rw [if_pos g, e8, w32_id (x := (L.length : Int) + 1) (by omega) (by omega), o5 a0 8 (by omega)]
  have fin : ∀ c j, (c < a0 + 3 ∨ a0 + 7 < c) → (c ≠ a0 ∨ (j ≠ 2 ∧ j ≠ 8)) → zu (zu s5 a0 8 (w32 (σ a0 8 + 1))) a0 2 ((L.length : Int) + 1) c j = σ c j := fun c j k1 k2 => by rw [zu_c (by omega), zu_c (by omega), o5 c j k1]
  have z : ∀ f : Nat, 3 ≤ f → f ≤ 7 → ∀ j, zu (zu s5 a0 8 (w32 (σ a0 8 + 1))) a0 2 ((L.length : Int) + 1) (a0 + f) j = s5 (a0 + f) j := fun f f1 f2 j => by rw [zu_a (by omega), zu_a (by omega)]
  refine zP'.ret ⟨rfl, ⟨?_, fun i hi => ?_⟩, ?_, fin⟩
  · rw [zu_e rfl, List.length_append]
    show (L.length : Int) + 1 = ((L.length + 1 : Nat) : Int)
    omega
  · rw [List.length_append] at hi
    have hi : i < L.length + 1 := hi
    unfold cRg
    rw [z 4 (by decide) (by decide), z 6 (by decide) (by decide), z 3 (by decide) (by decide), z 5 (by decide) (by decide), z 7 (by decide) (by decide)]
    by_cases ci : i < L.length
    · rw [List.getElem_append_left ci]
      have g := H.2 i ci
      unfold cRg at g
      have ne : ¬ (i : Int) = (L.length : Int) := by omega
      have c7 : s5 (a0 + 7) (i : Int) = σ (a0 + 7) (i : Int) := by rw [← hs5, zu_i ne, ← hs4, zu_a (by omega), ← hs3, zu_a (by omega), ← hs2, zu_a (by omega), ← hs1, zu_a (by omega)]
      have c6 : s5 (a0 + 6) (i : Int) = σ (a0 + 6) (i : Int) := by rw [← hs5, zu_a (by omega), ← hs4, zu_i ne, ← hs3, zu_a (by omega), ← hs2, zu_a (by omega), ← hs1, zu_a (by omega)]
      have c5 : s5 (a0 + 5) (i : Int) = σ (a0 + 5) (i : Int) := by rw [← hs5, zu_a (by omega), ← hs4, zu_a (by omega), ← hs3, zu_i ne, ← hs2, zu_a (by omega), ← hs1, zu_a (by omega)]
      have c4 : s5 (a0 + 4) (i : Int) = σ (a0 + 4) (i : Int) := by rw [← hs5, zu_a (by omega), ← hs4, zu_a (by omega), ← hs3, zu_a (by omega), ← hs2, zu_i ne, ← hs1, zu_a (by omega)]
      have c3 : s5 (a0 + 3) (i : Int) = σ (a0 + 3) (i : Int) := by rw [← hs5, zu_a (by omega), ← hs4, zu_a (by omega), ← hs3, zu_a (by omega), ← hs2, zu_a (by omega), ← hs1, zu_i ne]
      rw [c3, c4, c5, c6, c7]
      exact g
    · have ei : i = L.length := by omega
      subst ei
      rw [List.getElem_append_right (Nat.le_refl _)]
      have c7 : s5 (a0 + 7) (L.length : Int) = w := by rw [← hs5]; exact zu_e rfl
      have c6 : s5 (a0 + 6) (L.length : Int) = encH h := by rw [← hs5, zu_a (by omega), ← hs4]; exact zu_e rfl
      have c5 : s5 (a0 + 5) (L.length : Int) = hits := by rw [← hs5, zu_a (by omega), ← hs4, zu_a (by omega), ← hs3]; exact zu_e rfl
      have c4 : s5 (a0 + 4) (L.length : Int) = enc b := by rw [← hs5, zu_a (by omega), ← hs4, zu_a (by omega), ← hs3, zu_a (by omega), ← hs2]; exact zu_e rfl
      have c3 : s5 (a0 + 3) (L.length : Int) = σ a0 8 := by rw [← hs5, zu_a (by omega), ← hs4, zu_a (by omega), ← hs3, zu_a (by omega), ← hs2, zu_a (by omega), ← hs1]; exact zu_e rfl
      rw [c3, c4, c5, c6, c7]
      have e0 : ([(b, h, σ a0 8, hits, w)] : List Rg)[L.length - L.length]'(by rw [Nat.sub_self]; exact Nat.one_pos) = (b, h, σ a0 8, hits, w) := by
        simp
      rw [e0]
      exact ⟨rfl, rfl, rfl, rfl, rfl⟩
  · rw [zu_i (by decide)]
    exact zu_e rfl
end
section
/-! 84.miss -/
/-! WHAT IS MISSING, of the class: its boxes as lists -/
def bsR (σ : zS) (a : Nat) (L : List Bx) : Prop := σ a 1 = (L.length : Int) ∧ ∀ (k : Nat) (hk : k < L.length), σ (a + 1) (k : Int) = enc L[k]
def frBs (a : Nat) (σ s : zS) : Prop := ∀ c j, c ≠ a + 1 → (c ≠ a ∨ j ≠ 1) → s c j = σ c j
theorem frBs.refl (a : Nat) (σ : zS) : frBs a σ σ := fun _ _ _ _ => rfl
theorem frBs.trans {a : Nat} {σ s t : zS} (h1 : frBs a σ s) (h2 : frBs a s t) : frBs a σ t := fun c j k1 k2 => (h2 c j k1 k2).trans (h1 c j k1 k2)
theorem bsR.fr {a b : Nat} {σ s : zS} {L : List Bx} (h : bsR σ a L) (f : frBs b σ s) (h1 : a ≠ b + 1) (h2 : a ≠ b) (h3 : a + 1 ≠ b) : bsR s a L := ⟨(f a 1 h1 (Or.inl h2)).trans h.1, fun k hk => (f (a + 1) _ (by omega) (Or.inl h3)).trans (h.2 k hk)⟩
theorem bs_add {a : Nat} {L : List Bx} {b : Bx} {σ : zS} (hz : zLI (a + 1) = 169) (h : bsR σ a L) (hL : L.length < 169) : zP' (g_bs_add a (enc b) σ) (fun _ s => bsR s a (L ++ [b]) ∧ frBs a σ s) := by
  unfold g_bs_add
  try dsimp +instances only
  rw [h.1, hz, if_neg (by omega), if_pos (by omega), if_pos (by omega)]
  have e : zu σ (a + 1) (L.length : Int) (enc b) a 1 = (L.length : Int) := (zu_a (by omega)).trans h.1
  rw [e, w32_id (x := (L.length : Int) + 1) (by omega) (by omega)]
  refine zP'.ret ⟨⟨?_, fun k hk => ?_⟩, fun c j k1 k2 => by rw [zu_c (by omega), zu_a k1]⟩
  · rw [zu_e rfl, List.length_append]
    show (L.length : Int) + 1 = ((L.length + 1 : Nat) : Int)
    omega
  · rw [List.length_append] at hk
    have hk : k < L.length + 1 := hk
    rw [zu_a (by omega)]
    by_cases ck : k < L.length
    · rw [zu_i (by omega), List.getElem_append_left ck]
      exact h.2 k ck
    · have ek : k = L.length := by omega
      subst ek
      rw [zu_e rfl, List.getElem_append_right (Nat.le_refl _)]
      have e0 : ([b] : List Bx)[L.length - L.length]'(by rw [Nat.sub_self]; exact Nat.one_pos) = b := by simp
      rw [e0]
def rsD (b r : Bx) (lo hi : Int) : List Bx := if r.2.1 < b.2.1 then [(r.2.1 + 1, b.2.1, lo, hi)] else []
def rsC (b r : Bx) (lo hi : Int) : List Bx := if b.1 < r.1 then [(b.1, r.1 - 1, lo, hi)] else []
def rsB (b r : Bx) : List Bx := if r.2.2.2 < b.2.2.2 then [(b.1, b.2.1, r.2.2.2 + 1, b.2.2.2)] else []
def rsA (b r : Bx) : List Bx := if b.2.2.1 < r.2.2.1 then [(b.1, b.2.1, b.2.2.1, r.2.2.1 - 1)] else []
theorem bs_135 {a : Nat} {L : List Bx} {b r : Bx} {lo hi : Int} {σ : zS} (hz : zLI (a + 1) = 169) (hb : bOk b) (hr : bOk r) (hlo : 0 ≤ lo ∧ lo ≤ 31) (hhi : 0 ≤ hi ∧ hi ≤ 31) (h : bsR σ a L) (hL : (L ++ rsD b r lo hi).length ≤ 169) : zP' (g_bs_addRest_L135 a (enc r) b.2.1 lo hi σ) (fun _ s => bsR s a (L ++ rsD b r lo hi) ∧ frBs a σ s) := by
  have hB := hb
  have hR := hr
  dsimp only [bOk] at hB hR
  unfold g_bs_addRest_L135
  rw [b_x1 hr.s]
  rw [Option.bind_some]
  try dsimp +instances only
  unfold rsD at *
  by_cases c : r.2.1 < b.2.1
  · rw [if_pos c] at hL ⊢
    rw [if_neg (by omega), b_x1 hr.s]
    rw [Option.bind_some]
    try dsimp +instances only
    rw [w32_id (x := r.2.1 + 1) (by omega) (by omega)]
    have e := b_of (b := (r.2.1 + 1, b.2.1, lo, hi)) (by dsimp only [sOk]; omega) σ
    have e : g_b_of (r.2.1 + 1) b.2.1 lo hi σ = some (enc (r.2.1 + 1, b.2.1, lo, hi), σ) := e
    rw [e]
    rw [Option.bind_some]
    try dsimp +instances only
    rw [List.length_append] at hL
    have hL : L.length + 1 ≤ 169 := hL
    exact zP'.bind (bs_add hz h (by omega)) (fun _ s p => zP'.ret p)
  · rw [if_neg c, if_pos (by omega), List.append_nil]
    exact zP'.ret ⟨h, frBs.refl a σ⟩
theorem bs_108 {a : Nat} {L : List Bx} {b r : Bx} {lo hi : Int} {σ : zS} (hz : zLI (a + 1) = 169) (hb : bOk b) (hr : bOk r) (hlo : 0 ≤ lo ∧ lo ≤ 31) (hhi : 0 ≤ hi ∧ hi ≤ 31) (h : bsR σ a L) (hL : (L ++ (rsC b r lo hi ++ rsD b r lo hi)).length ≤ 169) : zP' (g_bs_addRest_L108 a (enc r) b.1 b.2.1 lo hi σ) (fun _ s => bsR s a (L ++ (rsC b r lo hi ++ rsD b r lo hi)) ∧ frBs a σ s) := by
  have hB := hb
  have hR := hr
  dsimp only [bOk] at hB hR
  unfold g_bs_addRest_L108
  rw [b_x0 hr.s]
  rw [Option.bind_some]
  try dsimp +instances only
  unfold rsC at *
  by_cases c : b.1 < r.1
  · rw [if_pos c] at hL ⊢
    rw [if_neg (by omega), b_x0 hr.s]
    rw [Option.bind_some]
    try dsimp +instances only
    rw [w32_id (x := r.1 - 1) (by omega) (by omega)]
    have e := b_of (b := (b.1, r.1 - 1, lo, hi)) (by dsimp only [sOk]; omega) σ
    have e : g_b_of b.1 (r.1 - 1) lo hi σ = some (enc (b.1, r.1 - 1, lo, hi), σ) := e
    rw [e]
    rw [Option.bind_some]
    try dsimp +instances only
    rw [← List.append_assoc] at hL ⊢
    have hl : (L ++ [(b.1, r.1 - 1, lo, hi)]).length = L.length + 1 := by rw [List.length_append]; rfl
    have hl2 : (L ++ [(b.1, r.1 - 1, lo, hi)]).length ≤ 169 := Nat.le_trans (by rw [List.length_append (as := L ++ [(b.1, r.1 - 1, lo, hi)])]; exact Nat.le_add_right _ _) hL
    refine zP'.bind (bs_add hz h (by omega)) (fun _ s p => ?_)
    try dsimp +instances only
    exact (bs_135 hz hb hr hlo hhi p.1 hL).imp (fun _ t q => ⟨q.1, p.2.trans q.2⟩)
  · rw [if_neg c, List.nil_append] at hL ⊢
    rw [if_pos (by omega)]
    exact bs_135 hz hb hr hlo hhi h hL
theorem bs_84 {a : Nat} {L : List Bx} {b r : Bx} {lo hi : Int} {σ : zS} (hz : zLI (a + 1) = 169) (hb : bOk b) (hr : bOk r) (hlo : 0 ≤ lo ∧ lo ≤ 31) (hhi : hi = zmn b.2.2.2 r.2.2.2) (h : bsR σ a L) (hL : (L ++ (rsB b r ++ (rsC b r lo hi ++ rsD b r lo hi))).length ≤ 169) : zP' (g_bs_addRest_L84 a (enc r) b.1 b.2.1 b.2.2.2 lo hi σ) (fun _ s => bsR s a (L ++ (rsB b r ++ (rsC b r lo hi ++ rsD b r lo hi))) ∧ frBs a σ s) := by
  have hB := hb
  have hR := hr
  dsimp only [bOk] at hB hR
  have zm := zmn_le (a := b.2.2.2) (b := r.2.2.2)
  unfold g_bs_addRest_L84
  unfold rsB at *
  by_cases c : r.2.2.2 < b.2.2.2
  · have ehi : hi = r.2.2.2 := by omega
    rw [if_pos c] at hL ⊢
    rw [if_neg (by omega), ehi, w32_id (x := r.2.2.2 + 1) (by omega) (by omega)]
    have e := b_of (b := (b.1, b.2.1, r.2.2.2 + 1, b.2.2.2)) (by dsimp only [sOk]; omega) σ
    have e : g_b_of b.1 b.2.1 (r.2.2.2 + 1) b.2.2.2 σ = some (enc (b.1, b.2.1, r.2.2.2 + 1, b.2.2.2), σ) := e
    rw [e]
    rw [Option.bind_some]
    try dsimp +instances only
    rw [ehi, ← List.append_assoc] at hL
    rw [← List.append_assoc]
    have hl2 : (L ++ [(b.1, b.2.1, r.2.2.2 + 1, b.2.2.2)]).length ≤ 169 := Nat.le_trans (by rw [List.length_append (as := L ++ [(b.1, b.2.1, r.2.2.2 + 1, b.2.2.2)])]; exact Nat.le_add_right _ _) hL
    have hl : (L ++ [(b.1, b.2.1, r.2.2.2 + 1, b.2.2.2)]).length = L.length + 1 := by rw [List.length_append]; rfl
    refine zP'.bind (bs_add hz h (by omega)) (fun _ s p => ?_)
    try dsimp +instances only
    exact (bs_108 hz hb hr hlo (by omega) p.1 hL).imp (fun _ t q => ⟨q.1, p.2.trans q.2⟩)
  · rw [if_neg c, List.nil_append] at hL ⊢
    rw [if_pos (by omega)]
    exact bs_108 hz hb hr hlo (by omega) h hL
theorem bRest_eq {b r : Bx} (h : bMt b r) : bRest b r = rsA b r ++ (rsB b r ++ (rsC b r (zmx b.2.2.1 r.2.2.1) (zmn b.2.2.2 r.2.2.2) ++ rsD b r (zmx b.2.2.1 r.2.2.1) (zmn b.2.2.2 r.2.2.2))) := by
  unfold bRest
  rw [if_pos h]
  rfl
/-- the rest of a box by another one -/
theorem bs_addRest {a : Nat} {L : List Bx} {b r : Bx} {σ : zS} (hz : zLI (a + 1) = 169) (hb : bOk b) (hr : bOk r) (h : bsR σ a L) (hL : (L ++ bRest b r).length ≤ 169) : zP' (g_bs_addRest a (enc b) (enc r) σ) (fun _ s => bsR s a (L ++ bRest b r) ∧ frBs a σ s) := by
  have hB := hb
  have hR := hr
  dsimp only [bOk] at hB hR
  unfold g_bs_addRest
  rw [c_meet hb hr]
  rw [Option.bind_some]
  try dsimp +instances only
  by_cases c : bMt b r
  · rw [if_pos c, if_pos (show (1 : Int) ≠ 0 by decide), b_x0 hb.s]
    rw [Option.bind_some]
    try dsimp +instances only
    rw [b_x1 hb.s]
    rw [Option.bind_some]
    try dsimp +instances only
    rw [b_y0 hb.s]
    rw [Option.bind_some]
    try dsimp +instances only
    rw [b_y1 hb.s]
    rw [Option.bind_some]
    try dsimp +instances only
    rw [b_y0 hr.s]
    rw [Option.bind_some]
    try dsimp +instances only
    rw [p_max]
    rw [Option.bind_some]
    try dsimp +instances only
    rw [b_y1 hr.s]
    rw [Option.bind_some]
    try dsimp +instances only
    rw [p_min]
    rw [Option.bind_some]
    try dsimp +instances only
    have zx := zmx_le (a := b.2.2.1) (b := r.2.2.1)
    rw [bRest_eq c] at hL ⊢
    generalize hlo : zmx b.2.2.1 r.2.2.1 = lo at zx hL
    unfold rsA at *
    by_cases ca : b.2.2.1 < r.2.2.1
    · have elo : lo = r.2.2.1 := by omega
      rw [if_pos ca] at hL ⊢
      rw [if_neg (by omega), w32_id (x := lo - 1) (by omega) (by omega)]
      have e := b_of (b := (b.1, b.2.1, b.2.2.1, r.2.2.1 - 1)) (by dsimp only [sOk]; omega) σ
      have e : g_b_of b.1 b.2.1 b.2.2.1 (lo - 1) σ = some (enc (b.1, b.2.1, b.2.2.1, r.2.2.1 - 1), σ) := by rw [elo]; exact e
      rw [e]
      rw [Option.bind_some]
      try dsimp +instances only
      rw [← List.append_assoc] at hL ⊢
      have hl2 : (L ++ [(b.1, b.2.1, b.2.2.1, r.2.2.1 - 1)]).length ≤ 169 := Nat.le_trans (by rw [List.length_append (as := L ++ [(b.1, b.2.1, b.2.2.1, r.2.2.1 - 1)])]; exact Nat.le_add_right _ _) hL
      have hl : (L ++ [(b.1, b.2.1, b.2.2.1, r.2.2.1 - 1)]).length = L.length + 1 := by rw [List.length_append]; rfl
      refine zP'.bind (bs_add hz h (by omega)) (fun _ s p => ?_)
      try dsimp +instances only
      exact (bs_84 hz hb hr (by omega) rfl p.1 hL).imp (fun _ t q => ⟨q.1, p.2.trans q.2⟩)
    · rw [if_neg ca, List.nil_append] at hL ⊢
      rw [if_pos (by omega)]
      exact bs_84 hz hb hr (by omega) rfl h hL
  · have e : bRest b r = [b] := by
      unfold bRest
      rw [if_neg c]
    rw [if_neg c, if_neg (show ¬ (0 : Int) ≠ 0 by decide)]
    rw [e] at hL ⊢
    rw [List.length_append] at hL
    have hL : L.length + 1 ≤ 169 := hL
    exact zP'.bind (bs_add hz h (by omega)) (fun _ s p => zP'.ret p)
theorem bs_at {a : Nat} {L : List Bx} {k : Nat} {σ : zS} (hz : zLI (a + 1) = 169) (h : bsR σ a L) (hL : L.length ≤ 169) (hk : k < L.length) : g_bs_at a (k : Int) σ = some (enc L[k], σ) := by
  unfold g_bs_at
  try dsimp +instances only
  rw [if_neg (by omega), h.1, hz, if_neg (by omega), if_neg (by omega), if_pos (by omega), h.2 k hk]
theorem take_flat {S : List Bx} {f : Bx → List Bx} {k : Nat} (hk : k < S.length) : (S.take (k + 1)).flatMap f = (S.take k).flatMap f ++ f S[k] := by
  rw [List.take_succ_eq_append_getElem hk, List.flatMap_append, List.flatMap_singleton]
theorem take_flat_le {S : List Bx} {f : Bx → List Bx} (k : Nat) : ((S.take k).flatMap f).length ≤ (S.flatMap f).length := by
  have e : S.flatMap f = (S.take k).flatMap f ++ (S.drop k).flatMap f := by
    rw [← List.flatMap_append, List.take_append_drop]
  rw [e, List.length_append]
  exact Nat.le_add_right _ _
theorem bs_rest7 {a c : Nat} {S : List Bx} {r : Bx} (hz : zLI (a + 1) = 169) (hz2 : zLI (c + 1) = 169) (hd : c ≠ a + 1 ∧ c ≠ a ∧ c + 1 ≠ a) (hS : ∀ p ∈ S, bOk p) (hSl : S.length ≤ 169) (hr : bOk r) (hl : (bMiss S r).length ≤ 169) : ∀ (n k : Nat) (σ : zS), k ≤ S.length → bsR σ c S → bsR σ a ((S.take k).flatMap (fun p => bRest p r)) → zP' (g_bs_becomeRest_L7 a c n (enc r) (k : Int) σ) (fun _ s => bsR s a (bMiss S r) ∧ frBs a σ s)
  | 0, _, _, _, _, _ => zP'.no
  | n + 1, k, σ, hk, hc, ha => by
    unfold g_bs_becomeRest_L7
    try dsimp +instances only
    rw [hc.1]
    by_cases ck : (S.length : Int) ≤ (k : Int)
    · have ek : k = S.length := by omega
      rw [if_pos ck]
      rw [ek, List.take_length] at ha
      exact zP'.ret ⟨ha, frBs.refl a σ⟩
    · have hk' : k < S.length := by omega
      rw [if_neg ck, bs_at hz2 hc hSl hk']
      rw [Option.bind_some]
      try dsimp +instances only
      have hle := take_flat_le (S := S) (f := fun p => bRest p r) (k + 1)
      rw [take_flat hk'] at hle
      refine zP'.bind (bs_addRest hz (hS _ (List.getElem_mem hk')) hr ha (Nat.le_trans hle hl)) (fun _ s p => ?_)
      try dsimp +instances only
      rw [w32_id (x := (k : Int) + 1) (by omega) (by omega), show (k : Int) + 1 = ((k + 1 : Nat) : Int) by omega]
      refine (bs_rest7 hz hz2 hd hS hSl hr hl n (k + 1) s (by omega) (hc.fr p.2 hd.1 hd.2.1 hd.2.2) ?_).imp (fun _ t q => ⟨q.1, p.2.trans q.2⟩)
      rw [take_flat hk']
      exact p.1
theorem bs_becomeRest {a c : Nat} {S : List Bx} {r : Bx} {σ : zS} (hz : zLI (a + 1) = 169) (hz2 : zLI (c + 1) = 169) (hd : c ≠ a + 1 ∧ c ≠ a ∧ c + 1 ≠ a) (hS : ∀ p ∈ S, bOk p) (hSl : S.length ≤ 169) (hr : bOk r) (hl : (bMiss S r).length ≤ 169) (hc : bsR σ c S) : zP' (g_bs_becomeRest a c (enc r) σ) (fun _ s => bsR s a (bMiss S r) ∧ frBs a σ s) := by
  unfold g_bs_becomeRest
  try dsimp +instances only
  have f : frBs a σ (zu σ a 1 0) := fun x j k1 k2 => zu_c (by omega)
  refine (bs_rest7 hz hz2 hd hS hSl hr hl zK 0 (zu σ a 1 0) (Nat.zero_le _) (hc.fr f hd.1 hd.2.1 hd.2.2) ⟨zu_e rfl, fun k hk => absurd hk (Nat.not_lt_zero _)⟩).imp (fun _ t q => ⟨q.1, f.trans q.2⟩)
theorem bs_copy7 {a c : Nat} {S : List Bx} (hz : zLI (a + 1) = 169) (hz2 : zLI (c + 1) = 169) (hd : c ≠ a + 1 ∧ c ≠ a ∧ c + 1 ≠ a) (hSl : S.length ≤ 169) : ∀ (n k : Nat) (σ : zS), k ≤ S.length → bsR σ c S → bsR σ a (S.take k) → zP' (g_bs_copyFrom_L7 a c n (k : Int) σ) (fun _ s => bsR s a S ∧ frBs a σ s)
  | 0, _, _, _, _, _ => zP'.no
  | n + 1, k, σ, hk, hc, ha => by
    unfold g_bs_copyFrom_L7
    try dsimp +instances only
    rw [hc.1]
    by_cases ck : (S.length : Int) ≤ (k : Int)
    · have ek : k = S.length := by omega
      rw [if_pos ck]
      rw [ek, List.take_length] at ha
      exact zP'.ret ⟨ha, frBs.refl a σ⟩
    · have hk' : k < S.length := by omega
      rw [if_neg ck, bs_at hz2 hc hSl hk']
      rw [Option.bind_some]
      try dsimp +instances only
      have ht : (S.take k).length = k := by rw [List.length_take]; omega
      refine zP'.bind (bs_add hz ha (by omega)) (fun _ s p => ?_)
      try dsimp +instances only
      rw [w32_id (x := (k : Int) + 1) (by omega) (by omega), show (k : Int) + 1 = ((k + 1 : Nat) : Int) by omega]
      refine (bs_copy7 hz hz2 hd hSl n (k + 1) s (by omega) (hc.fr p.2 hd.1 hd.2.1 hd.2.2) ?_).imp (fun _ t q => ⟨q.1, p.2.trans q.2⟩)
      rw [List.take_succ_eq_append_getElem hk']
      exact p.1
theorem bs_copyFrom {a c : Nat} {S : List Bx} {σ : zS} (hz : zLI (a + 1) = 169) (hz2 : zLI (c + 1) = 169) (hd : c ≠ a + 1 ∧ c ≠ a ∧ c + 1 ≠ a) (hSl : S.length ≤ 169) (hc : bsR σ c S) : zP' (g_bs_copyFrom a c σ) (fun _ s => bsR s a S ∧ frBs a σ s) := by
  unfold g_bs_copyFrom
  try dsimp +instances only
  have f : frBs a σ (zu σ a 1 0) := fun x j k1 k2 => zu_c (by omega)
  refine (bs_copy7 hz hz2 hd hSl zK 0 (zu σ a 1 0) (Nat.zero_le _) (hc.fr f hd.1 hd.2.1 hd.2.2) ⟨zu_e rfl, fun k hk => absurd hk (Nat.not_lt_zero _)⟩).imp (fun _ t q => ⟨q.1, f.trans q.2⟩)
theorem bMiss_none {ps : List Bx} {r : Bx} (h : ∀ p ∈ ps, ¬ bMt p r) : bMiss ps r = ps := by
  induction ps with
  | nil => rfl
  | cons p ps ih =>
    unfold bMiss at *
    rw [List.flatMap_cons, ih (fun x hx => h x (List.mem_cons_of_mem _ hx))]
    unfold bRest
    rw [if_neg (h p List.mem_cons_self)]
    rfl
def frMs (a0 : Nat) (σ s : zS) : Prop := ∀ c j, (c < a0 + 8 ∨ a0 + 11 < c) → s c j = σ c j
theorem c_miss19 {a0 : Nat} {q : Bx} {L : List Rg} (ha : a0 = 48 ∨ a0 = 106) (hq : bOk q) (h1 : ∀ r ∈ L, bOk r.1) (h2 : (L.map (fun r => r.1)).Pairwise (fun a b => ¬ bMt a b)) (h3 : L.length ≤ 12) : ∀ (n k : Nat) (σ : zS), k ≤ L.length → cRs σ a0 L → bsR σ (a0 + 8) (bMissAll q ((L.map (fun r => r.1)).take k)) → zP' (g_ca_missingOf_L19 a0 n (enc q) (k : Int) σ) (fun _ s => bsR s (a0 + 8) (bMissAll q (L.map (fun r => r.1))) ∧ frMs a0 σ s)
  | 0, _, _, _, _, _ => zP'.no
  | n + 1, k, σ, hk, hc, hb => by
    unfold g_ca_missingOf_L19
    try dsimp +instances only
    rw [hc.1]
    have hlen : (L.map (fun r => r.1)).length = L.length := List.length_map _
    by_cases ck : (L.length : Int) ≤ (k : Int)
    · rw [if_pos ck]
      rw [List.take_of_length_le (by omega)] at hb
      exact zP'.ret ⟨hb, fun _ _ _ => rfl⟩
    · have hk' : k < L.length := by omega
      have okr := h1 L[k] (List.getElem_mem hk')
      rw [if_neg ck, if_pos (by omega), (hc.2 k hk').1, c_meet okr hq]
      rw [Option.bind_some]
      try dsimp +instances only
      have hz8 : zLI (a0 + 8 + 1) = 169 := by rcases ha with rfl | rfl <;> rfl
      have hz10 : zLI (a0 + 10 + 1) = 169 := by rcases ha with rfl | rfl <;> rfl
      have all1 : ∀ r ∈ L.map (fun r => r.1), bOk r := fun r hr => by
        obtain ⟨x, hx, rfl⟩ := List.mem_map.mp hr
        exact h1 x hx
      have sp : ∀ m, L.map (fun r => r.1) = (L.map (fun r => r.1)).take m ++ (L.map (fun r => r.1)).drop m := fun m => (List.take_append_drop m _).symm
      obtain ⟨i1, i2⟩ := bMissAll_pre hq all1 h2 (by omega) (sp k)
      obtain ⟨-, i4⟩ := bMissAll_pre hq all1 h2 (by omega) (sp (k + 1))
      have et : (L.map (fun r => r.1)).take (k + 1) = (L.map (fun r => r.1)).take k ++ [L[k].1] := by
        rw [List.take_succ_eq_append_getElem (by omega), List.getElem_map]
      rw [et, bMissAll_app] at i4
      have hrec : ∀ s : zS, frMs a0 σ s → bsR s (a0 + 8) (bMiss (bMissAll q ((L.map (fun r => r.1)).take k)) L[k].1) → zP' (g_ca_missingOf_L68 a0 (g_ca_missingOf_L19 a0 n) (enc q) (k : Int) s) (fun _ s => bsR s (a0 + 8) (bMissAll q (L.map (fun r => r.1))) ∧ frMs a0 σ s) := fun s f hs => by
        unfold g_ca_missingOf_L68
        rw [w32_id (x := (k : Int) + 1) (by omega) (by omega), show (k : Int) + 1 = ((k + 1 : Nat) : Int) by omega]
        have hc' : cRs s a0 L := ⟨(f a0 2 (by omega)).trans hc.1, fun i hi => by
          have g := hc.2 i hi
          unfold cRg at *
          rw [f _ _ (by omega), f _ _ (by omega), f _ _ (by omega), f _ _ (by omega), f _ _ (by omega)]
          exact g⟩
        exact (c_miss19 ha hq h1 h2 h3 n (k + 1) s (by omega) hc' (by rw [et, bMissAll_app]; exact hs)).imp (fun _ t p => ⟨p.1, fun c j h => (p.2 c j h).trans (f c j h)⟩)
      by_cases cm : bMt L[k].1 q
      · rw [if_pos cm, if_neg (show ¬ (1 : Int) = 0 by decide), if_pos (by omega), (hc.2 k hk').1]
        refine zP'.bind (bs_becomeRest (a := a0 + 10) (c := a0 + 8) hz10 hz8 (by omega) (fun p hp => (i1.1 p hp).1) i2 okr i4 hb) (fun _ s1 p1 => ?_)
        try dsimp +instances only
        refine zP'.bind (bs_copyFrom (a := a0 + 8) (c := a0 + 10) hz8 hz10 (by omega) i4 p1.1) (fun _ s2 p2 => ?_)
        try dsimp +instances only
        exact hrec s2 (fun c j h => (p2.2 c j (by omega) (Or.inl (by omega))).trans (p1.2 c j (by omega) (Or.inl (by omega)))) p2.1
      · rw [if_neg cm, if_pos rfl]
        refine hrec σ (fun _ _ _ => rfl) ?_
        rw [bMiss_none (fun p hp hm => cm ?_)]
        · exact hb
        · have hs := (i1.1 p hp).2.1
          dsimp only [bMt, bSub] at hs hm ⊢
          omega
theorem c_missingOf {a0 : Nat} {q : Bx} {L : List Rg} {σ : zS} (ha : a0 = 48 ∨ a0 = 106) (hq : bOk q) (h1 : ∀ r ∈ L, bOk r.1) (h2 : (L.map (fun r => r.1)).Pairwise (fun a b => ¬ bMt a b)) (h3 : L.length ≤ 12) (hc : cRs σ a0 L) : zP' (g_ca_missingOf a0 (enc q) σ) (fun _ s => bsR s (a0 + 8) (bMissAll q (L.map (fun r => r.1))) ∧ frMs a0 σ s) := by
  have hz8 : zLI (a0 + 8 + 1) = 169 := by rcases ha with rfl | rfl <;> rfl
  unfold g_ca_missingOf
  try dsimp +instances only
  have b0 : bsR (zu σ (a0 + 8) 1 0) (a0 + 8) [] := ⟨zu_e rfl, fun k hk => absurd hk (Nat.not_lt_zero _)⟩
  refine zP'.bind (bs_add (b := q) hz8 b0 (by decide)) (fun _ s p => ?_)
  try dsimp +instances only
  have f : frMs a0 σ s := fun c j h => (p.2 c j (by omega) (Or.inl (by omega))).trans (zu_a (by omega))
  have hc' : cRs s a0 L := ⟨(f a0 2 (by omega)).trans hc.1, fun i hi => by
    have g := hc.2 i hi
    unfold cRg at *
    rw [f _ _ (by omega), f _ _ (by omega), f _ _ (by omega), f _ _ (by omega), f _ _ (by omega)]
    exact g⟩
  exact (c_miss19 ha hq h1 h2 h3 zK 0 s (Nat.zero_le _) hc' p.1).imp (fun _ t g => ⟨g.1, fun c j h => (g.2 c j h).trans (f c j h)⟩)
end
section
/-! 85.cops -/
/-! THE CACHE OF THE CLASS: its state told by a list of regions and counters; asking, weighing, hitting, a new region -/
def upC (ct : Int → Int) (i v : Int) : Int → Int := fun j => if j = i then v else ct j
def cSt (σ : zS) (a0 : Nat) (I : Nat → Bool) (rn : Bx → Int) (st : Int → Int) (L : List Rg) (ct : Int → Int) : Prop := cRs σ a0 L ∧ (∀ i : Int, 8 ≤ i → i ≤ 15 → σ a0 i = ct i) ∧ (∀ i : Int, 0 ≤ i → i < 7 → σ (a0 + 2) i = st i) ∧ STb σ 41 I ∧ (∀ r, I r = true → r < 60) ∧ ∀ b, rnC σ I b = rn b
theorem STb_mv {σ s : zS} {I : Nat → Bool} (h : STb σ 41 I) (e : ∀ c j, 41 ≤ c → c ≤ 47 → s c j = σ c j) : STb s 41 I := fun i r hi hr => by
  have g := h i r hi hr
  show bq (s 46 (i : Int)) r = (I r && decide (s 42 (r : Int) < (i : Int))) ∧ bq (s 47 (i : Int)) r = (I r && decide (s 43 (r : Int) < (i : Int)))
  rw [e 46 _ (by decide) (by decide), e 47 _ (by decide) (by decide), e 42 _ (by decide) (by decide), e 43 _ (by decide) (by decide)]
  exact g
theorem rnC_mv {σ s : zS} {I : Nat → Bool} {b : Bx} (e : ∀ c j, 41 ≤ c → c ≤ 47 → s c j = σ c j) : rnC s I b = rnC σ I b := by
  unfold rnC
  rw [show s 42 = σ 42 from funext (fun j => e 42 j (by decide) (by decide)), show s 43 = σ 43 from funext (fun j => e 43 j (by decide) (by decide))]
theorem cRs_mv {σ s : zS} {a0 : Nat} {L : List Rg} (h : cRs σ a0 L) (e : ∀ c j, ((c = a0 ∧ j = 2) ∨ (a0 + 3 ≤ c ∧ c ≤ a0 + 7)) → s c j = σ c j) : cRs s a0 L := ⟨(e a0 2 (by omega)).trans h.1, fun i hi => by
  have g := h.2 i hi
  unfold cRg at *
  rw [e _ _ (by omega), e _ _ (by omega), e _ _ (by omega), e _ _ (by omega), e _ _ (by omega)]
  exact g⟩
theorem cSt.mv {σ s : zS} {a0 : Nat} {I : Nat → Bool} {rn : Bx → Int} {st : Int → Int} {L : List Rg} {ct : Int → Int} (h : cSt σ a0 I rn st L ct) (e : ∀ c j, ((41 ≤ c ∧ c ≤ 47) ∨ (c = a0 ∧ (j = 2 ∨ (8 ≤ j ∧ j ≤ 15))) ∨ (a0 + 2 ≤ c ∧ c ≤ a0 + 7)) → s c j = σ c j) : cSt s a0 I rn st L ct := by
  obtain ⟨h1, h2, h3, h4, h5, h6⟩ := h
  refine ⟨cRs_mv h1 (fun c j k => e c j (by omega)), fun i i1 i2 => (e a0 i (by omega)).trans (h2 i i1 i2), fun i i1 i2 => (e (a0 + 2) i (by omega)).trans (h3 i i1 i2), STb_mv h4 (fun c j k1 k2 => e c j (by omega)), h5, fun b => ?_⟩
  rw [rnC_mv (fun c j k1 k2 => e c j (by omega))]
  exact h6 b
/-- one region's cells are others -/
theorem cSt.set {σ s : zS} {a0 k : Nat} {I : Nat → Bool} {rn : Bx → Int} {st : Int → Int} {L : List Rg} {ct : Int → Int} {r : Rg} (ha : a0 = 48 ∨ a0 = 106) (h : cSt σ a0 I rn st L ct) (e : ∀ c j, ((41 ≤ c ∧ c ≤ 47) ∨ (c = a0 ∧ (j = 2 ∨ (8 ≤ j ∧ j ≤ 15))) ∨ c = a0 + 2 ∨ (a0 + 3 ≤ c ∧ c ≤ a0 + 7 ∧ j ≠ (k : Int))) → s c j = σ c j) (g : cRg s a0 (k : Int) r) : cSt s a0 I rn st (L.set k r) ct := by
  obtain ⟨h1, h2, h3, h4, h5, h6⟩ := h
  refine ⟨⟨?_, fun i hi => ?_⟩, fun i i1 i2 => (e a0 i (by omega)).trans (h2 i i1 i2), fun i i1 i2 => (e (a0 + 2) i (by omega)).trans (h3 i i1 i2), STb_mv h4 (fun c j k1 k2 => e c j (by omega)), h5, fun b => ?_⟩
  · rw [List.length_set]
    exact (e a0 2 (by omega)).trans h1.1
  · rw [List.length_set] at hi
    rw [List.getElem_set]
    by_cases ci : k = i
    · subst ci
      rw [if_pos rfl]
      exact g
    · rw [if_neg ci]
      have g := h1.2 i hi
      unfold cRg at *
      rw [e _ _ (by omega), e _ _ (by omega), e _ _ (by omega), e _ _ (by omega), e _ _ (by omega)]
      exact g
  · rw [rnC_mv (fun c j k1 k2 => e c j (by omega))]
    exact h6 b
/-- a counter is another -/
theorem cSt.ct {σ : zS} {a0 : Nat} {I : Nat → Bool} {rn : Bx → Int} {st : Int → Int} {L : List Rg} {ct : Int → Int} {i v : Int} (ha : a0 = 48 ∨ a0 = 106) (h : cSt σ a0 I rn st L ct) (hi : 8 ≤ i ∧ i ≤ 15) : cSt (zu σ a0 i v) a0 I rn st L (upC ct i v) := by
  obtain ⟨h1, h2, h3, h4, h5, h6⟩ := h
  refine ⟨cRs_mv h1 (fun c j k => zu_c (by omega)), fun j j1 j2 => ?_, fun j i1 i2 => (zu_a (by omega)).trans (h3 j i1 i2), STb_mv h4 (fun c j k1 k2 => zu_a (by omega)), h5, fun b => ?_⟩
  · unfold upC
    by_cases cj : j = i
    · rw [if_pos cj, zu_e cj]
    · rw [if_neg cj, zu_i cj]
      exact h2 j j1 j2
  · rw [rnC_mv (fun c j k1 k2 => zu_a (by omega))]
    exact h6 b
def csP (rn : Bx → Int) (st : Int → Int) (b : Bx) : Int := w32 (st 0 + rn b)
def wtP (rn : Bx → Int) (st : Int → Int) (lev : Int) (b : Bx) (hits : Int) : Int := wgt lev (csP rn st b) hits (1 + rn b)
def reW (rn : Bx → Int) (st : Int → Int) (lev : Int) (r : Rg) : Rg := (r.1, r.2.1, r.2.2.1, r.2.2.2.1, wtP rn st lev r.1 r.2.2.2.1)
theorem k_weigh {a0 k : Nat} {I : Nat → Bool} {rn : Bx → Int} {st : Int → Int} {L : List Rg} {ct : Int → Int} {σ : zS} (ha : a0 = 48 ∨ a0 = 106) (h : cSt σ a0 I rn st L ct) (hL : L.length ≤ 181) (hk : k < L.length) (hb : bOk L[k].1) : ∃ s, g_ca_weigh a0 (k : Int) σ = some ((), s) ∧ cSt s a0 I rn st (L.set k (reW rn st (ct 9) L[k])) ct ∧ ∀ c j, (c ≠ a0 + 7 ∨ j ≠ (k : Int)) → s c j = σ c j := by
  have g := h.1.2 k hk
  have e := c_weigh (a0 := a0) (k := (k : Int)) (σ := σ) (by omega) g.1 hb h.2.2.2.1 h.2.2.2.2.1
  rw [h.2.2.2.2.2, h.2.1 9 (by decide) (by decide), h.2.2.1 0 (by decide) (by decide), g.2.2.2.1] at e
  refine ⟨_, e, cSt.set ha h (fun c j k => zu_c (by omega)) ?_, fun c j k => zu_c k⟩
  obtain ⟨g1, g2, g3, g4, -⟩ := g
  exact ⟨(zu_a (by omega)).trans g1, (zu_a (by omega)).trans g2, (zu_a (by omega)).trans g3, (zu_a (by omega)).trans g4, zu_e rfl⟩
/-- a box is asked for -/
def askP (rn : Bx → Int) (st : Int → Int) (ct : Int → Int) (b : Bx) : Int → Int := upC (upC ct 10 (w32 (ct 10 + 1))) 11 (w32 (ct 11 + csP rn st b))
theorem k_ask {a0 : Nat} {I : Nat → Bool} {rn : Bx → Int} {st : Int → Int} {L : List Rg} {ct : Int → Int} {σ : zS} {b : Bx} (ha : a0 = 48 ∨ a0 = 106) (h : cSt σ a0 I rn st L ct) (hb : bOk b) : ∃ s, g_ca_ask a0 (enc b) σ = some ((), s) ∧ cSt s a0 I rn st L (askP rn st ct b) ∧ ∀ c j, (c ≠ a0 ∨ (j ≠ 10 ∧ j ≠ 11)) → s c j = σ c j := by
  unfold g_ca_ask
  try dsimp +instances only
  have h1 := cSt.ct (i := 10) (v := w32 (σ a0 10 + 1)) ha h (by decide)
  have e := c_costOf (a0 := a0) (b := b) hb h1.2.2.2.1 h1.2.2.2.2.1
  rw [e]
  rw [Option.bind_some]
  try dsimp +instances only
  have h2 := cSt.ct (i := 11) (v := w32 (zu σ a0 10 (w32 (σ a0 10 + 1)) a0 11 + w32 (zu σ a0 10 (w32 (σ a0 10 + 1)) (a0 + 2) 0 + rnC (zu σ a0 10 (w32 (σ a0 10 + 1))) I b))) ha h1 (by decide)
  refine ⟨_, rfl, ?_, fun c j k => by rw [zu_c (by omega), zu_c (by omega)]⟩
  have q : w32 (zu σ a0 10 (w32 (σ a0 10 + 1)) a0 11 + w32 (zu σ a0 10 (w32 (σ a0 10 + 1)) (a0 + 2) 0 + rnC (zu σ a0 10 (w32 (σ a0 10 + 1))) I b)) = w32 (ct 11 + csP rn st b) := by
    rw [h1.2.2.2.2.2, h1.2.2.1 0 (by decide) (by decide), zu_i (by decide), h.2.1 11 (by decide) (by decide)]
    rfl
  unfold askP
  rw [← h.2.1 10 (by decide) (by decide), ← q]
  exact h2
def vdB : Bx := (-5, -5, -5, -5)
def newR (rn : Bx → Int) (st : Int → Int) (ct : Int → Int) (b : Bx) : Rg := reW rn st (ct 9) (b, vdB, ct 8, 0, 0)
theorem k_addNew {a0 : Nat} {I : Nat → Bool} {rn : Bx → Int} {st : Int → Int} {L : List Rg} {ct : Int → Int} {σ : zS} {b : Bx} (ha : a0 = 48 ∨ a0 = 106) (h : cSt σ a0 I rn st L ct) (hL : L.length < 181) (hb : bOk b) : zP' (g_ca_addNew a0 (enc b) σ) (fun _ s => cSt s a0 I rn st (L ++ [newR rn st ct b]) (upC ct 8 (w32 (ct 8 + 1))) ∧ ∀ c j, (c < a0 + 3 ∨ a0 + 7 < c) → (c ≠ a0 ∨ (j ≠ 2 ∧ j ≠ 8)) → s c j = σ c j) := by
  unfold g_ca_addNew
  have P := c_addLast (b := b) (h := vdB) (hits := 0) (w := 0) h.1 hL
  have P : zP' (g_ca_addLast a0 (enc b) 0 (-1) 0 σ) _ := P
  refine zP'.bind P (fun v s p => ?_)
  obtain ⟨rfl, p1, p2, p3⟩ := p
  try dsimp +instances only
  rw [if_neg (show ¬ (1 : Int) = 0 by decide), h.2.1 8 (by decide) (by decide)] at *
  have hs : cSt s a0 I rn st (L ++ [(b, vdB, ct 8, 0, 0)]) (upC ct 8 (w32 (ct 8 + 1))) := by
    obtain ⟨-, h2, h3, h4, h5, h6⟩ := h
    refine ⟨p1, fun i i1 i2 => ?_, fun i i1 i2 => (p3 (a0 + 2) i (by omega) (by omega)).trans (h3 i i1 i2), STb_mv h4 (fun c j k1 k2 => p3 c j (by omega) (by omega)), h5, fun b => ?_⟩
    · unfold upC
      by_cases c8 : i = 8
      · rw [if_pos c8, c8]
        exact p2
      · rw [if_neg c8, p3 a0 i (by omega) (by omega)]
        exact h2 i i1 i2
    · rw [rnC_mv (fun c j k1 k2 => p3 c j (by omega) (by omega))]
      exact h6 b
  have hl : (L ++ [((b, vdB, ct 8, 0, 0) : Rg)]).length = L.length + 1 := by
    rw [List.length_append]
    rfl
  have hn : s a0 2 = (L.length : Int) + 1 := by
    rw [p1.1, hl]
    omega
  rw [hn, w32_id (x := (L.length : Int) + 1 - 1) (by omega) (by omega), show (L.length : Int) + 1 - 1 = (L.length : Int) by omega]
  have el : (L ++ [((b, vdB, ct 8, 0, 0) : Rg)])[L.length]'(by rw [hl]; omega) = (b, vdB, ct 8, 0, 0) := by
    rw [List.getElem_append_right (Nat.le_refl _)]
    simp
  obtain ⟨t, e1, e2, e3⟩ := k_weigh (k := L.length) ha hs (by rw [hl]; omega) (by rw [hl]; omega) (by rw [el]; exact hb)
  rw [e1]
  rw [Option.bind_some]
  try dsimp +instances only
  refine zP'.ret ⟨?_, fun c j k1 k2 => by rw [e3 c j (by omega), p3 c j k1 k2]⟩
  rw [el] at e2
  have eq : (L ++ [((b, vdB, ct 8, 0, 0) : Rg)]).set L.length (reW rn st (upC ct 8 (w32 (ct 8 + 1)) 9) (b, vdB, ct 8, 0, 0)) = L ++ [newR rn st ct b] := by
    rw [List.set_append_right _ _ (Nat.le_refl _), Nat.sub_self]
    rfl
  rw [eq] at e2
  exact e2
/-- a region is hit -/
def hitR (rn : Bx → Int) (st : Int → Int) (lev : Int) (c : Bx) (r : Rg) : Rg := reW rn st lev (r.1, bAro r.2.1 c, r.2.2.1, zmn 9999 (w32 (r.2.2.2.1 + 1)), r.2.2.2.2)
theorem k_hit {a0 k : Nat} {I : Nat → Bool} {rn : Bx → Int} {st : Int → Int} {L : List Rg} {ct : Int → Int} {σ : zS} {c : Bx} (ha : a0 = 48 ∨ a0 = 106) (h : cSt σ a0 I rn st L ct) (hL : L.length ≤ 181) (hk : k < L.length) (hb : bOk L[k].1) (hh : L[k].2.1.1 < 0 ∨ bOk L[k].2.1) (hc : bOk c) : zP' (g_ca_hit a0 (k : Int) (enc c) σ) (fun _ s => cSt s a0 I rn st (L.set k (hitR rn st (ct 9) c L[k])) ct ∧ ∀ x j, (x < a0 + 3 ∨ a0 + 7 < x) → s x j = σ x j) := by
  have g := h.1.2 k hk
  have gk : 0 ≤ (k : Int) ∧ (k : Int) < 181 := by omega
  obtain ⟨g1, g2, g3, g4, g5⟩ := g
  unfold g_ca_hit
  rw [if_pos gk, g4]
  try dsimp +instances only
  rw [p_min]
  rw [Option.bind_some]
  try dsimp +instances only
  rw [if_pos gk]
  rw [if_pos gk]
  generalize hv : zmn 9999 (w32 (L[k].2.2.2.1 + 1)) = hv'
  have e6 : zu σ (a0 + 5) (k : Int) hv' (a0 + 6) (k : Int) = encH L[k].2.1 := (zu_a (by omega)).trans g2
  rw [e6, ← encH_ok hc, c_around hh (Or.inr hc), if_neg hc.n]
  rw [Option.bind_some]
  try dsimp +instances only
  rw [if_pos gk]
  have hs : cSt (zu (zu σ (a0 + 5) (k : Int) hv') (a0 + 6) (k : Int) (encH (bAro L[k].2.1 c))) a0 I rn st (L.set k (L[k].1, bAro L[k].2.1 c, L[k].2.2.1, hv', L[k].2.2.2.2)) ct := by
    refine cSt.set ha h (fun x j q => by rw [zu_c (by omega), zu_c (by omega)]) ⟨?_, ?_, ?_, ?_, ?_⟩
    · rw [zu_a (by omega), zu_a (by omega)]; exact g1
    · exact zu_e rfl
    · rw [zu_a (by omega), zu_a (by omega)]; exact g3
    · rw [zu_a (by omega)]; exact zu_e rfl
    · rw [zu_a (by omega), zu_a (by omega)]; exact g5
  have hk2 : k < (L.set k (L[k].1, bAro L[k].2.1 c, L[k].2.2.1, hv', L[k].2.2.2.2)).length := by
    rw [List.length_set]
    exact hk
  have el : (L.set k (L[k].1, bAro L[k].2.1 c, L[k].2.2.1, hv', L[k].2.2.2.2))[k]'hk2 = (L[k].1, bAro L[k].2.1 c, L[k].2.2.1, hv', L[k].2.2.2.2) := by
    rw [List.getElem_set_self]
  obtain ⟨t, e1, e2, e3⟩ := k_weigh ha hs (by rw [List.length_set]; exact hL) hk2 (by rw [el]; exact hb)
  rw [e1]
  rw [Option.bind_some]
  try dsimp +instances only
  refine zP'.ret ⟨?_, fun x j q => by rw [e3 x j (by omega), zu_c (by omega), zu_c (by omega)]⟩
  rw [el, List.set_set] at e2
  unfold hitR
  rw [hv]
  exact e2
end
section
/-! 86.merge -/
/-! MERGING of the class -/
def prF (L : List Rg) (i j : Nat) : Prop := ∃ (hi : i < L.length) (hj : j < L.length), i < j ∧ bOne L[i].1 L[j].1
def isF (L : List Rg) (i j : Nat) : Prop := prF L i j ∧ ∀ a b, prF L a b → i < a ∨ (i = a ∧ j ≤ b)
def jnL (L : List Rg) (i j : Nat) (r : Rg) : List Rg := (L.set i r).eraseIdx j
def jnR (L : List Rg) (i j : Nat) : Rg := match L[i]?, L[j]? with
  | some r, some s => mJoin r s
  | _, _ => (vdB, vdB, 0, 0, 0)
theorem jnR_eq {L : List Rg} {i j : Nat} (hi : i < L.length) (hj : j < L.length) : jnR L i j = mJoin L[i] L[j] := by
  unfold jnR
  rw [List.getElem?_eq_getElem hi, List.getElem?_eq_getElem hj]
/-- merging m times, the first pair each time, until there is none -/
def MGn : Nat → List Rg → List Rg → Prop
  | 0, L, L' => (∀ a b, ¬ prF L a b) ∧ L' = L
  | m + 1, L, L' => ∃ i j, isF L i j ∧ MGn m (jnL L i j (jnR L i j)) L'
theorem isF.det {L : List Rg} {i j a b : Nat} (h1 : isF L i j) (h2 : isF L a b) : i = a ∧ j = b := by
  have k1 := h1.2 a b h2.1
  have k2 := h2.2 i j h1.1
  omega
theorem MGn.det : ∀ (m1 m2 : Nat) {L L1 L2 : List Rg}, MGn m1 L L1 → MGn m2 L L2 → m1 = m2 ∧ L1 = L2
  | 0, 0, _, _, _, h1, h2 => ⟨rfl, h1.2.trans h2.2.symm⟩
  | 0, m + 1, _, _, _, h1, h2 => by
    obtain ⟨i, j, k, -⟩ := h2
    exact absurd k.1 (h1.1 i j)
  | m + 1, 0, _, _, _, h1, h2 => by
    obtain ⟨i, j, k, -⟩ := h1
    exact absurd k.1 (h2.1 i j)
  | m1 + 1, m2 + 1, L, L1, L2, h1, h2 => by
    obtain ⟨i, j, k, g⟩ := h1
    obtain ⟨a, b, k2, g2⟩ := h2
    obtain ⟨rfl, rfl⟩ := k.det k2
    obtain ⟨e1, e2⟩ := MGn.det m1 m2 g g2
    exact ⟨by omega, e2⟩
theorem jn_len {L : List Rg} {i j : Nat} {r : Rg} (hj : j < L.length) : (jnL L i j r).length = L.length - 1 := by
  unfold jnL
  rw [List.length_eraseIdx_of_lt (by rw [List.length_set]; exact hj), List.length_set]
theorem jn_get {L : List Rg} {i j : Nat} {r : Rg} (hij : i < j) (hj : j < L.length) {b : Nat} (hb : b < (jnL L i j r).length) : (jnL L i j r)[b] = if b = i then r else L[if b < j then b else b + 1]'(by rw [jn_len hj] at hb; split <;> omega) := by
  have hl := jn_len (i := i) (r := r) hj
  unfold jnL at *
  rw [List.getElem_eraseIdx]
  by_cases c : b < j
  · simp only [c, if_true, dite_true]
    rw [List.getElem_set]
    by_cases ci : i = b
    · rw [if_pos ci, if_pos ci.symm]
    · rw [if_neg ci, if_neg (fun h => ci h.symm)]
  · simp only [c, if_false, dite_false]
    rw [List.getElem_set, if_neg (by omega), if_neg (by omega)]
/-- behind a merging the next pair begins at the earliest that joins the merged one -/
theorem jn_first {L : List Rg} {i j e : Nat} {r : Rg} (hij : i < j) (hj : j < L.length) (hF : ∀ a b, prF L a b → i ≤ a) (he : e ≤ i) (hE : ∀ a, a < e → ∀ (h1 : a < (jnL L i j r).length) (h2 : i < (jnL L i j r).length), ¬ bOne (jnL L i j r)[a].1 (jnL L i j r)[i].1) : ∀ a b, prF (jnL L i j r) a b → e ≤ a := by
  intro a b h
  refine Classical.byContradiction (fun hn => ?_)
  obtain ⟨ha, hb, hab, ho⟩ := h
  have hl := jn_len (i := i) (r := r) hj
  by_cases cb : b = i
  · subst cb
    exact hE a (by omega) ha hb ho
  · rw [jn_get hij hj ha, if_neg (by omega), jn_get hij hj hb, if_neg cb] at ho
    have la : ¬ i ≤ a := by omega
    refine la (hF a (if b < j then b else b + 1) ⟨by omega, by split <;> omega, by split <;> omega, ?_⟩)
    simp only [show a < j by omega, if_true] at ho
    exact ho
theorem k_other {a0 : Nat} {L : List Rg} (hL : L.length ≤ 181) (hb : ∀ r ∈ L, bOk r.1) {f : Nat} (hf : f < L.length) : ∀ (n k : Nat) (σ : zS), cRs σ a0 L → f < k → k ≤ L.length → (∀ j (hj : j < L.length), f < j → j < k → ¬ bOne L[f].1 L[j].1) → zP' (g_ca_otherBehind_L4 a0 n (f : Int) (k : Int) σ) (fun v s => s = σ ∧ ((v = -1 ∧ ∀ j (hj : j < L.length), f < j → ¬ bOne L[f].1 L[j].1) ∨ ∃ j : Nat, v = (j : Int) ∧ ∃ hj : j < L.length, f < j ∧ bOne L[f].1 L[j].1 ∧ ∀ j' (hj' : j' < L.length), f < j' → j' < j → ¬ bOne L[f].1 L[j'].1))
  | 0, _, _, _, _, _, _ => zP'.no
  | n + 1, k, σ, hc, h1, h2, h3 => by
    unfold g_ca_otherBehind_L4
    try dsimp +instances only
    rw [hc.1]
    by_cases ck : (L.length : Int) ≤ (k : Int)
    · rw [if_pos ck]
      exact zP'.ret ⟨rfl, Or.inl ⟨rfl, fun j hj hfj => h3 j hj hfj (by omega)⟩⟩
    · have hk : k < L.length := by omega
      rw [if_neg ck, if_pos (by omega), (hc.2 f hf).1, if_pos (by omega), (hc.2 k hk).1, c_join (hb _ (List.getElem_mem hf)) (hb _ (List.getElem_mem hk))]
      rw [Option.bind_some]
      try dsimp +instances only
      by_cases cj : bOne L[f].1 L[k].1
      · rw [if_pos cj, if_neg (show ¬ (1 : Int) = 0 by decide)]
        exact zP'.ret ⟨rfl, Or.inr ⟨k, rfl, hk, h1, cj, fun j hj a b => h3 j hj a b⟩⟩
      · rw [if_neg cj, if_pos rfl, w32_id (x := (k : Int) + 1) (by omega) (by omega), show (k : Int) + 1 = ((k + 1 : Nat) : Int) by omega]
        refine k_other hL hb hf n (k + 1) σ hc (by omega) (by omega) (fun j hj a b => ?_)
        by_cases c : j = k
        · subst c
          exact cj
        · exact h3 j hj a (by omega)
theorem k_early {a0 : Nat} {L : List Rg} (hL : L.length ≤ 181) (hb : ∀ r ∈ L, bOk r.1) {f : Nat} (hf : f < L.length) : ∀ (n k : Nat) (σ : zS), cRs σ a0 L → k ≤ f → (∀ j (hj : j < L.length), j < k → ¬ bOne L[j].1 L[f].1) → zP' (g_ca_earliestFor_L2 a0 n (f : Int) (k : Int) σ) (fun v s => s = σ ∧ ∃ e : Nat, v = (e : Int) ∧ e ≤ f ∧ ∀ j (hj : j < L.length), j < e → ¬ bOne L[j].1 L[f].1)
  | 0, _, _, _, _, _ => zP'.no
  | n + 1, k, σ, hc, h1, h3 => by
    unfold g_ca_earliestFor_L2
    try dsimp +instances only
    by_cases ck : (f : Int) ≤ (k : Int)
    · have ek : k = f := by omega
      subst ek
      rw [if_pos ck]
      exact zP'.ret ⟨rfl, k, rfl, Nat.le_refl _, h3⟩
    · have hk : k < L.length := by omega
      rw [if_neg ck, if_pos (by omega), if_pos (by omega), (hc.2 f hf).1, (hc.2 k hk).1, c_join (hb _ (List.getElem_mem hk)) (hb _ (List.getElem_mem hf))]
      rw [Option.bind_some]
      try dsimp +instances only
      by_cases cj : bOne L[k].1 L[f].1
      · rw [if_pos cj, if_neg (show ¬ (1 : Int) = 0 by decide)]
        exact zP'.ret ⟨rfl, k, rfl, h1, h3⟩
      · rw [if_neg cj, if_pos rfl, w32_id (x := (k : Int) + 1) (by omega) (by omega), show (k : Int) + 1 = ((k + 1 : Nat) : Int) by omega]
        refine k_early hL hb hf n (k + 1) σ hc (by omega) (fun j hj a => ?_)
        by_cases c : j = k
        · subst c
          exact cj
        · exact h3 j hj (by omega)
def hOk (r : Rg) : Prop := bOk r.1 ∧ (r.2.1.1 < 0 ∨ bOk r.2.1)
theorem mJoinH {r s : Rg} (h1 : hOk r) (h2 : hOk s) : hOk (mJoin r s) := by
  refine ⟨(bAro_ok h1.1 h2.1).1, ?_⟩
  show (if s.2.1.1 < 0 then r.2.1 else bAro r.2.1 s.2.1).1 < 0 ∨ bOk (if s.2.1.1 < 0 then r.2.1 else bAro r.2.1 s.2.1)
  by_cases c : s.2.1.1 < 0
  · rw [if_pos c]
    exact h1.2
  · rw [if_neg c]
    have k2 := h2.2.resolve_left c
    by_cases c1 : r.2.1.1 < 0
    · rw [bAro_neg (by omega)]
      exact Or.inr k2
    · exact Or.inr (bAro_ok (h1.2.resolve_left c1) k2).1
theorem k_into {a0 i j : Nat} {I : Nat → Bool} {rn : Bx → Int} {st : Int → Int} {L : List Rg} {ct : Int → Int} {σ : zS} (ha : a0 = 48 ∨ a0 = 106) (h : cSt σ a0 I rn st L ct) (hL : L.length ≤ 181) (hij : i < j) (hj : j < L.length) (hk : ∀ r ∈ L, hOk r) : zP' (g_ca_mergeInto a0 (i : Int) (j : Int) σ) (fun _ s => cSt s a0 I rn st (jnL L i j (jnR L i j)) (upC ct 14 (w32 (ct 14 + 1))) ∧ ∀ x y, (x < a0 + 3 ∨ a0 + 7 < x) → (x ≠ a0 ∨ (y ≠ 2 ∧ y ≠ 14)) → s x y = σ x y) := by
  have hi : i < L.length := by omega
  have gi : 0 ≤ (i : Int) ∧ (i : Int) < 181 := by omega
  have gj : 0 ≤ (j : Int) ∧ (j : Int) < 181 := by omega
  obtain ⟨p1, p2, p3, p4, p5⟩ := h.1.2 i hi
  obtain ⟨q1, q2, q3, q4, q5⟩ := h.1.2 j hj
  have oi := hk _ (List.getElem_mem hi)
  have oj := hk _ (List.getElem_mem hj)
  have hne : ¬ (j : Int) = (i : Int) := by omega
  unfold g_ca_mergeInto
  rw [if_pos gi, if_pos gj, p1, q1]
  try dsimp +instances only
  have ea := c_around (σ := σ) (Or.inr oi.1) (Or.inr oj.1)
  rw [encH_ok oi.1, encH_ok oj.1, if_neg oj.1.n, encH_ok (bAro_ok oi.1 oj.1).1] at ea
  rw [ea]
  rw [Option.bind_some]
  try dsimp +instances only
  generalize hs1 : zu σ (a0 + 4) (i : Int) (enc (bAro L[i].1 L[j].1)) = s1
  have o1 : ∀ c y, (c ≠ a0 + 4 ∨ y ≠ (i : Int)) → s1 c y = σ c y := fun c y k => by rw [← hs1]; exact zu_c k
  rw [if_pos gi]
  rw [if_pos gi]
  rw [if_pos gj, o1 (a0 + 5) (i : Int) (by omega), o1 (a0 + 5) (j : Int) (by omega), p4, q4, p_min]
  rw [Option.bind_some]
  try dsimp +instances only
  generalize hs2 : zu s1 (a0 + 5) (i : Int) (zmn 9999 (w32 (L[i].2.2.2.1 + L[j].2.2.2.1))) = s2
  have o2 : ∀ c y, (c ≠ a0 + 4 ∨ y ≠ (i : Int)) → (c ≠ a0 + 5 ∨ y ≠ (i : Int)) → s2 c y = σ c y := fun c y k k2 => by rw [← hs2]; exact (zu_c k2).trans (o1 c y k)
  rw [if_pos gi]
  rw [if_pos gi]
  rw [if_pos gj, o2 (a0 + 6) (i : Int) (by omega) (by omega), o2 (a0 + 6) (j : Int) (by omega) (by omega), p2, q2, c_around oi.2 oj.2]
  rw [Option.bind_some]
  try dsimp +instances only
  generalize hs3 : zu s2 (a0 + 6) (i : Int) (encH (if L[j].2.1.1 < 0 then L[i].2.1 else bAro L[i].2.1 L[j].2.1)) = s3
  have o3 : ∀ c y, (c ≠ a0 + 4 ∨ y ≠ (i : Int)) → (c ≠ a0 + 5 ∨ y ≠ (i : Int)) → (c ≠ a0 + 6 ∨ y ≠ (i : Int)) → s3 c y = σ c y := fun c y k k2 k3 => by rw [← hs3]; exact (zu_c k3).trans (o2 c y k k2)
  rw [if_pos gi]
  rw [if_pos gi]
  rw [if_pos gj, o3 (a0 + 7) (i : Int) (by omega) (by omega) (by omega), o3 (a0 + 7) (j : Int) (by omega) (by omega) (by omega), p5, q5, p_maxL]
  rw [Option.bind_some]
  try dsimp +instances only
  rw [if_pos gi]
  generalize hs4 : zu s3 (a0 + 7) (i : Int) (if L[i].2.2.2.2 < L[j].2.2.2.2 then L[j].2.2.2.2 else L[i].2.2.2.2) = s4
  have o4 : ∀ c y, (c < a0 + 4 ∨ a0 + 7 < c ∨ y ≠ (i : Int)) → s4 c y = σ c y := fun c y k => by rw [← hs4]; exact (zu_c (by omega)).trans (o3 c y (by omega) (by omega) (by omega))
  have h4 : cSt s4 a0 I rn st (L.set i (jnR L i j)) ct := by
    refine cSt.set ha h (fun c y k => o4 c y (by omega)) ?_
    rw [jnR_eq hi hj]
    refine ⟨?_, ?_, ?_, ?_, ?_⟩
    · rw [← hs4, zu_a (by omega), ← hs3, zu_a (by omega), ← hs2, zu_a (by omega), ← hs1]
      exact zu_e rfl
    · rw [← hs4, zu_a (by omega), ← hs3]
      exact zu_e rfl
    · rw [o4 (a0 + 3) (i : Int) (by omega)]
      exact p3
    · rw [← hs4, zu_a (by omega), ← hs3, zu_a (by omega), ← hs2]
      exact zu_e rfl
    · rw [← hs4]
      exact zu_e rfl
  refine zP'.bind (c_remove h4.1 (by rw [List.length_set]; exact hL) (show j < (L.set i (jnR L i j)).length by rw [List.length_set]; exact hj)) (fun _ s5 p => ?_)
  obtain ⟨r1, r2⟩ := p
  try dsimp +instances only
  have h5 : cSt s5 a0 I rn st (jnL L i j (jnR L i j)) ct := by
    obtain ⟨-, k2, k3, k4, k5, k6⟩ := h4
    refine ⟨r1, fun y y1 y2 => (r2 a0 y (by omega) (by omega)).trans (k2 y y1 y2), fun y y1 y2 => (r2 (a0 + 2) y (by omega) (by omega)).trans (k3 y y1 y2), STb_mv k4 (fun c y k1 k2 => r2 c y (by omega) (by omega)), k5, fun b => ?_⟩
    rw [rnC_mv (fun c y k1 k2 => r2 c y (by omega) (by omega))]
    exact k6 b
  have h6 := cSt.ct (i := 14) (v := w32 (s5 a0 14 + 1)) ha h5 (by decide)
  rw [h5.2.1 14 (by decide) (by decide)] at h6 ⊢
  exact zP'.ret ⟨h6, fun x y k1 k2 => by rw [zu_c (by omega), r2 x y k1 (by omega), o4 x y (by omega)]⟩
/-- so many times one more -/
def bmp : Nat → Int → Int
  | 0, x => x
  | m + 1, x => bmp m (w32 (x + 1))
theorem k_merge17 {a0 : Nat} {I : Nat → Bool} {rn : Bx → Int} {st : Int → Int} (ha : a0 = 48 ∨ a0 = 106) : ∀ (n f : Nat) (t : Int) (L : List Rg) (ct : Int → Int) (σ : zS), cSt σ a0 I rn st L ct → L.length ≤ 181 → (∀ r ∈ L, hOk r) → f ≤ L.length → (∀ a b, prF L a b → f ≤ a) → (L.length : Int) * 182 + ((L.length : Int) - (f : Int)) < t → t < 2147483648 → zP' (g_ca_merge_L17 a0 n (f : Int) t σ) (fun _ s => ∃ m L', MGn m L L' ∧ (∀ r ∈ L', hOk r) ∧ L'.length ≤ L.length ∧ cSt s a0 I rn st L' (upC ct 14 (bmp m (ct 14))) ∧ ∀ x y, (x < a0 + 3 ∨ a0 + 7 < x) → (x ≠ a0 ∨ (y ≠ 2 ∧ y ≠ 14)) → s x y = σ x y)
  | 0, _, _, _, _, _, _, _, _, _, _, _, _ => zP'.no
  | n + 1, f, t, L, ct, σ, h, hL, hk, hf, hF, ht, ht2 => by
    unfold g_ca_merge_L17
    have up0 : ∀ x : Int, upC ct 14 (bmp 0 (ct 14)) x = ct x := fun x => by
      unfold upC bmp
      by_cases c : x = 14
      · rw [if_pos c, c]
      · rw [if_neg c]
    rw [if_neg (by omega)]
    try dsimp +instances only
    rw [h.1.1]
    by_cases cf : (L.length : Int) ≤ (f : Int)
    · rw [if_pos cf]
      refine zP'.ret ⟨0, L, ⟨fun a b hp => ?_, rfl⟩, hk, Nat.le_refl _, ?_, fun _ _ _ _ => rfl⟩
      · have := hF a b hp
        obtain ⟨h1, -⟩ := hp
        omega
      · rw [show upC ct 14 (bmp 0 (ct 14)) = ct from funext up0]
        exact h
    · have hfl : f < L.length := by omega
      rw [if_neg cf]
      unfold g_ca_otherBehind
      rw [w32_id (x := (f : Int) + 1) (by omega) (by omega), show (f : Int) + 1 = ((f + 1 : Nat) : Int) by omega]
      refine zP'.bind (k_other hL (fun r hr => (hk r hr).1) hfl zK (f + 1) σ h.1 (by omega) (by omega) (fun j hj a b => absurd b (by omega))) (fun v s p => ?_)
      obtain ⟨rfl, p⟩ := p
      try dsimp +instances only
      unfold g_ca_merge_L57
      rw [w32_id (x := t - 1) (by omega) (by omega)]
      rcases p with ⟨rfl, p⟩ | ⟨j, rfl, hj, hfj, hb, hlo⟩
      · rw [if_neg (by decide)]
        try rw [w32_id (x := ((f + 1 : Nat) : Int)) (by omega) (by omega)]
        refine k_merge17 ha n (f + 1) (t - 1) L ct s h hL hk (by omega) (fun a b hp => ?_) (by omega) (by omega)
        have h1 := hF a b hp
        by_cases ca : a = f
        · subst ca
          obtain ⟨k1, k2, k3, k4⟩ := hp
          exact absurd k4 (p b k2 k3)
        · omega
      · rw [if_pos (by omega)]
        have first : isF L f j := ⟨⟨hfl, hj, hfj, hb⟩, fun a b hp => by
          have h1 := hF a b hp
          by_cases ca : f = a
          · subst ca
            obtain ⟨k1, k2, k3, k4⟩ := hp
            refine Or.inr ⟨rfl, Classical.byContradiction (fun hn => hlo b k2 k3 (by omega) k4)⟩
          · exact Or.inl (by omega)⟩
        refine zP'.bind (k_into ha h hL hfj hj hk) (fun _ s1 p1 => ?_)
        obtain ⟨h1, o1⟩ := p1
        try dsimp +instances only
        have hl := jn_len (i := f) (r := jnR L f j) hj
        have hk1 : ∀ r ∈ jnL L f j (jnR L f j), hOk r := fun r hr => by
          unfold jnL at hr
          rcases List.mem_or_eq_of_mem_set (List.mem_of_mem_eraseIdx hr) with h | h
          · exact hk r h
          · rw [h, jnR_eq hfl hj]
            exact mJoinH (hk _ (List.getElem_mem hfl)) (hk _ (List.getElem_mem hj))
        have hf1 : f < (jnL L f j (jnR L f j)).length := by omega
        unfold g_ca_earliestFor
        refine zP'.bind (k_early (by omega) (fun r hr => (hk1 r hr).1) hf1 zK 0 s1 h1.1 (Nat.zero_le _) (fun j hj a => absurd a (Nat.not_lt_zero _))) (fun v s2 p2 => ?_)
        obtain ⟨rfl, e, rfl, he, hE⟩ := p2
        try dsimp +instances only
        refine (k_merge17 ha n e (t - 1) _ _ s2 h1 (by omega) hk1 (by omega) (jn_first hfj hj hF he (fun a h1 h2 _ => hE a h2 h1)) (by omega) (by omega)).imp (fun _ s3 p3 => ?_)
        obtain ⟨m, L', g1, g2, g3, g4, g5⟩ := p3
        refine ⟨m + 1, L', ⟨f, j, first, g1⟩, g2, by omega, ?_, fun x y k1 k2 => (g5 x y k1 k2).trans (o1 x y k1 k2)⟩
        have e14 : upC (upC ct 14 (w32 (ct 14 + 1))) 14 (bmp m (upC ct 14 (w32 (ct 14 + 1)) 14)) = upC ct 14 (bmp (m + 1) (ct 14)) := by
          funext x
          unfold upC
          by_cases c : x = 14
          · rw [if_pos c, if_pos c, if_pos rfl]
            rfl
          · rw [if_neg c, if_neg c, if_neg c]
        rw [← e14]
        exact g4
end
section
/-! 87.trim -/
/-! TRIMMING of the class -/
def szP (rn : Bx → Int) : List Rg → Int
  | [] => 0
  | r :: L => (1 + rn r.1) + szP rn L
def tooM (rn : Bx → Int) (st : Int → Int) (L : List Rg) : Prop := st 2 < (L.length : Int) ∨ st 1 < szP rn L
def isLt (L : List Rg) (l : Nat) : Prop := ∃ h : l < L.length, ∀ k (hk : k < L.length), L[l].2.2.2.2 < L[k].2.2.2.2 ∨ (L[l].2.2.2.2 = L[k].2.2.2.2 ∧ l ≤ k)
def rgD (L : List Rg) (l : Nat) : Rg := match L[l]? with
  | some r => r
  | none => (vdB, vdB, 0, 0, 0)
theorem rgD_eq {L : List Rg} {l : Nat} (h : l < L.length) : rgD L l = L[l] := by
  unfold rgD
  rw [List.getElem?_eq_getElem h]
def lvP (ct : Int → Int) (w : Int) : Int → Int := upC ct 9 (if ct 9 < w then w else ct 9)
abbrev canS (st : Int → Int) (r : Rg) : Prop := st 5 ≠ 0 ∧ 0 ≤ r.2.1.1 ∧ bArea r.2.1 < bArea r.1
def shR (rn : Bx → Int) (st : Int → Int) (lev : Int) (r : Rg) : Rg := reW rn st lev (r.2.1, vdB, r.2.2.1, w32 (Int.tdiv r.2.2.2.1 2), r.2.2.2.2)
def gvP (rn : Bx → Int) (st : Int → Int) (X : List Rg × (Int → Int)) (l : Nat) : List Rg × (Int → Int) :=
  if canS st (rgD X.1 l) then (X.1.set l (shR rn st (lvP X.2 (rgD X.1 l).2.2.2.2 9) (rgD X.1 l)), upC (lvP X.2 (rgD X.1 l).2.2.2.2) 13 (w32 (X.2 13 + 1)))
  else (X.1.eraseIdx l, upC (lvP X.2 (rgD X.1 l).2.2.2.2) 12 (w32 (X.2 12 + 1)))
def TMn (rn : Bx → Int) (st : Int → Int) : Nat → List Rg × (Int → Int) → List Rg × (Int → Int) → Prop
  | 0, X, Y => ¬ tooM rn st X.1 ∧ Y = X
  | m + 1, X, Y => tooM rn st X.1 ∧ ∃ l, isLt X.1 l ∧ TMn rn st m (gvP rn st X l) Y
theorem isLt.det {L : List Rg} {a b : Nat} (h1 : isLt L a) (h2 : isLt L b) : a = b := by
  obtain ⟨p, p2⟩ := h1
  obtain ⟨q, q2⟩ := h2
  have k1 := p2 b q
  have k2 := q2 a p
  omega
theorem TMn.det {rn : Bx → Int} {st : Int → Int} : ∀ (m1 m2 : Nat) {X Y1 Y2 : List Rg × (Int → Int)}, TMn rn st m1 X Y1 → TMn rn st m2 X Y2 → Y1 = Y2
  | 0, 0, _, _, _, h1, h2 => h1.2.trans h2.2.symm
  | 0, m + 1, _, _, _, h1, h2 => absurd h2.1 h1.1
  | m + 1, 0, _, _, _, h1, h2 => absurd h1.1 h2.1
  | m1 + 1, m2 + 1, _, _, _, h1, h2 => by
    obtain ⟨-, a, k, g⟩ := h1
    obtain ⟨-, b, k2, g2⟩ := h2
    obtain rfl := k.det k2
    exact TMn.det m1 m2 g g2
theorem szP_bd {rn : Bx → Int} (h : ∀ b, 0 ≤ rn b ∧ rn b ≤ 60) : ∀ L : List Rg, (L.length : Int) ≤ szP rn L ∧ szP rn L ≤ 61 * (L.length : Int)
  | [] => ⟨Int.le_refl _, Int.le_refl _⟩
  | r :: L => by
    have ih := szP_bd h L
    have hr := h r.1
    rw [List.length_cons]
    show _ ≤ (1 + rn r.1) + szP rn L ∧ (1 + rn r.1) + szP rn L ≤ _
    omega
theorem szP_take {rn : Bx → Int} : ∀ (L : List Rg) (k : Nat) (hk : k < L.length), szP rn (L.take (k + 1)) = szP rn (L.take k) + (1 + rn L[k].1)
  | r :: L, 0, _ => by
    show (1 + rn r.1) + szP rn (L.take 0) = 0 + (1 + rn r.1)
    rw [List.take_zero]
    show (1 + rn r.1) + 0 = _
    omega
  | r :: L, k + 1, hk => by
    have hk' : k < L.length := by rw [List.length_cons] at hk; omega
    have ih := szP_take (rn := rn) L k hk'
    show (1 + rn r.1) + szP rn (L.take (k + 1)) = (1 + rn r.1) + szP rn (L.take k) + (1 + rn L[k].1)
    rw [ih]
    omega
theorem k_sizes7 {a0 : Nat} {I : Nat → Bool} {rn : Bx → Int} {st : Int → Int} {L : List Rg} {ct : Int → Int} (hL : L.length ≤ 181) (hb : ∀ r ∈ L, bOk r.1) : ∀ (n k : Nat) (x : Int) (σ : zS), cSt σ a0 I rn st L ct → k ≤ L.length → x = (L.length : Int) + (szP rn (L.take k) - (k : Int)) → zP' (g_ca_sizes_L7 a0 n x (k : Int) σ) (fun v s => s = σ ∧ v = szP rn L)
  | 0, _, _, _, _, _, _ => zP'.no
  | n + 1, k, x, σ, h, hk, hx => by
    unfold g_ca_sizes_L7
    try dsimp +instances only
    rw [h.1.1]
    have rb : ∀ b, 0 ≤ rn b ∧ rn b ≤ 60 := fun b => by
      rw [← h.2.2.2.2.2 b]
      exact rnC_bd
    by_cases ck : (L.length : Int) ≤ (k : Int)
    · rw [if_pos ck]
      refine zP'.ret ⟨rfl, ?_⟩
      rw [hx, List.take_of_length_le (by omega)]
      omega
    · have hk' : k < L.length := by omega
      rw [if_neg ck, if_pos (by omega), (h.1.2 k hk').1]
      obtain ⟨v, e1, e2⟩ := p_rc (σ := σ) h.2.2.2.1 h.2.2.2.2.1 (hb _ (List.getElem_mem hk'))
      rw [e1]
      rw [Option.bind_some]
      try dsimp +instances only
      rw [e2]
      rw [Option.bind_some]
      try dsimp +instances only
      have t1 := szP_take (rn := rn) L k hk'
      have b1 := szP_bd rb (L.take k)
      have bk := rb L[k].1
      have lt : (L.take k).length = k := by rw [List.length_take]; omega
      rw [lt] at b1
      rw [h.2.2.2.2.2, w32_id (x := x + rn L[k].1) (by omega) (by omega), w32_id (x := (k : Int) + 1) (by omega) (by omega), show (k : Int) + 1 = ((k + 1 : Nat) : Int) by omega]
      exact k_sizes7 hL hb n (k + 1) _ σ h (by omega) (by rw [t1]; omega)
theorem k_tooMuch {a0 : Nat} {I : Nat → Bool} {rn : Bx → Int} {st : Int → Int} {L : List Rg} {ct : Int → Int} {σ : zS} (h : cSt σ a0 I rn st L ct) (hL : L.length ≤ 181) (hb : ∀ r ∈ L, bOk r.1) : zP' (g_ca_isTooMuch a0 σ) (fun v s => s = σ ∧ (v ≠ 0 ↔ tooM rn st L)) := by
  unfold g_ca_isTooMuch tooM
  try dsimp +instances only
  rw [p_seOf (by decide)]
  rw [Option.bind_some]
  try dsimp +instances only
  have e2 : σ (a0 + 1 + 1) 2 = st 2 := h.2.2.1 2 (by decide) (by decide)
  have e1 : σ (a0 + 1 + 1) 1 = st 1 := h.2.2.1 1 (by decide) (by decide)
  rw [e2, h.1.1]
  by_cases c : st 2 < (L.length : Int)
  · rw [if_pos c]
    exact zP'.ret ⟨rfl, ⟨fun _ => Or.inl c, fun _ => by decide⟩⟩
  · rw [if_neg c]
    unfold g_ca_sizes
    try dsimp +instances only
    rw [h.1.1]
    refine zP'.bind (k_sizes7 hL hb zK 0 _ σ h (Nat.zero_le _) (by
      rw [List.take_zero]
      show _ = (L.length : Int) + (0 - 0)
      omega)) (fun v s p => ?_)
    obtain ⟨rfl, rfl⟩ := p
    try dsimp +instances only
    rw [p_seOf (by decide)]
    rw [Option.bind_some]
    try dsimp +instances only
    rw [e1]
    by_cases c2 : szP rn L ≤ st 1
    · rw [if_pos c2]
      exact zP'.ret ⟨rfl, ⟨fun k => absurd rfl k, fun k => by omega⟩⟩
    · rw [if_neg c2]
      exact zP'.ret ⟨rfl, ⟨fun _ => Or.inr (by omega), fun _ => by decide⟩⟩
theorem k_light4 {a0 : Nat} {L : List Rg} (hL : L.length ≤ 181) : ∀ (n l k : Nat) (σ : zS), cRs σ a0 L → (hl : l < L.length) → l < k → k ≤ L.length → (∀ j (hj : j < L.length), j < k → L[l].2.2.2.2 < L[j].2.2.2.2 ∨ (L[l].2.2.2.2 = L[j].2.2.2.2 ∧ l ≤ j)) → zP' (g_ca_lightest_L4 a0 n (l : Int) (k : Int) σ) (fun v s => s = σ ∧ ∃ l' : Nat, v = (l' : Int) ∧ isLt L l')
  | 0, _, _, _, _, _, _, _, _ => zP'.no
  | n + 1, l, k, σ, h, hl, h1, h2, h3 => by
    unfold g_ca_lightest_L4
    try dsimp +instances only
    rw [h.1]
    by_cases ck : (L.length : Int) ≤ (k : Int)
    · rw [if_pos ck]
      exact zP'.ret ⟨rfl, l, rfl, hl, fun j hj => h3 j hj (by omega)⟩
    · have hk : k < L.length := by omega
      obtain ⟨-, -, -, -, w1⟩ := h.2 k hk
      obtain ⟨-, -, -, -, w2⟩ := h.2 l hl
      rw [if_neg ck, if_pos (by omega), if_pos (by omega), w1, w2]
      unfold g_ca_lightest_L30
      rw [w32_id (x := (k : Int) + 1) (by omega) (by omega), show (k : Int) + 1 = ((k + 1 : Nat) : Int) by omega]
      by_cases c : L[k].2.2.2.2 < L[l].2.2.2.2
      · rw [if_neg (fun hh => lCmp_0.mp hh c)]
        refine k_light4 hL n k (k + 1) σ h hk (by omega) (by omega) (fun j hj hjk => ?_)
        by_cases cj : j = k
        · subst cj
          exact Or.inr ⟨rfl, Nat.le_refl _⟩
        · have := h3 j hj (by omega)
          exact Or.inl (by omega)
      · rw [if_pos (lCmp_0.mpr c)]
        refine k_light4 hL n l (k + 1) σ h hl (by omega) (by omega) (fun j hj hjk => ?_)
        by_cases cj : j = k
        · subst cj
          by_cases ce : L[l].2.2.2.2 = L[j].2.2.2.2
          · exact Or.inr ⟨ce, by omega⟩
          · exact Or.inl (by omega)
        · exact h3 j hj (by omega)
end
section
/-! 88.trim2 -/
/-! TRIMMING of the class: the lightest region gives way, until it is not too much -/
theorem cSt.rem {σ s : zS} {a0 k : Nat} {I : Nat → Bool} {rn : Bx → Int} {st : Int → Int} {L : List Rg} {ct : Int → Int} (ha : a0 = 48 ∨ a0 = 106) (h : cSt σ a0 I rn st L ct) (p : cRs s a0 (L.eraseIdx k) ∧ ∀ b j, (b < a0 + 3 ∨ a0 + 7 < b) → (b ≠ a0 ∨ j ≠ 2) → s b j = σ b j) : cSt s a0 I rn st (L.eraseIdx k) ct := by
  obtain ⟨r1, r2⟩ := p
  obtain ⟨-, k2, k3, k4, k5, k6⟩ := h
  refine ⟨r1, fun y y1 y2 => (r2 a0 y (by omega) (by omega)).trans (k2 y y1 y2), fun y y1 y2 => (r2 (a0 + 2) y (by omega) (by omega)).trans (k3 y y1 y2), STb_mv k4 (fun c y k1 k2 => r2 c y (by omega) (by omega)), k5, fun b => ?_⟩
  rw [rnC_mv (fun c y k1 k2 => r2 c y (by omega) (by omega))]
  exact k6 b
def frCa (a0 : Nat) (σ s : zS) : Prop := ∀ x y, (x < a0 ∨ a0 + 11 < x ∨ (x = a0 ∧ y ≠ 2 ∧ (y < 8 ∨ 15 < y)) ∨ x = a0 + 1 ∨ x = a0 + 2) → s x y = σ x y
theorem frCa.refl (a0 : Nat) (σ : zS) : frCa a0 σ σ := fun _ _ _ => rfl
theorem frCa.trans {a0 : Nat} {σ s t : zS} (h1 : frCa a0 σ s) (h2 : frCa a0 s t) : frCa a0 σ t := fun x y k => (h2 x y k).trans (h1 x y k)
theorem k_give69 {a0 l : Nat} {I : Nat → Bool} {rn : Bx → Int} {st : Int → Int} {L : List Rg} {ct : Int → Int} {σ : zS} (ha : a0 = 48 ∨ a0 = 106) (h : cSt σ a0 I rn st L ct) (hL : L.length ≤ 181) (hl : l < L.length) : zP' (g_ca_giveUp_L69 a0 (l : Int) σ) (fun _ s => cSt s a0 I rn st (L.eraseIdx l) (upC ct 12 (w32 (ct 12 + 1))) ∧ frCa a0 σ s) := by
  unfold g_ca_giveUp_L69
  refine zP'.bind (c_remove h.1 hL hl) (fun _ s p => ?_)
  try dsimp +instances only
  have h5 := cSt.rem ha h p
  have h6 := cSt.ct (i := 12) (v := w32 (s a0 12 + 1)) ha h5 (by decide)
  rw [h5.2.1 12 (by decide) (by decide)] at h6 ⊢
  exact zP'.ret ⟨h6, fun x y k => by rw [zu_c (by omega), p.2 x y (by omega) (by omega)]⟩
theorem k_giveUp {a0 l : Nat} {I : Nat → Bool} {rn : Bx → Int} {st : Int → Int} {L : List Rg} {ct : Int → Int} {σ : zS} (ha : a0 = 48 ∨ a0 = 106) (h : cSt σ a0 I rn st L ct) (hL : L.length ≤ 181) (hl : l < L.length) (ok : hOk L[l]) : zP' (g_ca_giveUp a0 (l : Int) σ) (fun _ s => cSt s a0 I rn st (gvP rn st (L, ct) l).1 (gvP rn st (L, ct) l).2 ∧ frCa a0 σ s) := by
  obtain ⟨g1, g2, g3, g4, g5⟩ := h.1.2 l hl
  have gl : 0 ≤ (l : Int) ∧ (l : Int) < 181 := by omega
  unfold g_ca_giveUp
  try dsimp +instances only
  rw [if_pos gl, h.2.1 9 (by decide) (by decide), g5, p_maxL]
  rw [Option.bind_some]
  try dsimp +instances only
  have h1 := cSt.ct (i := 9) (v := if ct 9 < L[l].2.2.2.2 then L[l].2.2.2.2 else ct 9) ha h (by decide)
  have f1 : frCa a0 σ (zu σ a0 9 (if ct 9 < L[l].2.2.2.2 then L[l].2.2.2.2 else ct 9)) := fun x y k => zu_c (by omega)
  have elv : upC ct 9 (if ct 9 < L[l].2.2.2.2 then L[l].2.2.2.2 else ct 9) = lvP ct L[l].2.2.2.2 := rfl
  rw [elv] at h1
  generalize zu σ a0 9 (if ct 9 < L[l].2.2.2.2 then L[l].2.2.2.2 else ct 9) = s1 at h1 f1
  obtain ⟨q1, q2, q3, q4, q5⟩ := h1.1.2 l hl
  have es : s1 (a0 + 1 + 1) 5 = st 5 := h1.2.2.1 5 (by decide) (by decide)
  have gone : ¬ canS st L[l] → zP' (g_ca_giveUp_L69 a0 (l : Int) s1) (fun _ s => cSt s a0 I rn st (gvP rn st (L, ct) l).1 (gvP rn st (L, ct) l).2 ∧ frCa a0 σ s) := fun hn => by
    have e12 : lvP ct L[l].2.2.2.2 12 = ct 12 := rfl
    refine (k_give69 ha h1 hL hl).imp (fun _ s p => ⟨?_, f1.trans p.2⟩)
    unfold gvP
    rw [rgD_eq (L := (L, ct).1) hl, if_neg hn]
    rw [e12] at p
    exact p.1
  have r53 : ∀ x : Int, (x ≠ 0 ↔ (0 ≤ L[l].2.1.1 ∧ bArea L[l].2.1 < bArea L[l].1)) → zP' (g_ca_giveUp_L53 a0 (l : Int) x s1) (fun _ s => cSt s a0 I rn st (gvP rn st (L, ct) l).1 (gvP rn st (L, ct) l).2 ∧ frCa a0 σ s) := fun x hx => by
    unfold g_ca_giveUp_L53
    rw [p_seOf (by decide)]
    rw [Option.bind_some]
    try dsimp +instances only
    rw [es]
    by_cases c5 : st 5 = 0
    · rw [if_pos c5]
      exact gone (fun k => k.1 c5)
    · rw [if_neg c5]
      by_cases cx : x ≠ 0
      · have hx := hx.mp cx
        have hot := ok.2.resolve_left (by omega)
        rw [if_pos cx]
        rw [if_pos gl]
        rw [if_pos gl]
        rw [if_pos gl]
        rw [if_pos gl]
        rw [if_pos gl]
        rw [q2, encH_ok hot]
        generalize hs2 : zu s1 (a0 + 4) (l : Int) (enc L[l].2.1) = s2
        generalize hs3 : zu s2 (a0 + 6) (l : Int) (-1) = s3
        have o3 : ∀ c y, (c ≠ a0 + 4 ∨ y ≠ (l : Int)) → (c ≠ a0 + 6 ∨ y ≠ (l : Int)) → s3 c y = s1 c y := fun c y k k2 => by rw [← hs3, zu_c k2, ← hs2, zu_c k]
        rw [o3 (a0 + 5) (l : Int) (by omega) (by omega), q4]
        generalize hs4 : zu s3 (a0 + 5) (l : Int) (w32 (Int.tdiv L[l].2.2.2.1 2)) = s4
        have o4 : ∀ c y, (c < a0 + 4 ∨ a0 + 6 < c ∨ y ≠ (l : Int)) → s4 c y = s1 c y := fun c y k => by rw [← hs4, zu_c (by omega), o3 c y (by omega) (by omega)]
        have h4 : cSt s4 a0 I rn st (L.set l (L[l].2.1, vdB, L[l].2.2.1, w32 (Int.tdiv L[l].2.2.2.1 2), L[l].2.2.2.2)) (lvP ct L[l].2.2.2.2) := by
          refine cSt.set ha h1 (fun c y k => o4 c y (by omega)) ⟨?_, ?_, ?_, ?_, ?_⟩
          · rw [← hs4, zu_a (by omega), ← hs3, zu_a (by omega), ← hs2]
            exact zu_e rfl
          · rw [← hs4, zu_a (by omega), ← hs3]
            exact zu_e rfl
          · rw [o4 (a0 + 3) (l : Int) (by omega)]
            exact q3
          · rw [← hs4]
            exact zu_e rfl
          · rw [o4 (a0 + 7) (l : Int) (by omega)]
            exact q5
        have hl2 : l < (L.set l (L[l].2.1, vdB, L[l].2.2.1, w32 (Int.tdiv L[l].2.2.2.1 2), L[l].2.2.2.2)).length := by
          rw [List.length_set]
          exact hl
        have el : (L.set l (L[l].2.1, vdB, L[l].2.2.1, w32 (Int.tdiv L[l].2.2.2.1 2), L[l].2.2.2.2))[l]'hl2 = (L[l].2.1, vdB, L[l].2.2.1, w32 (Int.tdiv L[l].2.2.2.1 2), L[l].2.2.2.2) := by
          rw [List.getElem_set_self]
        obtain ⟨t, e1, e2, e3⟩ := k_weigh ha h4 (by rw [List.length_set]; exact hL) hl2 (by rw [el]; exact hot)
        rw [e1]
        rw [Option.bind_some]
        try dsimp +instances only
        rw [el, List.set_set] at e2
        have h6 := cSt.ct (i := 13) (v := w32 (t a0 13 + 1)) ha e2 (by decide)
        rw [e2.2.1 13 (by decide) (by decide)] at h6 ⊢
        refine zP'.ret ⟨?_, fun x y k => by rw [zu_c (by omega), e3 x y (by omega), o4 x y (by omega), f1 x y k]⟩
        unfold gvP
        rw [rgD_eq (L := (L, ct).1) hl, if_pos (show canS st L[l] from ⟨c5, hx⟩)]
        exact h6
      · rw [if_neg cx]
        exact gone (fun k => cx (hx.mpr k.2))
  rw [if_pos gl, q2]
  by_cases cv : L[l].2.1.1 < 0
  · have e : encH L[l].2.1 = -1 := if_pos cv
    rw [e, if_pos rfl]
    unfold g_ca_giveUp_L52
    exact r53 0 ⟨fun k => absurd rfl k, fun k => by omega⟩
  · have hot := ok.2.resolve_left cv
    rw [encH_ok hot, if_neg (enc_ne hot), if_pos gl, c_area hot]
    rw [Option.bind_some]
    try dsimp +instances only
    rw [if_pos gl, q1, c_area ok.1]
    rw [Option.bind_some]
    try dsimp +instances only
    by_cases c : bArea L[l].1 ≤ bArea L[l].2.1
    · rw [if_pos c]
      unfold g_ca_giveUp_L52
      exact r53 0 ⟨fun k => absurd rfl k, fun k => by omega⟩
    · rw [if_neg c]
      exact r53 1 ⟨fun _ => by omega, fun _ => by decide⟩
def hv1 (r : Rg) : Int := if r.2.1.1 < 0 then 0 else 1
theorem hv1_bd (r : Rg) : 0 ≤ hv1 r ∧ hv1 r ≤ 1 := by
  unfold hv1
  by_cases c : r.2.1.1 < 0
  · rw [if_pos c]; decide
  · rw [if_neg c]; decide
def hotN : List Rg → Int
  | [] => 0
  | r :: L => hv1 r + hotN L
theorem hotN_bd : ∀ L : List Rg, 0 ≤ hotN L ∧ hotN L ≤ (L.length : Int)
  | [] => ⟨Int.le_refl _, Int.le_refl _⟩
  | r :: L => by
    have ih := hotN_bd L
    have hr := hv1_bd r
    rw [List.length_cons]
    show 0 ≤ hv1 r + hotN L ∧ hv1 r + hotN L ≤ _
    omega
theorem hotN_c (x : Rg) (L : List Rg) : hotN (x :: L) = hv1 x + hotN L := rfl
theorem hotN_z (x r : Rg) (L : List Rg) : hotN (r :: L) = hotN (x :: L) + hv1 r - hv1 x := by
  rw [hotN_c, hotN_c]
  generalize hv1 r = a
  generalize hv1 x = b
  generalize hotN L = c
  omega
theorem hotN_i {a b c d e : Int} (h : a = b + c - d) : e + a = e + b + c - d := by omega
theorem hotN_set (r : Rg) (L : List Rg) : ∀ (l : Nat) (hl : l < L.length), hotN (L.set l r) = hotN L + hv1 r - hv1 (rgD L l) := by
  induction L with
  | nil => exact fun l hl => absurd hl (Nat.not_lt_zero _)
  | cons x L ih =>
    intro l hl
    cases l with
    | zero => exact hotN_z x r L
    | succ l => exact hotN_i (e := hv1 x) (ih l (by rw [List.length_cons] at hl; omega))
theorem hotN_er : ∀ (L : List Rg) (l : Nat), hotN (L.eraseIdx l) ≤ hotN L
  | [], _ => Int.le_refl _
  | x :: L, 0 => by
    have hx := hv1_bd x
    show hotN L ≤ hv1 x + hotN L
    omega
  | x :: L, l + 1 => by
    have ih := hotN_er L l
    show hv1 x + hotN (L.eraseIdx l) ≤ hv1 x + hotN L
    omega
theorem gv_ok {rn : Bx → Int} {st : Int → Int} {L : List Rg} {ct : Int → Int} {l : Nat} (hl : l < L.length) (hk : ∀ r ∈ L, hOk r) : (∀ r ∈ (gvP rn st (L, ct) l).1, hOk r) ∧ (gvP rn st (L, ct) l).1.length ≤ L.length ∧ ((gvP rn st (L, ct) l).1.length : Int) + hotN (gvP rn st (L, ct) l).1 + 1 ≤ (L.length : Int) + hotN L := by
  unfold gvP
  rw [rgD_eq (L := (L, ct).1) hl]
  by_cases c : canS st L[l]
  · rw [if_pos c]
    have hot := (hk _ (List.getElem_mem hl)).2.resolve_left (by have := c.2.1; omega)
    refine ⟨fun r hr => ?_, by rw [List.length_set]; exact Nat.le_refl _, ?_⟩
    · rcases List.mem_or_eq_of_mem_set hr with h | h
      · exact hk r h
      · rw [h]
        exact ⟨hot, Or.inl (show vdB.1 < 0 by decide)⟩
    · show (((L.set l _).length : Nat) : Int) + hotN (L.set l _) + 1 ≤ _
      rw [List.length_set, hotN_set _ L l hl, rgD_eq hl]
      have e1 : hv1 (shR rn st (lvP ct L[l].2.2.2.2 9) L[l]) = 0 := if_pos (show vdB.1 < 0 by decide)
      have e2 := c.2.1
      have e3 : hv1 L[l] = 1 := if_neg (show ¬ L[l].2.1.1 < 0 by omega)
      have e1 : hv1 (shR rn st (lvP (L, ct).2 (L, ct).1[l].2.2.2.2 9) (L, ct).1[l]) = 0 := e1
      rw [e1, e3]
      omega
  · rw [if_neg c]
    have he := hotN_er L l
    have hl2 : (L.eraseIdx l).length = L.length - 1 := List.length_eraseIdx_of_lt hl
    refine ⟨fun r hr => hk r (List.mem_of_mem_eraseIdx hr), ?_, ?_⟩
    · show (L.eraseIdx l).length ≤ L.length
      omega
    · show ((L.eraseIdx l).length : Int) + hotN (L.eraseIdx l) + 1 ≤ _
      omega
theorem k_trim7 {a0 : Nat} {I : Nat → Bool} {rn : Bx → Int} {st : Int → Int} (ha : a0 = 48 ∨ a0 = 106) (s1 : 0 ≤ st 1) (s2 : 0 ≤ st 2) : ∀ (n : Nat) (t : Int) (L : List Rg) (ct : Int → Int) (σ : zS), cSt σ a0 I rn st L ct → L.length ≤ 181 → (∀ r ∈ L, hOk r) → (L.length : Int) + hotN L ≤ t → t < 2147483648 → zP' (g_ca_trim_L7 a0 n t σ) (fun _ s => ∃ m L' ct', TMn rn st m (L, ct) (L', ct') ∧ (∀ r ∈ L', hOk r) ∧ L'.length ≤ L.length ∧ cSt s a0 I rn st L' ct' ∧ frCa a0 σ s)
  | 0, _, _, _, _, _, _, _, _, _ => zP'.no
  | n + 1, t, L, ct, σ, h, hL, hk, ht, ht2 => by
    have hh := hotN_bd L
    have empty : L.length = 0 → ¬ tooM rn st L := fun e => by
      have e0 : L = [] := List.eq_nil_of_length_eq_zero e
      subst e0
      unfold tooM
      show ¬ (st 2 < (0 : Int) ∨ st 1 < (0 : Int))
      omega
    have stop : ¬ tooM rn st L → ∃ m L' ct', TMn rn st m (L, ct) (L', ct') ∧ (∀ r ∈ L', hOk r) ∧ L'.length ≤ L.length ∧ cSt σ a0 I rn st L' ct' ∧ frCa a0 σ σ := fun hn => ⟨0, L, ct, ⟨hn, rfl⟩, hk, Nat.le_refl _, h, frCa.refl a0 σ⟩
    unfold g_ca_trim_L7
    by_cases c0 : t ≤ 0
    · rw [if_pos c0]
      exact zP'.ret (stop (empty (by omega)))
    · rw [if_neg c0]
      try dsimp +instances only
      rw [h.1.1]
      by_cases c1 : (L.length : Int) ≤ 0
      · rw [if_pos c1]
        exact zP'.ret (stop (empty (by omega)))
      · rw [if_neg c1]
        refine zP'.bind (k_tooMuch h hL (fun r hr => (hk r hr).1)) (fun v s p => ?_)
        obtain ⟨rfl, p⟩ := p
        try dsimp +instances only
        by_cases cv : v = 0
        · rw [if_pos cv]
          exact zP'.ret (stop (fun k => p.mpr k cv))
        · rw [if_neg cv]
          have too := p.mp cv
          unfold g_ca_lightest
          have L4 := k_light4 hL zK 0 1 s h.1 (by omega) (by decide) (by omega) (fun j hj hj1 => by
            have e : j = 0 := by omega
            subst e
            exact Or.inr ⟨rfl, Nat.le_refl _⟩)
          have L4 : zP' (g_ca_lightest_L4 a0 zK 0 1 s) _ := L4
          refine zP'.bind L4 (fun v2 u2 p2 => ?_)
          obtain ⟨rfl, l, rfl, lt⟩ := p2
          have hl := lt.1
          try dsimp +instances only
          obtain ⟨o1, o2, o3⟩ := gv_ok (rn := rn) (st := st) (ct := ct) hl hk
          refine zP'.bind (k_giveUp ha h hL hl (hk _ (List.getElem_mem hl))) (fun _ s3 p3 => ?_)
          obtain ⟨h3, f3⟩ := p3
          try dsimp +instances only
          rw [w32_id (x := t - 1) (by omega) (by omega)]
          refine (k_trim7 ha s1 s2 n (t - 1) _ _ s3 h3 (by omega) o1 (by omega) (by omega)).imp (fun _ s4 p4 => ?_)
          obtain ⟨m, L', ct', g1, g2, g3, g4, g5⟩ := p4
          exact ⟨m + 1, L', ct', ⟨too, l, lt, g1⟩, g2, by omega, g4, f3.trans g5⟩
theorem k_trim {a0 : Nat} {I : Nat → Bool} {rn : Bx → Int} {st : Int → Int} {L : List Rg} {ct : Int → Int} {σ : zS} (ha : a0 = 48 ∨ a0 = 106) (s1 : 0 ≤ st 1) (s2 : 0 ≤ st 2) (h : cSt σ a0 I rn st L ct) (hL : L.length ≤ 181) (hk : ∀ r ∈ L, hOk r) : zP' (g_ca_trim a0 σ) (fun _ s => ∃ m L' ct', TMn rn st m (L, ct) (L', ct') ∧ (∀ r ∈ L', hOk r) ∧ L'.length ≤ L.length ∧ cSt s a0 I rn st L' ct' ∧ frCa a0 σ s) := by
  have hh := hotN_bd L
  unfold g_ca_trim
  try dsimp +instances only
  rw [h.1.1, w32_id (x := 2 * (L.length : Int)) (by omega) (by omega)]
  exact k_trim7 ha s1 s2 zK _ L ct σ h hL hk (by omega) (by omega)
end
