section
/-! 6p.eval -/
/-! E OF THE REFERENCE: for which rows it holds -/
theorem m_num84V {lo hi x : Int} {σ : zS} : zP' (g_m_isNumber_L84 lo hi x σ) (fun _ s => fr3 σ s ∧ s 143 21 = σ 143 21 ∧ s 143 23 = σ 143 23 ∧ (lo ≤ σ 143 23 ∧ σ 143 23 ≤ hi → s 143 22 = σ 143 22)) := by
  have fl : zP' (g_m_fails x σ) (fun b s => fr3 σ s ∧ s 143 21 = σ 143 21 ∧ s 143 23 = σ 143 23) := by
    unfold g_m_fails
    exact zP'.ite (fun _ => zP'.ret ⟨fr3.refl σ, rfl, rfl⟩) (fun _ => zP'.ret ⟨fr3.u (by omega), zu_i (by decide), zu_i (by decide)⟩)
  have tail : zP' ((g_m_fails x σ).bind fun o_99 => if o_99.1 = 0 then some ((0 : Int), o_99.2) else some ((1 : Int), o_99.2)) (fun _ s => fr3 σ s ∧ s 143 21 = σ 143 21 ∧ s 143 23 = σ 143 23) := zP'.bind fl (fun b s p => zP'.ite (fun _ => zP'.ret p) (fun _ => zP'.ret p))
  unfold g_m_isNumber_L84
  try dsimp +instances only
  by_cases c : lo ≤ σ 143 23 ∧ σ 143 23 ≤ hi
  · rw [s_isIn_t c.1 c.2]
    rw [Option.bind_some]
    try dsimp +instances only
    rw [if_pos (by decide)]
    exact zP'.ret ⟨fr3.refl σ, rfl, rfl, fun _ => rfl⟩
  · rw [s_isIn_f (by omega)]
    rw [Option.bind_some]
    try dsimp +instances only
    rw [if_neg (by decide)]
    exact tail.imp (fun _ s k => ⟨k.1, k.2.1, k.2.2, fun h => absurd h c⟩)
theorem m_num33V {w lo hi x : Int} (hw : w ≤ 9) : ∀ (n k d : Nat) (v p : Int) (σ : zS), w.toNat = k + d → tpP σ → σ 143 21 = p → σ 143 23 = v → 0 ≤ v → (v + 1) * 10 ^ d ≤ 1000000000 → zP' (g_m_isNumber_L33 n w lo hi x (k : Int) σ) (fun _ s => fr3 σ s ∧ s 143 21 = (numF (mT σ) (σ 143 20) d p v).2 ∧ s 143 23 = (numF (mT σ) (σ 143 20) d p v).1 ∧ (lo ≤ (numF (mT σ) (σ 143 20) d p v).1 ∧ (numF (mT σ) (σ 143 20) d p v).1 ≤ hi → s 143 22 = σ 143 22))
  | 0, _, _, _, _, _, _, _, _, _, _, _ => zP'.no
  | n + 1, k, d, v, p, σ, hk, h, hp, hv, hv0, hb => by
    have h1 := h.1
    have h2 := h.2.1
    have fin : numF (mT σ) (σ 143 20) d p v = (v, p) → zP' (g_m_isNumber_L84 lo hi x σ) (fun _ s => fr3 σ s ∧ s 143 21 = (numF (mT σ) (σ 143 20) d p v).2 ∧ s 143 23 = (numF (mT σ) (σ 143 20) d p v).1 ∧ (lo ≤ (numF (mT σ) (σ 143 20) d p v).1 ∧ (numF (mT σ) (σ 143 20) d p v).1 ≤ hi → s 143 22 = σ 143 22)) := fun e => by
      rw [e]
      exact m_num84V.imp (fun _ s q => ⟨q.1, q.2.1.trans hp, q.2.2.1.trans hv, fun k => q.2.2.2 (by rw [hv]; exact k)⟩)
    unfold g_m_isNumber_L33
    by_cases c : w ≤ (k : Int)
    · rw [if_pos c]
      exact fin (by rw [show d = 0 by omega]; rfl)
    · rw [if_neg c]
      obtain ⟨m, rfl⟩ : ∃ m, d = m + 1 := ⟨d - 1, by omega⟩
      rw [s_here h.i]
      rw [Option.bind_some]
      try dsimp +instances only
      rw [s_isFigure]
      rw [Option.bind_some]
      try dsimp +instances only
      have hH := hereC_mT h
      rw [hp] at hH
      by_cases cf : p < σ 143 20 ∧ 48 ≤ mT σ p ∧ mT σ p ≤ 57
      · have hh : hereC σ = mT σ p := by rw [hH, if_pos cf.1]
        rw [hh, if_pos cf.2, if_neg (by decide), s_here h.i, hh]
        rw [Option.bind_some]
        try dsimp +instances only
        have hstep : numF (mT σ) (σ 143 20) (m + 1) p v = numF (mT σ) (σ 143 20) m (p + 1) (10 * v + mT σ p - 48) := if_pos cf
        have hpow1 : (1 : Int) ≤ 10 ^ m := by
          have : (0 : Int) < 10 ^ m := Int.pow_pos (by decide)
          omega
        have hv10 : (10 * v + 9 + 1) * 10 ^ m ≤ 1000000000 := by
          have e : (10 * v + 9 + 1) * (10 : Int) ^ m = (v + 1) * 10 ^ (m + 1) := by
            rw [Int.pow_succ, Int.mul_comm (10 ^ m) 10, ← Int.mul_assoc]
            congr 1
            omega
          rw [e]
          exact hb
        have hle : 10 * v + 9 + 1 ≤ (10 * v + 9 + 1) * 10 ^ m := by
          have := Int.mul_le_mul_of_nonneg_left hpow1 (show 0 ≤ 10 * v + 9 + 1 by omega)
          omega
        rw [hv, w32_id (x := 10 * v) (by omega) (by omega), w32_id (x := 10 * v + mT σ p) (by omega) (by omega), w32_id (x := 10 * v + mT σ p - 48) (by omega) (by omega), zu_i (by decide), hp, w32_id (x := p + 1) (by omega) (by omega), w32_id (x := (k : Int) + 1) (by omega) (by omega), show (k : Int) + 1 = ((k + 1 : Nat) : Int) by omega]
        generalize hz : zu (zu σ 143 23 (10 * v + mT σ p - 48)) 143 21 (p + 1) = s1
        have f1 : fr3 σ s1 := fun a j hh => by rw [← hz, zu_c (by omega), zu_c (by omega)]
        have q21 : s1 143 21 = p + 1 := by rw [← hz]; exact zu_e rfl
        have q23 : s1 143 23 = 10 * v + mT σ p - 48 := by rw [← hz, zu_i (by decide)]; exact zu_e rfl
        have q20 : s1 143 20 = σ 143 20 := f1 143 20 (Or.inr (by decide))
        have q22 : s1 143 22 = σ 143 22 := by rw [← hz, zu_i (by decide), zu_i (by decide)]
        have hmul : (10 * v + mT σ p - 48 + 1) * 10 ^ m ≤ 1000000000 := Int.le_trans (Int.mul_le_mul_of_nonneg_right (show 10 * v + mT σ p - 48 + 1 ≤ 10 * v + 9 + 1 by omega) (by omega)) hv10
        refine (m_num33V hw n (k + 1) m (10 * v + mT σ p - 48) (p + 1) s1 (by omega) (h.f f1 (by rw [q21]; omega)) q21 q23 (by omega) hmul).imp (fun _ s q => ?_)
        rw [mT_f f1, q20, ← hstep, q22] at q
        exact ⟨f1.trans q.1, q.2⟩
      · have hn : ¬ (48 ≤ hereC σ ∧ hereC σ ≤ 57) := fun hh => by
          rw [hH] at hh
          by_cases cp : p < σ 143 20
          · rw [if_pos cp] at hh
            exact cf ⟨cp, hh⟩
          · rw [if_neg cp] at hh
            exact absurd hh (by omega)
        rw [if_neg hn, if_pos rfl]
        exact fin (if_neg cf)
theorem m_numV {lo hi : Int} {σ : zS} (h : tpP σ) : zP' (g_m_isNumber 9 lo hi σ) (fun _ s => fr3 σ s ∧ s 143 21 = (numF (mT σ) (σ 143 20) 9 (σ 143 21) 0).2 ∧ s 143 23 = (numF (mT σ) (σ 143 20) 9 (σ 143 21) 0).1 ∧ ((numF (mT σ) (σ 143 20) 9 (σ 143 21) 0).2 ≠ σ 143 21 ∧ lo ≤ (numF (mT σ) (σ 143 20) 9 (σ 143 21) 0).1 ∧ (numF (mT σ) (σ 143 20) 9 (σ 143 21) 0).1 ≤ hi → s 143 22 = σ 143 22)) := by
  generalize hz : zu σ 143 23 0 = s1
  have f1 : fr3 σ s1 := fun a j hh => by rw [← hz, zu_c (by omega)]
  have q21 : s1 143 21 = σ 143 21 := by rw [← hz, zu_i (by decide)]
  have q20 : s1 143 20 = σ 143 20 := f1 143 20 (Or.inr (by decide))
  have q23 : s1 143 23 = 0 := by rw [← hz]; exact zu_e rfl
  have q22 : s1 143 22 = σ 143 22 := by rw [← hz, zu_i (by decide)]
  have h2 := h.2.1
  have t1 : tpP s1 := h.f f1 (by rw [q21]; exact h2)
  unfold g_m_isNumber
  try dsimp +instances only
  rw [hz, s_here t1.i]
  rw [Option.bind_some]
  try dsimp +instances only
  rw [s_isFigure]
  rw [Option.bind_some]
  try dsimp +instances only
  have hH := hereC_mT t1
  rw [q21, q20, mT_f f1] at hH
  by_cases cf : σ 143 21 < σ 143 20 ∧ 48 ≤ mT σ (σ 143 21) ∧ mT σ (σ 143 21) ≤ 57
  · have hh : hereC s1 = mT σ (σ 143 21) := by rw [hH, if_pos cf.1]
    rw [hh, if_pos cf.2, if_pos (by decide)]
    refine (m_num33V (w := 9) (by decide) zK 0 9 0 (σ 143 21) s1 (by decide) t1 q21 q23 (by decide) (by decide)).imp (fun _ s q => ?_)
    rw [mT_f f1, q20, q22] at q
    exact ⟨f1.trans q.1, q.2.1, q.2.2.1, fun k => q.2.2.2 k.2⟩
  · have hn : ¬ (48 ≤ hereC s1 ∧ hereC s1 ≤ 57) := fun hh => by
      rw [hH] at hh
      by_cases cp : σ 143 21 < σ 143 20
      · rw [if_pos cp] at hh
        exact cf ⟨cp, hh⟩
      · rw [if_neg cp] at hh
        exact absurd hh (by omega)
    have e : numF (mT σ) (σ 143 20) 9 (σ 143 21) 0 = (0, σ 143 21) := if_neg cf
    rw [if_neg hn, if_neg (by decide), e]
    unfold g_m_fails
    try dsimp +instances only
    have fl : ∀ s : zS, fr3 σ s ∧ s 143 21 = σ 143 21 ∧ s 143 23 = 0 → zP' (if (0 : Int) = 0 ∨ (0 : Int) = 1 then some ((0 : Int), s) else none) (fun _ s => fr3 σ s ∧ s 143 21 = (0, σ 143 21).2 ∧ s 143 23 = ((0 : Int), σ 143 21).1 ∧ (((0 : Int), σ 143 21).2 ≠ σ 143 21 ∧ lo ≤ ((0 : Int), σ 143 21).1 ∧ ((0 : Int), σ 143 21).1 ≤ hi → s 143 22 = σ 143 22)) := fun s k => zP'.gd (fun _ => zP'.ret ⟨k.1, k.2.1, k.2.2, fun x => absurd rfl x.1⟩)
    by_cases c0 : 0 ≤ s1 143 22
    · rw [if_pos c0]
      rw [Option.bind_some]
      exact fl s1 ⟨f1, q21, q23⟩
    · rw [if_neg c0]
      rw [Option.bind_some]
      exact fl (zu s1 143 22 (s1 143 21)) ⟨f1.trans (fr3.u (by omega)), (zu_i (by decide)).trans q21, (zu_i (by decide)).trans q23⟩
/-! tests -/
def mev (σ : zS) (l r : Int) : Int := if l = 0 then σ 147 (1 + r) else if l = 1 then σ 144 (21 + 3 * r) else if l = 2 then σ 144 (22 + 3 * r) else r
theorem m_202 {rec : Nat → Int → zS → Option (Int × zS)} {y x5 c v : Int} {σ : zS} (hc : (c = 0 ∧ x5 = 60) ∨ (c = 1 ∧ x5 = 61) ∨ (c = 2 ∧ x5 = 62)) : g_m_holdsFactor_L202 rec y x5 v σ = some (bI (cmpB c y v), σ) := by
  unfold g_m_holdsFactor_L202 cmpB
  rcases hc with ⟨rfl, rfl⟩ | ⟨rfl, rfl⟩ | ⟨rfl, rfl⟩
  · rw [if_neg (by decide), if_pos rfl]
    by_cases k : y < v
    · rw [if_neg (fun h => lCmp_0.mp h k), decide_eq_true k]
      rfl
    · rw [if_pos (lCmp_0.mpr k), decide_eq_false k]
      rfl
  · rw [if_pos (by decide), if_pos (by decide), if_neg (show ¬ (1 : Int) = 0 by decide), if_pos (show (1 : Int) = 1 from rfl)]
    by_cases k : y = v
    · rw [if_neg (fun h => h (lCmp_eq.mpr k)), decide_eq_true k]
      rfl
    · rw [if_pos (fun h => k (lCmp_eq.mp h)), decide_eq_false k]
      rfl
  · rw [if_pos (by decide), if_neg (by decide), if_neg (show ¬ (2 : Int) = 0 by decide), if_neg (show ¬ (2 : Int) = 1 by decide)]
    by_cases k : v < y
    · rw [if_neg (fun h => lCmp_gt.mp h k), decide_eq_true k]
      rfl
    · rw [if_pos (lCmp_gt.mpr k), decide_eq_false k]
      rfl
def evQ (σ : zS) (v : Bool) (p : Int) (b : Int) (s : zS) : Prop := (fr3 σ s ∧ s 143 22 = σ 143 22) ∧ b = bI v ∧ s 143 21 = p
theorem f3.tr {σ s t : zS} (h1 : fr3 σ s ∧ s 143 22 = σ 143 22) (h2 : fr3 s t ∧ t 143 22 = s 143 22) : fr3 σ t ∧ t 143 22 = σ 143 22 := ⟨h1.1.trans h2.1, h2.2.trans h1.2⟩
theorem m_120 {rec : Nat → Int → zS → Option (Int × zS)} {y l : Int} {x : (Int × Int × Int) × Int} {σ : zS} (h : tpP σ) (e : tstC l (mT σ) (σ 143 20) (σ 143 21) = .inr x) : zP' (g_m_holdsFactor_L120 rec y σ) (evQ σ (cmpB x.1.2.1 y x.1.2.2) x.2) := by
  have h1 := h.1
  have h2 := h.2.1
  unfold tstC at e
  cases e1 : cmpR (mT σ) (σ 143 20) (σ 143 21) with
  | inl q =>
    rw [e1] at e
    cases e
  | inr z =>
    rw [e1] at e
    dsimp only at e
    obtain ⟨k1, k2, k3⟩ := cmpR_ok (v := z.1) (p' := z.2) e1
    obtain ⟨ew, f, t, s22, s21, sT, s20⟩ := mk_st h k1
    have hh : hereC σ = mT σ (σ 143 21) := by rw [hereC_mT h, if_pos k1]
    unfold g_m_holdsFactor_L120
    rw [s_here h.i]
    rw [Option.bind_some]
    try dsimp +instances only
    rw [ew]
    generalize zu σ 143 21 (σ 143 21 + 1) = s1 at f t s22 s21 sT s20
    rw [s_here t.i]
    rw [Option.bind_some]
    try dsimp +instances only
    cases e2 : tstN (mT σ) (σ 143 20) z.2 with
    | inl q =>
      rw [e2] at e
      cases e
    | inr u =>
      rw [e2] at e
      dsimp only [tstV] at e
      cases e
      try dsimp only
      have hc : (z.1 = 0 ∧ hereC σ = 60) ∨ (z.1 = 1 ∧ hereC σ = 61) ∨ (z.1 = 2 ∧ hereC σ = 62) := by
        rw [hh]
        exact k3
      have eN : ∀ p0, p0 = (if negB (mT σ) (σ 143 20) z.2 = true then z.2 + 1 else z.2) → numF (mT σ) (σ 143 20) 9 p0 0 = u ∧ u.2 ≠ p0 := fun p0 h0 => by
        unfold tstN numR at e2
        rw [← h0] at e2
        split at e2
        · rename_i cc
          have k := Sum.inr.inj e2
          rw [k] at cc
          exact ⟨k, cc.1⟩
        · cases e2
      have bu : 0 ≤ u.1 ∧ u.1 ≤ 999999999 := by
        have k := numR_ok (v := u.1) (p' := u.2) (show numR 9 0 999999999 (mT σ) (σ 143 20) _ = _ from e2)
        exact ⟨k.1, k.2.1⟩
      have eH : hereC s1 = 45 ↔ negB (mT σ) (σ 143 20) z.2 = true := by
        rw [hereC_is t (by decide), sT, s20, s21, ← k2]
        unfold negB
        rw [decide_eq_true_iff]
      have fin : ∀ (s2 : zS), (fr3 σ s2 ∧ s2 143 22 = σ 143 22) → tpP s2 → s2 143 21 = (if negB (mT σ) (σ 143 20) z.2 = true then z.2 + 1 else z.2) → ∀ x6 : Int, (x6 = 0 ↔ negB (mT σ) (σ 143 20) z.2 = false) → zP' ((g_m_isNumber 9 0 999999999 s2).bind fun o_179 => if x6 = 0 then g_m_holdsFactor_L202 rec y (hereC σ) (o_179.2 143 23) o_179.2 else g_m_holdsFactor_L202 rec y (hereC σ) (w32 (-(o_179.2 143 23))) o_179.2) (evQ σ (cmpB z.1 y (if negB (mT σ) (σ 143 20) z.2 = true then -u.1 else u.1)) u.2) := fun s2 i1 t2 ip x6 ix => by
        refine zP'.bind (m_numV t2) (fun b s3 p3 => ?_)
        obtain ⟨j1, j2, j3, j4⟩ := p3
        have L2 : s2 143 20 = σ 143 20 := i1.1 143 20 (Or.inr (by decide))
        rw [mT_f i1.1, L2, (eN _ ip).1] at j2 j3 j4
        have j4 := j4 ⟨(eN _ ip).2, bu⟩
        try dsimp +instances only
        rw [j3]
        refine zP'.ite (fun c => ?_) (fun c => ?_)
        · rw [m_202 hc, ix.mp c, if_neg (by decide)]
          exact zP'.ret ⟨f3.tr i1 ⟨j1, j4⟩, rfl, j2⟩
        · have hn : negB (mT σ) (σ 143 20) z.2 = true := by
            cases hb : negB (mT σ) (σ 143 20) z.2 with
            | true => rfl
            | false => exact absurd (ix.mpr hb) c
          rw [m_202 hc, hn, if_pos rfl, w32_id (x := -u.1) (by omega) (by omega)]
          exact zP'.ret ⟨f3.tr i1 ⟨j1, j4⟩, rfl, j2⟩
      by_cases c45 : hereC s1 = 45
      · have hn := eH.mp c45
        have hp1 := (negB_t hn).1
        rw [if_neg (fun k => k c45)]
        unfold g_m_holdsFactor_L151
        try dsimp +instances only
        rw [if_neg (by decide)]
        unfold g_m_holdsFactor_L168
        try dsimp +instances only
        rw [w32_id (x := s1 143 21 + 1) (by omega) (by omega)]
        have e21 : zu s1 143 21 (s1 143 21 + 1) 143 21 = z.2 + 1 := by rw [zu_e rfl, s21, k2]
        have f2 : fr3 s1 (zu s1 143 21 (s1 143 21 + 1)) := fr3.u (Or.inl rfl)
        exact fin _ ⟨f.trans f2, (zu_i (by decide)).trans s22⟩ (t.f f2 (by rw [e21]; omega)) (by rw [e21, hn, if_pos rfl]) 1 ⟨fun k => absurd k (by decide), fun k => by rw [hn] at k; cases k⟩
      · have hn : negB (mT σ) (σ 143 20) z.2 = false := Bool.eq_false_iff.mpr (fun k => c45 (eH.mpr k))
        rw [if_pos c45]
        unfold g_m_holdsFactor_L151
        try dsimp +instances only
        rw [if_pos rfl]
        unfold g_m_holdsFactor_L168
        try dsimp +instances only
        rw [w32_id (x := s1 143 21 + 0) (by omega) (by omega)]
        have e21 : zu s1 143 21 (s1 143 21 + 0) 143 21 = z.2 := by rw [zu_e rfl, s21, k2, Int.add_zero]
        have f2 : fr3 s1 (zu s1 143 21 (s1 143 21 + 0)) := fr3.u (Or.inl rfl)
        exact fin _ ⟨f.trans f2, (zu_i (by decide)).trans s22⟩ (t.f f2 (by rw [e21]; omega)) (by rw [e21, hn]; rfl) 0 ⟨fun _ => hn, fun _ => rfl⟩
theorem m_factT {rec : Nat → Int → zS → Option (Int × zS)} {r : Int} {x : (Int × Int × Int) × Int} {σ : zS} (h : tpP σ) (hr : 0 ≤ r ∧ r < 60) (e : tstP (mT σ) (σ 143 20) (σ 143 21) = .inr x) : zP' (g_m_holdsFactor rec r σ) (evQ σ (cmpB x.1.2.1 (mev σ x.1.1 r) x.1.2.2) x.2) := by
  unfold tstP at e
  cases e1 : ltrR (mT σ) (σ 143 20) (σ 143 21) with
  | inl q =>
    rw [e1] at e
    cases e
  | inr z =>
    rw [e1] at e
    dsimp only at e
    obtain ⟨k1, k2, k3⟩ := ltrR_ok (v := z.1) (p' := z.2) e1
    obtain ⟨ew, f, t, s22, s21, sT, s20⟩ := mk_st h k1
    have hh : hereC σ = mT σ (σ 143 21) := by rw [hereC_mT h, if_pos k1]
    unfold g_m_holdsFactor
    rw [s_here h.i]
    rw [Option.bind_some]
    try dsimp +instances only
    rw [ew]
    have e144 : ∀ j, zu σ 143 21 (σ 143 21 + 1) 144 j = σ 144 j := fun j => zu_a (by decide)
    have e147 : ∀ j, zu σ 143 21 (σ 143 21 + 1) 147 j = σ 147 j := fun j => zu_a (by decide)
    generalize zu σ 143 21 (σ 143 21 + 1) = s1 at f t s22 s21 sT s20 e144 e147
    rw [← sT, ← s20, k2, ← s21] at e
    have hl : x.1.1 = z.1 := by
      unfold tstC at e
      cases e2 : cmpR (mT s1) (s1 143 20) (s1 143 21) with
      | inl q =>
        rw [e2] at e
        cases e
      | inr y =>
        rw [e2] at e
        dsimp only at e
        cases e3 : tstN (mT s1) (s1 143 20) y.2 with
        | inl q =>
          rw [e3] at e
          cases e
        | inr u =>
          rw [e3] at e
          dsimp only [tstV] at e
          cases e
          rfl
    have R : ∀ y, y = mev σ x.1.1 r → zP' (g_m_holdsFactor_L120 rec y s1) (evQ σ (cmpB x.1.2.1 (mev σ x.1.1 r) x.1.2.2) x.2) := fun y hy => (m_120 (y := y) t e).imp (fun b s p => by
      obtain ⟨p1, p2, p3⟩ := p
      rw [hy] at p2
      exact ⟨f3.tr ⟨f, s22⟩ p1, p2, p3⟩)
    rw [hl] at R ⊢
    unfold mev at R ⊢
    rcases k3 with ⟨q1, q2⟩ | ⟨q1, q2⟩ | ⟨q1, q2⟩ | ⟨q1, q2⟩
    · have e0 : hereC σ = 119 := hh.trans q2
      rw [if_pos (by omega), if_pos (by omega), if_neg (by omega), w32_id (x := 1 + r) (by omega) (by omega), if_pos (by omega), e147]
      exact R _ (by rw [if_pos q1])
    · have e0 : hereC σ = 120 := hh.trans q2
      rw [if_pos (by omega), if_pos (by omega), if_pos (by omega), if_neg (by omega), s_rowAt (by omega) (by omega)]
      rw [Option.bind_some]
      try dsimp +instances only
      rw [w32_id (x := 20 + 3 * r + 1) (by omega) (by omega), if_pos (by omega), e144]
      exact R _ (by rw [if_neg (by omega), if_pos q1, show 20 + 3 * r + 1 = 21 + 3 * r by omega])
    · have e0 : hereC σ = 121 := hh.trans q2
      rw [if_pos (by omega), if_pos (by omega), if_pos (by omega), if_pos (by omega), if_neg (by omega), s_rowAt (by omega) (by omega)]
      rw [Option.bind_some]
      try dsimp +instances only
      rw [w32_id (x := 20 + 3 * r + 2) (by omega) (by omega), if_pos (by omega), e144]
      exact R _ (by rw [if_neg (by omega), if_neg (by omega), if_pos q1, show 20 + 3 * r + 2 = 22 + 3 * r by omega])
    · have e0 : hereC σ = 114 := hh.trans q2
      rw [if_pos (by omega), if_pos (by omega), if_pos (by omega), if_pos (by omega), if_pos (by omega)]
      exact R _ (by rw [if_neg (by omega), if_neg (by omega), if_neg (by omega)])
/-! the whole of E -/
theorem mev_f {σ s : zS} (f : fr3 σ s) (l r : Int) : mev s l r = mev σ l r := by
  unfold mev
  rw [f 147 _ (Or.inl (by decide)), f 144 _ (Or.inl (by decide)), f 144 _ (Or.inl (by decide))]
theorem iOr_bb {x y : Bool} : iOr (bI x) (bI y) = bI (x || y) := by
  cases x <;> cases y <;> decide +kernel
theorem iAnd_bb {x y : Bool} : iAnd (bI x) (bI y) = bI (x && y) := by
  cases x <;> cases y <;> decide +kernel
theorem bI_01 (x : Bool) : bI x = 0 ∨ bI x = 1 := by
  cases x
  · exact Or.inl rfl
  · exact Or.inr rfl
def v_all (ev : Int → Int → Int) (r : Int) (m : Nat) : Prop :=
  (∀ (n : Nat) (d : Int) (T : Int → Bool) (x : (Int → Bool) × Int) (σ : zS), tpP σ → (∀ l, mev σ l r = ev l r) → eP ev (mT σ) (σ 143 20) m 0 d (σ 143 21) T = .inr x → zP' (g_grp231 n 231 r σ) (evQ σ (x.1 r) x.2)) ∧
  (∀ (n : Nat) (d : Int) (T : Int → Bool) (x : (Int → Bool) × Int) (σ : zS), tpP σ → (∀ l, mev σ l r = ev l r) → eP ev (mT σ) (σ 143 20) m 1 d (σ 143 21) T = .inr x → zP' (g_grp231 n 232 r σ) (evQ σ (x.1 r) x.2)) ∧
  (∀ (n : Nat) (d : Int) (T : Int → Bool) (x : (Int → Bool) × Int) (σ : zS), tpP σ → (∀ l, mev σ l r = ev l r) → eP ev (mT σ) (σ 143 20) m 2 d (σ 143 21) T = .inr x → zP' (g_grp231 n 233 r σ) (evQ σ (x.1 r) x.2)) ∧
  (∀ (n w : Nat) (d : Int) (T : Int → Bool) (x : (Int → Bool) × Int) (σ : zS), tpP σ → (∀ l, mev σ l r = ev l r) → eP ev (mT σ) (σ 143 20) m 3 d (σ 143 21) T = .inr x → zP' (g_m_doesHold_L6 (g_grp231 n) w r (bI (T r)) σ) (evQ σ (x.1 r) x.2)) ∧
  (∀ (n w : Nat) (d : Int) (T : Int → Bool) (x : (Int → Bool) × Int) (σ : zS), tpP σ → (∀ l, mev σ l r = ev l r) → eP ev (mT σ) (σ 143 20) m 4 d (σ 143 21) T = .inr x → zP' (g_m_holdsBoth_L6 (g_grp231 n) w r (bI (T r)) σ) (evQ σ (x.1 r) x.2))
theorem exSeq_ok {k : Int → (Int → Bool) → zEx} {r : zEx} {x : (Int → Bool) × Int} (h : exSeq k r = .inr x) : ∃ y, r = .inr y ∧ k y.2 y.1 = .inr x := by
  cases r with
  | inl q => cases h
  | inr y => exact ⟨y, rfl, h⟩
theorem m_eval {ev : Int → Int → Int} {r : Int} (hr : 0 ≤ r ∧ r < 60) : ∀ m : Nat, v_all ev r m
  | 0 => ⟨fun n d T x σ h _ e => (by cases e), fun n d T x σ h _ e => (by cases e), fun n d T x σ h _ e => (by cases e), fun n w d T x σ h _ e => (by cases e), fun n w d T x σ h _ e => (by cases e)⟩
  | m + 1 => by
    obtain ⟨A0, A1, A2, A3, A4⟩ := m_eval (ev := ev) hr m
    have bd : ∀ (k : Nat) (d p : Int) (T : Int → Bool) (f : Int → Int) (L : Int), k ≤ 4 → p ≤ L → ∀ x, eP ev f L m k d p T = .inr x → p ≤ x.2 ∧ x.2 ≤ L := fun k d p T f L hk h x e => by
      have b := (eP_bd (ev := ev) (f := f) m k d p T hk h).2 x e
      exact ⟨b.1, b.2.1⟩
    refine ⟨fun n d T x σ h he e => ?_, fun n d T x σ h he e => ?_, fun n d T x σ h he e => ?_, fun n w d T x σ h he e => ?_, fun n w d T x σ h he e => ?_⟩
    · cases n with
      | zero => exact zP'.no
      | succ n =>
        have h2 := h.2.1
        rw [eP_0] at e
        obtain ⟨y, e1, e2⟩ := exSeq_ok e
        rw [grp231_231]
        unfold g_m_doesHold
        refine zP'.bind (A1 n d T y σ h he e1) (fun b s p => ?_)
        obtain ⟨ff, p2, p3⟩ := p
        have f := ff.1
        have b1 := bd 1 d _ T _ _ (by decide) h2.2 y e1
        have L1 : s 143 20 = σ 143 20 := f 143 20 (Or.inr (by decide))
        try dsimp +instances only
        rw [p2]
        refine (A3 n zK d y.1 x s (h.f f (by omega)) (fun l => (mev_f f l r).trans (he l)) (by rw [mT_f f, L1, p3]; exact e2)).imp (fun b t q => ⟨f3.tr ff q.1, q.2⟩)
    · cases n with
      | zero => exact zP'.no
      | succ n =>
        have h2 := h.2.1
        rw [eP_1] at e
        obtain ⟨y, e1, e2⟩ := exSeq_ok e
        rw [grp231_232]
        unfold g_m_holdsBoth
        refine zP'.bind (A2 n d T y σ h he e1) (fun b s p => ?_)
        obtain ⟨ff, p2, p3⟩ := p
        have f := ff.1
        have b1 := bd 2 d _ T _ _ (by decide) h2.2 y e1
        have L1 : s 143 20 = σ 143 20 := f 143 20 (Or.inr (by decide))
        try dsimp +instances only
        rw [p2]
        refine (A4 n zK d y.1 x s (h.f f (by omega)) (fun l => (mev_f f l r).trans (he l)) (by rw [mT_f f, L1, p3]; exact e2)).imp (fun b t q => ⟨f3.tr ff q.1, q.2⟩)
    · cases n with
      | zero => exact zP'.no
      | succ n =>
        have h2 := h.2.1
        rw [eP_2] at e
        rw [grp231_233]
        by_cases c33 : d < 4 ∧ σ 143 21 < σ 143 20 ∧ mT σ (σ 143 21) = 33
        · rw [if_pos c33] at e
          have hh : hereC σ = 33 := (hereC_is h (by decide)).mpr c33.2
          obtain ⟨ew, f, t, s22, s21, sT, s20⟩ := mk_st h c33.2.1
          cases e1 : eP ev (mT σ) (σ 143 20) m 2 (d + 1) (σ 143 21 + 1) T with
          | inl q =>
            rw [e1] at e
            cases e
          | inr y =>
            rw [e1] at e
            cases e
            unfold g_m_holdsFactor
            rw [s_here h.i]
            rw [Option.bind_some]
            try dsimp +instances only
            rw [ew, if_neg (fun k => k hh)]
            generalize zu σ 143 21 (σ 143 21 + 1) = s1 at f t s22 s21 sT s20
            refine zP'.bind (A2 n (d + 1) T y s1 t (fun l => (mev_f f l r).trans (he l)) (by rw [sT, s20, s21]; exact e1)) (fun b s p => ?_)
            obtain ⟨p1, p2, p3⟩ := p
            try dsimp +instances only
            rw [p2]
            cases hb : y.1 r with
            | true =>
              rw [if_pos (by decide)]
              exact zP'.ret ⟨f3.tr ⟨f, s22⟩ p1, rfl, p3⟩
            | false =>
              rw [if_neg (by decide)]
              exact zP'.ret ⟨f3.tr ⟨f, s22⟩ p1, rfl, p3⟩
        · rw [if_neg c33] at e
          by_cases c40 : d < 4 ∧ σ 143 21 < σ 143 20 ∧ mT σ (σ 143 21) = 40
          · rw [if_pos c40] at e
            have hh : hereC σ = 40 := (hereC_is h (by decide)).mpr c40.2
            obtain ⟨ew, f, t, s22, s21, sT, s20⟩ := mk_st h c40.2.1
            cases e1 : eP ev (mT σ) (σ 143 20) m 0 (d + 1) (σ 143 21 + 1) T with
            | inl q =>
              rw [e1] at e
              cases e
            | inr y =>
              rw [e1] at e
              have b1 := bd 0 (d + 1) (σ 143 21 + 1) T _ _ (by decide) (by omega) y e1
              unfold exPar at e
              dsimp only at e
              cases e3 : sgnR 41 (mT σ) (σ 143 20) y.2 with
              | inl q =>
                rw [e3] at e
                cases e
              | inr z =>
                rw [e3] at e
                cases e
                have k := sgnR_ok (v := z.1) (p' := z.2) e3
                unfold g_m_holdsFactor
                rw [s_here h.i]
                rw [Option.bind_some]
                try dsimp +instances only
                rw [ew, if_pos (by omega), if_neg (fun k => k hh)]
                generalize zu σ 143 21 (σ 143 21 + 1) = s1 at f t s22 s21 sT s20
                refine zP'.bind (A0 n (d + 1) T y s1 t (fun l => (mev_f f l r).trans (he l)) (by rw [sT, s20, s21]; exact e1)) (fun b s p => ?_)
                obtain ⟨p1, p2, p3⟩ := p
                have h1 := h.1
                try dsimp +instances only
                rw [p2, p3, w32_id (x := y.2 + 1) (by omega) (by omega)]
                refine b01 ⟨f3.tr (f3.tr ⟨f, s22⟩ p1) ⟨fr3.u (Or.inl rfl), zu_i (by decide)⟩, rfl, ?_⟩
                rw [zu_e rfl]
                exact k.2.1.symm
          · rw [if_neg c40] at e
            cases e1 : tstP (mT σ) (σ 143 20) (σ 143 21) with
            | inl q =>
              rw [e1] at e
              cases e
            | inr y =>
              rw [e1] at e
              cases e
              refine (m_factT h hr e1).imp (fun b s p => ?_)
              obtain ⟨p1, p2, p3⟩ := p
              rw [he] at p2
              exact ⟨p1, p2, p3⟩
    · cases w with
      | zero => exact zP'.no
      | succ w =>
        have h2 := h.2.1
        rw [eP_3] at e
        unfold g_m_doesHold_L6
        rw [s_here h.i]
        rw [Option.bind_some]
        try dsimp +instances only
        by_cases c : σ 143 21 < σ 143 20 ∧ mT σ (σ 143 21) = 124
        · rw [if_pos c] at e
          have hh : hereC σ = 124 := (hereC_is h (by decide)).mpr c
          obtain ⟨ew, f, t, s22, s21, sT, s20⟩ := mk_st h c.1
          obtain ⟨y, e1, e2⟩ := exSeq_ok e
          have b1 := bd 1 d (σ 143 21 + 1) T _ _ (by decide) (by omega) y e1
          rw [if_neg (fun k => k hh), ew]
          generalize zu σ 143 21 (σ 143 21 + 1) = s1 at f t s22 s21 sT s20
          refine zP'.bind (A1 n d T y s1 t (fun l => (mev_f f l r).trans (he l)) (by rw [sT, s20, s21]; exact e1)) (fun b s p => ?_)
          obtain ⟨pp, p2, p3⟩ := p
          have p1 := pp.1
          have fp := f.trans p1
          have ff := f3.tr ⟨f, s22⟩ pp
          have L1 : s 143 20 = σ 143 20 := fp 143 20 (Or.inr (by decide))
          try dsimp +instances only
          rw [p2, iOr_bb]
          exact (A3 n w d (fun r => T r || y.1 r) x s (h.f fp (by omega)) (fun l => (mev_f fp l r).trans (he l)) (by rw [mT_f fp, L1, p3]; exact e2)).imp (fun b t q => ⟨f3.tr ff q.1, q.2⟩)
        · rw [if_neg c] at e
          cases e
          have hh : ¬ hereC σ = 124 := fun k => c ((hereC_is h (by decide)).mp k)
          rw [if_pos hh, if_pos (bI_01 _)]
          exact zP'.ret ⟨⟨fr3.refl σ, rfl⟩, rfl, rfl⟩
    · cases w with
      | zero => exact zP'.no
      | succ w =>
        have h2 := h.2.1
        rw [eP_4] at e
        unfold g_m_holdsBoth_L6
        rw [s_here h.i]
        rw [Option.bind_some]
        try dsimp +instances only
        by_cases c : σ 143 21 < σ 143 20 ∧ mT σ (σ 143 21) = 38
        · rw [if_pos c] at e
          have hh : hereC σ = 38 := (hereC_is h (by decide)).mpr c
          obtain ⟨ew, f, t, s22, s21, sT, s20⟩ := mk_st h c.1
          obtain ⟨y, e1, e2⟩ := exSeq_ok e
          have b1 := bd 2 d (σ 143 21 + 1) T _ _ (by decide) (by omega) y e1
          rw [if_neg (fun k => k hh), ew]
          generalize zu σ 143 21 (σ 143 21 + 1) = s1 at f t s22 s21 sT s20
          refine zP'.bind (A2 n d T y s1 t (fun l => (mev_f f l r).trans (he l)) (by rw [sT, s20, s21]; exact e1)) (fun b s p => ?_)
          obtain ⟨pp, p2, p3⟩ := p
          have p1 := pp.1
          have fp := f.trans p1
          have ff := f3.tr ⟨f, s22⟩ pp
          have L1 : s 143 20 = σ 143 20 := fp 143 20 (Or.inr (by decide))
          try dsimp +instances only
          rw [p2, iAnd_bb]
          exact (A4 n w d (fun r => T r && y.1 r) x s (h.f fp (by omega)) (fun l => (mev_f fp l r).trans (he l)) (by rw [mT_f fp, L1, p3]; exact e2)).imp (fun b t q => ⟨f3.tr ff q.1, q.2⟩)
        · rw [if_neg c] at e
          cases e
          have hh : ¬ hereC σ = 38 := fun k => c ((hereC_is h (by decide)).mp k)
          rw [if_pos hh, if_pos (bI_01 _)]
          exact zP'.ret ⟨⟨fr3.refl σ, rfl⟩, rfl, rfl⟩
end
section
/-! 6q.query -/
/-! A QUERY AS A TEXT, told once for both sides -/
def rngR2 (a : Int) : zRd → Sum Int ((Int × Int) × Int)
  | .inl q => .inl q
  | .inr y => .inr ((a, y.1), y.2)
def rngR1 (f : Int → Int) (L : Int) : zRd → Sum Int ((Int × Int) × Int)
  | .inl q => .inl q
  | .inr x => if x.2 < L ∧ f x.2 = 45 then rngR2 x.1 (numR 2 x.1 31 f L (x.2 + 1)) else .inr ((x.1, x.1), x.2)
def rngR (f : Int → Int) (L p : Int) : Sum Int ((Int × Int) × Int) := if p < L ∧ f p = 42 then .inr ((0, 31), p + 1) else rngR1 f L (numR 2 0 31 f L p)
def gBd (p L : Int) : Sum Int ((Int × Int) × Int) → Prop
  | .inl q => p ≤ q ∧ q ≤ L
  | .inr x => p < x.2 ∧ x.2 ≤ L ∧ 0 ≤ x.1.1 ∧ x.1.1 ≤ x.1.2 ∧ x.1.2 ≤ 31
theorem rngR_bd {f : Int → Int} {L p : Int} (h : p ≤ L) : gBd p L (rngR f L p) := by
  unfold rngR
  by_cases c : p < L ∧ f p = 42
  · rw [if_pos c]
    exact ⟨by show p < p + 1; omega, by show p + 1 ≤ L; omega, by show (0 : Int) ≤ 0; omega, by show (0 : Int) ≤ 31; omega, by show (31 : Int) ≤ 31; omega⟩
  · rw [if_neg c]
    have b := numR_bd (w := 2) (lo := 0) (hi := 31) (f := f) h
    cases e : numR 2 0 31 f L p with
    | inl q =>
      rw [e] at b
      exact b
    | inr x =>
      rw [e] at b
      have b : p ≤ x.2 ∧ x.2 ≤ L := b
      have k := numR_ok (v := x.1) (p' := x.2) e
      unfold rngR1
      try dsimp only
      by_cases c2 : x.2 < L ∧ f x.2 = 45
      · rw [if_pos c2]
        have b2 := numR_bd (w := 2) (lo := x.1) (hi := 31) (f := f) (L := L) (p := x.2 + 1) (by omega)
        cases e2 : numR 2 x.1 31 f L (x.2 + 1) with
        | inl q =>
          rw [e2] at b2
          have b2 : x.2 + 1 ≤ q ∧ q ≤ L := b2
          exact ⟨by omega, b2.2⟩
        | inr y =>
          rw [e2] at b2
          have b2 : x.2 + 1 ≤ y.2 ∧ y.2 ≤ L := b2
          have k2 := numR_ok (v := y.1) (p' := y.2) e2
          exact ⟨by show p < y.2; omega, b2.2, k.1, k2.1, k2.2.1⟩
      · rw [if_neg c2]
        exact ⟨k.2.2, b.2, k.1, Int.le_refl _, k.2.1⟩
/-- the measure, the box, where E begins (-1: there is none), for which rows it holds -/
abbrev zQy : Type := Int × Bx × Int × (Int → Bool)
abbrev zQr : Type := Sum Int (zQy × Int)
def qryE (m : Int) (B : Bx) (e : Int) : zEx → zQr
  | .inl q => .inl q
  | .inr x => .inr ((m, B, e, x.1), x.2)
def qryS (ev : Int → Int → Int) (f : Int → Int) (L : Int) (m : Int) (B : Bx) : zRd → zQr
  | .inl q => .inl q
  | .inr x => qryE m B x.2 (eP ev f L 700 0 0 x.2 (fun _ => true))
def qryI (ev : Int → Int → Int) (f : Int → Int) (L : Int) (m : Int) (B : Bx) : zRd → zQr
  | .inl q => .inl q
  | .inr x => qryS ev f L m B (sgnR 32 f L x.2)
def qryF (ev : Int → Int → Int) (f : Int → Int) (L : Int) (m : Int) (B : Bx) (p : Int) : zQr := if p < L ∧ f p = 32 then qryI ev f L m B (wrdR 5 2 f L (p + 1)) else .inr ((m, B, -1, fun _ => true), p)
def qryY (ev : Int → Int → Int) (f : Int → Int) (L : Int) (m : Int) (a : Int × Int) : Sum Int ((Int × Int) × Int) → zQr
  | .inl q => .inl q
  | .inr y => qryF ev f L m (a.1, a.2, y.1.1, y.1.2) y.2
def qryB (ev : Int → Int → Int) (f : Int → Int) (L : Int) (m : Int) (a : Int × Int) : zRd → zQr
  | .inl q => .inl q
  | .inr x => qryY ev f L m a (rngR f L x.2)
def qryX (ev : Int → Int → Int) (f : Int → Int) (L : Int) (m : Int) : Sum Int ((Int × Int) × Int) → zQr
  | .inl q => .inl q
  | .inr x => qryB ev f L m x.1 (sgnR 32 f L x.2)
def qryA (ev : Int → Int → Int) (f : Int → Int) (L : Int) (m : Int) : zRd → zQr
  | .inl q => .inl q
  | .inr x => qryX ev f L m (rngR f L x.2)
def qryV (ev : Int → Int → Int) (f : Int → Int) (L : Int) : zRd → zQr
  | .inl q => .inl q
  | .inr x => qryA ev f L x.1 (sgnR 32 f L x.2)
def qryR (ev : Int → Int → Int) (f : Int → Int) (L p : Int) : zQr := qryV ev f L (wrdR 4 36 f L p)
theorem wordV4_le {f : Int → Int} {L p : Int} : wordV 4 36 f L p ≤ 6 := by
  have h := wordG_le (c := charC 4) (f := f) (b := p) (e := wend f L 160 p) 36 0 0 0 (Int.le_refl 0)
  have e : bkC (charC 4) 36 0 = 6 := by decide +kernel
  rw [e] at h
  exact h
theorem wrdR_v {a Ln : Nat} {f : Int → Int} {L p v p' : Int} (h : wrdR a Ln f L p = .inr (v, p')) : v = wordV a Ln f L p := by
  unfold wrdR at h
  split at h
  · cases h
  · exact (congrArg (·.1) (Sum.inr.inj h)).symm
/-- a query read: its bounds; where it has an E, that E is read there -/
def qOkP (ev : Int → Int → Int) (f : Int → Int) (L : Int) (Q : zQy) : Prop := (0 ≤ Q.1 ∧ Q.1 ≤ 6) ∧ bOk Q.2.1 ∧ ((Q.2.2.1 < 0 ∧ ∀ r, Q.2.2.2 r = true) ∨ (0 ≤ Q.2.2.1 ∧ Q.2.2.1 ≤ L ∧ ∃ p', eP ev f L 700 0 0 Q.2.2.1 (fun _ => true) = .inr (Q.2.2.2, p')))
theorem qryR_ok {ev : Int → Int → Int} {f : Int → Int} {L p : Int} (h0 : 0 ≤ p) (h : p ≤ L) : (∀ q, qryR ev f L p = .inl q → p ≤ q ∧ q ≤ L) ∧ ∀ x, qryR ev f L p = .inr x → p < x.2 ∧ x.2 ≤ L ∧ qOkP ev f L x.1 := by
  unfold qryR
  have b1 := wrdR_bd (a := 4) (Ln := 36) (f := f) h
  cases e1 : wrdR 4 36 f L p with
  | inl q =>
    rw [e1] at b1
    exact ⟨fun q' e => (by cases e; exact b1), fun x e => (by cases e)⟩
  | inr v =>
    rw [e1] at b1
    have b1 : p ≤ v.2 ∧ v.2 ≤ L := b1
    have k1 := wrdR_ok (v := v.1) (p' := v.2) e1
    have k1b : v.1 ≤ 6 := by
      rw [wrdR_v (v := v.1) (p' := v.2) e1]
      exact wordV4_le
    have b2 := sgnR_bd (x := 32) (f := f) b1.2
    dsimp only [qryV]
    cases e2 : sgnR 32 f L v.2 with
    | inl q =>
      rw [e2] at b2
      have b2 : v.2 ≤ q ∧ q ≤ L := b2
      exact ⟨fun q' e => (by cases e; omega), fun x e => (by cases e)⟩
    | inr s =>
      rw [e2] at b2
      have b2 : v.2 ≤ s.2 ∧ s.2 ≤ L := b2
      have b3 := rngR_bd (f := f) b2.2
      dsimp only [qryA]
      cases e3 : rngR f L s.2 with
      | inl q =>
        rw [e3] at b3
        have b3 : s.2 ≤ q ∧ q ≤ L := b3
        exact ⟨fun q' e => (by cases e; omega), fun x e => (by cases e)⟩
      | inr a =>
        rw [e3] at b3
        obtain ⟨b3, b3', c1, c2, c3⟩ := b3
        have b4 := sgnR_bd (x := 32) (f := f) b3'
        dsimp only [qryX]
        cases e4 : sgnR 32 f L a.2 with
        | inl q =>
          rw [e4] at b4
          have b4 : a.2 ≤ q ∧ q ≤ L := b4
          exact ⟨fun q' e => (by cases e; omega), fun x e => (by cases e)⟩
        | inr t =>
          rw [e4] at b4
          have b4 : a.2 ≤ t.2 ∧ t.2 ≤ L := b4
          have b5 := rngR_bd (f := f) b4.2
          dsimp only [qryB]
          cases e5 : rngR f L t.2 with
          | inl q =>
            rw [e5] at b5
            have b5 : t.2 ≤ q ∧ q ≤ L := b5
            exact ⟨fun q' e => (by cases e; omega), fun x e => (by cases e)⟩
          | inr y =>
            rw [e5] at b5
            obtain ⟨b5, b5', d1, d2, d3⟩ := b5
            dsimp only [qryY]
            unfold qryF
            have hB : bOk (a.1.1, a.1.2, y.1.1, y.1.2) := ⟨c1, c2, c3, d1, d2, d3⟩
            by_cases c : y.2 < L ∧ f y.2 = 32
            · rw [if_pos c]
              have b6 := wrdR_bd (a := 5) (Ln := 2) (f := f) (L := L) (p := y.2 + 1) (by omega)
              cases e6 : wrdR 5 2 f L (y.2 + 1) with
              | inl q =>
                rw [e6] at b6
                have b6 : y.2 + 1 ≤ q ∧ q ≤ L := b6
                exact ⟨fun q' e => (by cases e; omega), fun x e => (by cases e)⟩
              | inr w =>
                rw [e6] at b6
                have b6 : y.2 + 1 ≤ w.2 ∧ w.2 ≤ L := b6
                have b7 := sgnR_bd (x := 32) (f := f) b6.2
                dsimp only [qryI]
                cases e7 : sgnR 32 f L w.2 with
                | inl q =>
                  rw [e7] at b7
                  have b7 : w.2 ≤ q ∧ q ≤ L := b7
                  exact ⟨fun q' e => (by cases e; omega), fun x e => (by cases e)⟩
                | inr u =>
                  rw [e7] at b7
                  have b7 : w.2 ≤ u.2 ∧ u.2 ≤ L := b7
                  obtain ⟨b8, b9⟩ := eP_bd (ev := ev) (f := f) 700 0 0 u.2 (fun _ => true) (by decide) b7.2
                  dsimp only [qryS]
                  cases e8 : eP ev f L 700 0 0 u.2 (fun _ => true) with
                  | inl q =>
                    have b8 := b8 q e8
                    exact ⟨fun q' e => (by cases e; omega), fun x e => (by cases e)⟩
                  | inr z =>
                    have b9 := b9 z e8
                    exact ⟨fun q' e => (by cases e), fun x e => (by cases e; exact ⟨by (try dsimp only); omega, b9.2.1, ⟨k1.1, k1b⟩, hB, Or.inr ⟨by (try dsimp only); omega, b7.2, z.2, e8⟩⟩)⟩
            · rw [if_neg c]
              exact ⟨fun q' e => (by cases e), fun x e => (by cases e; exact ⟨by (try dsimp only); omega, b5', ⟨k1.1, k1b⟩, hB, Or.inl ⟨by show (-1 : Int) < 0; omega, fun _ => rfl⟩⟩)⟩
def runP (ev : Int → Int → Int) (f : Int → Int) (L : Int) : Nat → Int → List zQy → Sum Int (List zQy)
  | 0, p, _ => .inl p
  | m + 1, p, l => match qryR ev f L p with
    | .inl q => .inl q
    | .inr x => if x.2 < L then (if l.length + 1 < 8 ∧ f x.2 = 59 then runP ev f L m (x.2 + 1) (l ++ [x.1]) else .inl x.2) else .inr (l ++ [x.1])
theorem runP_1 {ev : Int → Int → Int} {f : Int → Int} {L : Int} {m : Nat} {p : Int} {l : List zQy} : runP ev f L (m + 1) p l = match qryR ev f L p with
    | .inl q => .inl q
    | .inr x => if x.2 < L then (if l.length + 1 < 8 ∧ f x.2 = 59 then runP ev f L m (x.2 + 1) (l ++ [x.1]) else .inl x.2) else .inr (l ++ [x.1]) := rfl
theorem runP_ok {ev : Int → Int → Int} {f : Int → Int} {L : Int} : ∀ (m : Nat) (p : Int) (l : List zQy), 0 ≤ p → p ≤ L → l.length + m = 8 → (∀ Q ∈ l, qOkP ev f L Q) → (∀ q, runP ev f L m p l = .inl q → p ≤ q ∧ q ≤ L) ∧ ∀ r, runP ev f L m p l = .inr r → r.length ≤ 8 ∧ 0 < r.length ∧ ∀ Q ∈ r, qOkP ev f L Q
  | 0, p, l, h0, h, hl, hq => ⟨fun q e => (by cases e; exact ⟨Int.le_refl p, h⟩), fun r e => (by cases e)⟩
  | m + 1, p, l, h0, h, hl, hq => by
    rw [runP_1]
    obtain ⟨b1, b2⟩ := qryR_ok (ev := ev) (f := f) h0 h
    cases e1 : qryR ev f L p with
    | inl q => exact ⟨fun q' e => (by cases e; exact b1 q e1), fun x e => (by cases e)⟩
    | inr x =>
      have b := b2 x e1
      have hq' : ∀ Q ∈ l ++ [x.1], qOkP ev f L Q := fun Q hQ => by
        rcases List.mem_append.mp hQ with k | k
        · exact hq Q k
        · rw [List.mem_singleton.mp k]
          exact b.2.2
      try dsimp only
      by_cases c : x.2 < L
      · rw [if_pos c]
        by_cases c2 : l.length + 1 < 8 ∧ f x.2 = 59
        · rw [if_pos c2]
          obtain ⟨k1, k2⟩ := runP_ok (ev := ev) (f := f) (L := L) m (x.2 + 1) (l ++ [x.1]) (by omega) (by omega) (by rw [List.length_append]; show l.length + 1 + m = 8; omega) hq'
          exact ⟨fun q e => (by have := k1 q e; omega), k2⟩
        · rw [if_neg c2]
          exact ⟨fun q e => (by cases e; omega), fun r e => (by cases e)⟩
      · rw [if_neg c]
        exact ⟨fun q e => (by cases e), fun r e => (by cases e; rw [List.length_append]; exact ⟨by show l.length + 1 ≤ 8; omega, by show 0 < l.length + 1; omega, hq'⟩)⟩
/-! the class -/
theorem takes_is {σ : zS} (h : tpL σ) (hs : σ 120 3 = -1) {x : Int} (hx : 1 ≤ x) : (σ 120 2 < σ 120 1 ∧ cT σ (σ 120 2) = x → g_ta_takes x σ = some (1, zu σ 120 2 (σ 120 2 + 1))) ∧ (¬ (σ 120 2 < σ 120 1 ∧ cT σ (σ 120 2) = x) → g_ta_takes x σ = some (0, σ)) := by
  rw [p_takes h.i hs hx]
  refine ⟨fun k => ?_, fun k => ?_⟩
  · have e := (tpH_is h hx).mpr k
    rw [if_pos e, if_pos e]
  · have e : ¬ tpH σ = x := fun e => k ((tpH_is h hx).mp e)
    rw [if_neg e, if_neg e]
def rgPo (σ : zS) (r : Sum Int ((Int × Int) × Int)) (v : Int) (s : zS) : Prop := frTa σ s ∧ match r with
  | .inl q => s 120 3 = q
  | .inr x => v = x.1.1 * 32 + x.1.2 ∧ s 120 2 = x.2 ∧ s 120 3 = -1
theorem c_range {σ : zS} (h : tpL σ) (hs : σ 120 3 = -1) : zP' (g_ta_range σ) (rgPo σ (rngR (cT σ) (σ 120 1) (σ 120 2))) := by
  have h2 := h.2.1
  unfold g_ta_range rngR
  obtain ⟨y1, y2⟩ := takes_is h hs (x := 42) (by decide)
  by_cases c : σ 120 2 < σ 120 1 ∧ cT σ (σ 120 2) = 42
  · rw [y1 c, if_pos c]
    rw [Option.bind_some]
    try dsimp +instances only
    rw [if_neg (by decide)]
    exact zP'.ret ⟨frTa.u (Or.inl rfl), rfl, zu_e rfl, (zu_i (by decide)).trans hs⟩
  · rw [y2 c, if_neg c]
    rw [Option.bind_some]
    try dsimp +instances only
    rw [if_pos rfl]
    have N := c_num (w := 2) (lo := 0) (hi := 31) h hs (by decide)
    refine zP'.bind N (fun v s1 p1 => ?_)
    have p1 : cPo σ (numR 2 0 31 (cT σ) (σ 120 1) (σ 120 2)) v s1 := p1
    try dsimp +instances only
    have b1 := numR_bd (w := 2) (lo := 0) (hi := 31) (f := cT σ) h2.2
    cases e1 : numR 2 0 31 (cT σ) (σ 120 1) (σ 120 2) with
    | inl q =>
      obtain ⟨f1, f3⟩ := p1.no e1
      rw [e1] at b1
      have b1 : σ 120 2 ≤ q ∧ q ≤ σ 120 1 := b1
      rw [p_takes0 (by omega) (by decide)]
      rw [Option.bind_some]
      try dsimp +instances only
      rw [if_pos rfl]
      exact zP'.ret ⟨f1, f3⟩
    | inr x =>
      obtain ⟨f1, fv, fp, f3⟩ := p1.ok e1
      rw [e1] at b1
      have b1 : σ 120 2 ≤ x.2 ∧ x.2 ≤ σ 120 1 := b1
      have k := numR_ok (v := x.1) (p' := x.2) e1
      subst fv
      have t1 : tpL s1 := h.mv f1 (by omega)
      have L1 : s1 120 1 = σ 120 1 := f1 120 1 (Or.inr (by decide))
      obtain ⟨z1, z2⟩ := takes_is t1 f3 (x := 45) (by decide)
      rw [cT_f f1, L1, fp] at z1 z2
      unfold rngR1
      try dsimp only
      by_cases c2 : x.2 < σ 120 1 ∧ cT σ x.2 = 45
      · rw [z1 c2, if_pos c2]
        rw [Option.bind_some]
        try dsimp +instances only
        rw [if_neg (by decide)]
        obtain ⟨f, t, s3, s2, sT, sL⟩ := tk_st t1 f3 (by omega)
        rw [fp] at f t s3 s2 sT sL
        generalize zu s1 120 2 (x.2 + 1) = s2' at f t s3 s2 sT sL
        have N2 := c_num (w := 2) (lo := x.1) (hi := 31) t s3 (by decide)
        rw [sT, sL, s2, cT_f f1, L1] at N2
        refine zP'.bind N2 (fun v s3 p3 => ?_)
        have p3 : cPo s2' (numR 2 x.1 31 (cT σ) (σ 120 1) (x.2 + 1)) v s3 := p3
        try dsimp +instances only
        refine zP'.ret ?_
        cases e3 : numR 2 x.1 31 (cT σ) (σ 120 1) (x.2 + 1) with
        | inl q =>
          obtain ⟨g1, g3⟩ := p3.no e3
          exact ⟨(f1.trans f).trans g1, g3⟩
        | inr y =>
          obtain ⟨g1, gv, gp, g3⟩ := p3.ok e3
          have k2 := numR_ok (v := y.1) (p' := y.2) e3
          refine ⟨(f1.trans f).trans g1, ?_, gp, g3⟩
          try dsimp only
          rw [gv, w32_id (x := x.1 * 32) (by omega) (by omega), w32_id (x := x.1 * 32 + y.1) (by omega) (by omega)]
      · rw [z2 c2, if_neg c2]
        rw [Option.bind_some]
        try dsimp +instances only
        rw [if_pos rfl]
        refine zP'.ret ⟨f1, ?_, fp, f3⟩
        try dsimp only
        rw [w32_id (x := x.1 * 32) (by omega) (by omega), w32_id (x := x.1 * 32 + x.1) (by omega) (by omega)]
theorem c_range0 {σ : zS} (hs : σ 120 3 ≠ -1) : zP' (g_ta_range σ) (fun _ s => s = σ) := by
  unfold g_ta_range
  rw [p_takes0 hs (by decide)]
  rw [Option.bind_some]
  try dsimp +instances only
  rw [if_pos rfl]
  refine zP'.bind (p_number0 hs (by decide)) (fun v s p => ?_)
  try dsimp +instances only
  rw [p, p_takes0 hs (by decide)]
  rw [Option.bind_some]
  try dsimp +instances only
  rw [if_pos rfl]
  exact zP'.ret rfl
theorem c_ranges0b {x : Int} {σ : zS} (hs : σ 120 3 ≠ -1) : zP' ((g_ta_wants 32 σ).bind fun o_8 => (g_ta_range o_8.2).bind fun o_12 => (g_ta_isSound o_12.2).bind fun o_17 => if o_17.1 = 0 then some (-1, o_17.2) else (g_b_of (w32 (Int.tdiv x 32)) (Int.tmod x 32) (w32 (Int.tdiv o_12.1 32)) (Int.tmod o_12.1 32) o_17.2).bind fun o_39 => some (o_39.1, o_39.2)) (fun _ s => s = σ) := by
  rw [p_wants0 hs (by decide)]
  rw [Option.bind_some]
  try dsimp +instances only
  refine zP'.bind (c_range0 hs) (fun v s p => ?_)
  try dsimp +instances only
  rw [p, p_isSound, if_neg hs]
  rw [Option.bind_some]
  try dsimp +instances only
  rw [if_pos rfl]
  exact zP'.ret rfl
theorem c_ranges0 {σ : zS} (hs : σ 120 3 ≠ -1) : zP' (g_ta_ranges σ) (fun _ s => s = σ) := by
  unfold g_ta_ranges
  refine zP'.bind (c_range0 hs) (fun v s p => ?_)
  try dsimp +instances only
  rw [p]
  exact c_ranges0b hs
theorem tdm {a b : Int} (ha : 0 ≤ a ∧ a ≤ 31) (hb : 0 ≤ b ∧ b ≤ 31) : w32 (Int.tdiv (a * 32 + b) 32) = a ∧ Int.tmod (a * 32 + b) 32 = b := by
  have e1 : Int.tdiv (a * 32 + b) 32 = a := by
    rw [Int.tdiv_eq_ediv_of_nonneg (by omega)]
    omega
  have e2 : Int.tmod (a * 32 + b) 32 = b := by
    rw [Int.tmod_eq_emod_of_nonneg (by omega)]
    omega
  rw [e1, e2, w32_id (by omega) (by omega)]
  exact ⟨rfl, rfl⟩
/-- the two ranges: the box -/
def rgsR (f : Int → Int) (L : Int) : Sum Int ((Int × Int) × Int) → Sum Int (Bx × Int)
  | .inl q => .inl q
  | .inr x => match sgnR 32 f L x.2 with
    | .inl q => .inl q
    | .inr t => match rngR f L t.2 with
      | .inl q => .inl q
      | .inr y => .inr ((x.1.1, x.1.2, y.1.1, y.1.2), y.2)
def bxPo (σ : zS) (r : Sum Int (Bx × Int)) (v : Int) (s : zS) : Prop := frTa σ s ∧ match r with
  | .inl q => s 120 3 = q
  | .inr x => v = enc x.1 ∧ s 120 2 = x.2 ∧ s 120 3 = -1
theorem c_ranges {σ : zS} (h : tpL σ) (hs : σ 120 3 = -1) : zP' (g_ta_ranges σ) (bxPo σ (rgsR (cT σ) (σ 120 1) (rngR (cT σ) (σ 120 1) (σ 120 2)))) := by
  have h2 := h.2.1
  unfold g_ta_ranges
  refine zP'.bind (c_range h hs) (fun v s1 p1 => ?_)
  obtain ⟨f1, p1⟩ := p1
  try dsimp +instances only
  have b1 := rngR_bd (f := cT σ) h2.2
  cases e1 : rngR (cT σ) (σ 120 1) (σ 120 2) with
  | inl q =>
    rw [e1] at b1 p1
    have b1 : σ 120 2 ≤ q ∧ q ≤ σ 120 1 := b1
    have p1 : s1 120 3 = q := p1
    exact (c_ranges0b (by omega)).imp (fun v s k => by
      rw [k]
      exact ⟨f1, p1⟩)
  | inr x =>
    rw [e1] at b1 p1
    obtain ⟨b1, b1', x1, x2, x3⟩ := b1
    obtain ⟨pv, pp, p3⟩ := p1
    have t1 : tpL s1 := h.mv f1 (by omega)
    have L1 : s1 120 1 = σ 120 1 := f1 120 1 (Or.inr (by decide))
    have W := c_sgn' (x := 32) t1 p3 (by decide)
    rw [cT_f f1, L1, pp] at W
    unfold rgsR
    try dsimp only
    refine zP'.bind W (fun u s2 p2 => ?_)
    try dsimp +instances only
    have b2 := sgnR_bd (x := 32) (f := cT σ) b1'
    cases e2 : sgnR 32 (cT σ) (σ 120 1) x.2 with
    | inl q =>
      obtain ⟨g1, g3⟩ := p2.no e2
      rw [e2] at b2
      have b2 : x.2 ≤ q ∧ q ≤ σ 120 1 := b2
      refine zP'.bind (c_range0 (by omega)) (fun w s3 p3' => ?_)
      try dsimp +instances only
      rw [p3', p_isSound, if_neg (by omega)]
      rw [Option.bind_some]
      try dsimp +instances only
      rw [if_pos rfl]
      exact zP'.ret ⟨f1.trans g1, g3⟩
    | inr t =>
      obtain ⟨g1, -, gp, g3⟩ := p2.ok e2
      rw [e2] at b2
      have b2 : x.2 ≤ t.2 ∧ t.2 ≤ σ 120 1 := b2
      have g12 := f1.trans g1
      have t2 : tpL s2 := h.mv g12 (by omega)
      have L2 : s2 120 1 = σ 120 1 := g12 120 1 (Or.inr (by decide))
      have R := c_range t2 g3
      rw [cT_f g12, L2, gp] at R
      try dsimp only
      refine zP'.bind R (fun w s3 p3' => ?_)
      obtain ⟨i1, p3'⟩ := p3'
      try dsimp +instances only
      have b3 := rngR_bd (f := cT σ) b2.2
      rw [p_isSound]
      rw [Option.bind_some]
      try dsimp +instances only
      cases e3 : rngR (cT σ) (σ 120 1) t.2 with
      | inl q =>
        rw [e3] at b3 p3'
        have b3 : t.2 ≤ q ∧ q ≤ σ 120 1 := b3
        have p3' : s3 120 3 = q := p3'
        have n3 : ¬ s3 120 3 = -1 := by omega
        rw [if_neg n3, if_pos rfl]
        exact zP'.ret ⟨g12.trans i1, p3'⟩
      | inr y =>
        rw [e3] at b3 p3'
        obtain ⟨-, -, y1, y2, y3⟩ := b3
        obtain ⟨qv, qp, q3⟩ := p3'
        obtain ⟨m1, m2⟩ := tdm (a := x.1.1) (b := x.1.2) (by omega) (by omega)
        obtain ⟨m3, m4⟩ := tdm (a := y.1.1) (b := y.1.2) (by omega) (by omega)
        have hB := b_of (b := (x.1.1, x.1.2, y.1.1, y.1.2)) (by dsimp only [sOk]; omega) s3
        dsimp only at hB
        rw [if_pos q3, if_neg (by decide), pv, qv, m1, m2, m3, m4, hB]
        rw [Option.bind_some]
        exact zP'.ret ⟨g12.trans i1, rfl, qp, q3⟩
end
section
/-! 6r.parts -/
/-! QUERIES AS A TEXT: the class -/
def frQu (σ s : zS) : Prop := ∀ a j, (a ≠ 120 ∨ (j ≠ 2 ∧ j ≠ 3)) → a ≠ 123 → a ≠ 124 → a ≠ 125 → (a ≠ 122 ∨ j ≠ 5) → s a j = σ a j
theorem frQu.refl (σ : zS) : frQu σ σ := fun _ _ _ _ _ _ _ => rfl
theorem frQu.of {σ s : zS} (h : frTa σ s) : frQu σ s := fun a j k _ _ _ _ => h a j k
theorem frQu.trans {σ s t : zS} (h1 : frQu σ s) (h2 : frQu s t) : frQu σ t := fun a j k1 k2 k3 k4 k5 => (h2 a j k1 k2 k3 k4 k5).trans (h1 a j k1 k2 k3 k4 k5)
theorem frQu.u {σ : zS} {a : Nat} {i v : Int} (h : a = 123 ∨ a = 124 ∨ a = 125 ∨ (a = 122 ∧ i = 5)) : frQu σ (zu σ a i v) := fun b j k1 k2 k3 k4 k5 => zu_c (by omega)
/-- what a part's reading leaves: the tape, the rows -/
theorem frQu.L {σ s : zS} (f : frQu σ s) : s 120 1 = σ 120 1 := f 120 1 (Or.inr (by decide)) (by decide) (by decide) (by decide) (Or.inl (by decide))
theorem frQu.T {σ s : zS} (f : frQu σ s) : cT s = cT σ := by
  funext j
  unfold cT
  rw [f.L, f 121 j (Or.inl (by decide)) (by decide) (by decide) (by decide) (Or.inl (by decide))]
theorem frQu.t {σ s : zS} (f : frQu σ s) (h : tpL σ) (h2 : 0 ≤ s 120 2 ∧ s 120 2 ≤ σ 120 1) : tpL s := by
  have e2 : s 121 = σ 121 := funext (fun j => f 121 j (Or.inl (by decide)) (by decide) (by decide) (by decide) (Or.inl (by decide)))
  unfold tpL
  rw [f.L, e2]
  exact ⟨h.1, h2, h.2.2⟩
theorem exOk.q {I : Nat → Bool} {ev : Int → Int → Int} {σ s : zS} (h : exOk I ev σ) (f : frQu σ s) (H : CI s) : exOk I ev s := by
  refine ⟨H, ST_E h.2.1 (fun a j k => f a j (Or.inl (by unfold stK at k; omega)) (by unfold stK at k; omega) (by unfold stK at k; omega) (by unfold stK at k; omega) (Or.inl (by unfold stK at k; omega))), fun q hq hI l l0 l3 => ?_⟩
  rw [← h.2.2 q hq hI l l0 l3]
  unfold cev
  rw [f 44 _ (Or.inl (by decide)) (by decide) (by decide) (by decide) (Or.inl (by decide)), f 42 _ (Or.inl (by decide)) (by decide) (by decide) (by decide) (Or.inl (by decide)), f 43 _ (Or.inl (by decide)) (by decide) (by decide) (by decide) (Or.inl (by decide))]
def riPo (I : Nat → Bool) (σ : zS) (r : zQr) (v : Int) (s : zS) : Prop := frTa σ s ∧ match r with
  | .inl q => s 120 3 = q
  | .inr x => s 120 2 = x.2 ∧ s 120 3 = -1 ∧ btE I v x.1.2.2.2
theorem c_if0b {σ : zS} (hs : σ 120 3 ≠ -1) : zP' ((g_ta_wants 32 σ).bind fun o_32 => (g_grp68 zR 68 0 o_32.2).bind fun o_37 => some (o_37.1, o_37.2)) (fun _ s => s = σ) := by
  rw [p_wants0 hs (by decide)]
  rw [Option.bind_some]
  try dsimp +instances only
  exact zP'.bind ((c_ex0 hs zR).1 0) (fun v s p => zP'.ret p)
theorem c_if0 {σ : zS} (hs : σ 120 3 ≠ -1) : zP' (g_qu_readIf σ) (fun _ s => s = σ) := by
  unfold g_qu_readIf
  rw [p_takes0 hs (by decide)]
  rw [Option.bind_some]
  try dsimp +instances only
  rw [if_neg (by decide)]
  exact zP'.ret rfl
theorem c_if {I : Nat → Bool} {ev : Int → Int → Int} {m : Int} {B : Bx} {σ : zS} (h : tpL σ) (hs : σ 120 3 = -1) (O : exOk I ev σ) : zP' (g_qu_readIf σ) (riPo I σ (qryF ev (cT σ) (σ 120 1) m B (σ 120 2))) := by
  have h1 := h.1
  have h2 := h.2.1
  unfold g_qu_readIf qryF
  obtain ⟨y1, y2⟩ := takes_is h hs (x := 32) (by decide)
  by_cases c : σ 120 2 < σ 120 1 ∧ cT σ (σ 120 2) = 32
  · rw [y1 c, if_pos c]
    rw [Option.bind_some]
    try dsimp +instances only
    rw [if_pos (by decide)]
    obtain ⟨f, t, s3, s2, sT, sL⟩ := tk_st h hs c.1
    generalize zu σ 120 2 (σ 120 2 + 1) = s1 at f t s3 s2 sT sL
    have W := c_wrd swk5 t s3
    rw [sT, sL, s2] at W
    refine zP'.bind W (fun w s4 p4 => ?_)
    obtain ⟨p4, -⟩ := p4
    try dsimp +instances only
    have b1 := wrdR_bd (a := 5) (Ln := 2) (f := cT σ) (L := σ 120 1) (p := σ 120 2 + 1) (by omega)
    cases e1 : wrdR 5 2 (cT σ) (σ 120 1) (σ 120 2 + 1) with
    | inl q =>
      obtain ⟨g1, g3⟩ := p4.no e1
      rw [e1] at b1
      have b1 : σ 120 2 + 1 ≤ q ∧ q ≤ σ 120 1 := b1
      exact (c_if0b (by omega)).imp (fun v s k => by
        rw [k]
        exact ⟨f.trans g1, g3⟩)
    | inr x =>
      obtain ⟨g1, -, gp, g3⟩ := p4.ok e1
      rw [e1] at b1
      have b1 : σ 120 2 + 1 ≤ x.2 ∧ x.2 ≤ σ 120 1 := b1
      have fg := f.trans g1
      have t4 : tpL s4 := h.mv fg (by omega)
      have L4 : s4 120 1 = σ 120 1 := fg 120 1 (Or.inr (by decide))
      have W2 := c_sgn' (x := 32) t4 g3 (by decide)
      rw [cT_f fg, L4, gp] at W2
      dsimp only [qryI]
      refine zP'.bind W2 (fun u s5 p5 => ?_)
      try dsimp +instances only
      have b2 := sgnR_bd (x := 32) (f := cT σ) b1.2
      cases e2 : sgnR 32 (cT σ) (σ 120 1) x.2 with
      | inl q =>
        obtain ⟨i1, i3⟩ := p5.no e2
        rw [e2] at b2
        have b2 : x.2 ≤ q ∧ q ≤ σ 120 1 := b2
        refine zP'.bind ((c_ex0 (by omega) zR).1 0) (fun v s p => zP'.ret ?_)
        try dsimp only
        rw [p]
        exact ⟨fg.trans i1, i3⟩
      | inr y =>
        obtain ⟨i1, -, ip, i3⟩ := p5.ok e2
        rw [e2] at b2
        have b2 : x.2 ≤ y.2 ∧ y.2 ≤ σ 120 1 := b2
        have fi := fg.trans i1
        have t5 : tpL s5 := h.mv fi (by omega)
        have L5 : s5 120 1 = σ 120 1 := fi 120 1 (Or.inr (by decide))
        have X := (c_expr (I := I) (ev := ev) 700).1 zR 0 (fun _ => true) s5 t5 i3 (O.f fi t5) (by decide) (by decide) (by rw [L5, ip]; omega)
        rw [cT_f fi, L5, ip] at X
        dsimp only [qryS]
        refine zP'.bind X (fun v s p => zP'.ret ?_)
        obtain ⟨p1, p2⟩ := p
        try dsimp only
        cases e3 : eP ev (cT σ) (σ 120 1) 700 0 0 y.2 (fun _ => true) with
        | inl q =>
          rw [e3] at p2
          exact ⟨fi.trans p1, p2⟩
        | inr z =>
          rw [e3] at p2
          exact ⟨fi.trans p1, p2⟩
  · rw [y2 c, if_neg c]
    rw [Option.bind_some]
    try dsimp +instances only
    rw [if_neg (by decide)]
    exact zP'.ret ⟨frTa.refl σ, rfl, hs, fun q hq _ => bq_m1 (by omega)⟩
/-! the parts -/
def quT4 (n : Nat) (x : Int) (σ : zS) : Option (Unit × zS) := if 8 ≤ zu σ 122 5 (w32 (x + 1)) 122 5 then g_qu_readParts_L91 (g_qu_readParts_L9 n) x 0 (zu σ 122 5 (w32 (x + 1))) else g_qu_readParts_L91 (g_qu_readParts_L9 n) x 1 (zu σ 122 5 (w32 (x + 1)))
def quT3 (n : Nat) (x : Int) (σ : zS) : Option (Unit × zS) := (g_qu_readIf σ).bind fun o => if 0 ≤ x ∧ x < 8 then quT4 n x (zu o.2 125 x o.1) else none
def quT2 (n : Nat) (x : Int) (σ : zS) : Option (Unit × zS) := (g_ta_ranges σ).bind fun o => if 0 ≤ x ∧ x < 8 then quT3 n x (zu o.2 124 x o.1) else none
def quT1 (n : Nat) (x : Int) (σ : zS) : Option (Unit × zS) := (g_ta_wants 32 σ).bind fun o => quT2 n x o.2
theorem qu_eq {n : Nat} {x : Int} {σ : zS} (hx : x < 8) : g_qu_readParts_L9 (n + 1) 1 x σ = (g_ta_word 4 σ).bind fun o => if 0 ≤ x ∧ x < 8 then quT1 n x (zu o.2 123 x o.1) else none := by
  conv => lhs; unfold g_qu_readParts_L9
  rw [if_neg (by decide), if_neg (by omega)]
  rfl
def quN (σ : zS) (s : zS) : Prop := frQu σ s ∧ s 120 3 = σ 120 3
theorem q_t4 {n : Nat} {x : Int} {σ : zS} (hs : σ 120 3 ≠ -1) : zP' (quT4 n x σ) (fun _ s => quN σ s) := by
  have k : ∀ (m : Int) (s : zS), s 120 3 ≠ -1 → zP' (g_qu_readParts_L91 (g_qu_readParts_L9 n) x m s) (fun _ t => t = s) := fun m s h => by
    unfold g_qu_readParts_L91
    rw [p_another0 h]
    rw [Option.bind_some]
    try dsimp +instances only
    cases n with
    | zero => exact zP'.no
    | succ n =>
      unfold g_qu_readParts_L9
      rw [if_pos rfl]
      exact zP'.ret rfl
  have z3 : zu σ 122 5 (w32 (x + 1)) 120 3 = σ 120 3 := zu_a (by decide)
  have fin : ∀ t : zS, t = zu σ 122 5 (w32 (x + 1)) → quN σ t := fun t e => by
    rw [e]
    exact ⟨frQu.u (by omega), z3⟩
  unfold quT4
  exact zP'.ite (fun _ => (k _ _ (by rw [z3]; exact hs)).imp (fun _ t e => fin t e)) (fun _ => (k _ _ (by rw [z3]; exact hs)).imp (fun _ t e => fin t e))
theorem quN.tr {σ s t : zS} (f : frQu σ s) (e : s 120 3 = σ 120 3) (h : quN s t) : quN σ t := ⟨f.trans h.1, h.2.trans e⟩
theorem q_t3 {n : Nat} {x : Int} {σ : zS} (hs : σ 120 3 ≠ -1) : zP' (quT3 n x σ) (fun _ s => quN σ s) := by
  unfold quT3
  refine zP'.bind (c_if0 hs) (fun v s p => ?_)
  try dsimp +instances only
  rw [p]
  refine zP'.gd (fun _ => ?_)
  have z3 : zu σ 125 x v 120 3 = σ 120 3 := zu_a (by decide)
  exact (q_t4 (by rw [z3]; exact hs)).imp (fun _ t k => k.tr (frQu.u (by omega)) z3)
theorem q_t2 {n : Nat} {x : Int} {σ : zS} (hs : σ 120 3 ≠ -1) : zP' (quT2 n x σ) (fun _ s => quN σ s) := by
  unfold quT2
  refine zP'.bind (c_ranges0 hs) (fun v s p => ?_)
  try dsimp +instances only
  rw [p]
  refine zP'.gd (fun _ => ?_)
  have z3 : zu σ 124 x v 120 3 = σ 120 3 := zu_a (by decide)
  exact (q_t3 (by rw [z3]; exact hs)).imp (fun _ t k => k.tr (frQu.u (by omega)) z3)
theorem q_t1 {n : Nat} {x : Int} {σ : zS} (hs : σ 120 3 ≠ -1) : zP' (quT1 n x σ) (fun _ s => quN σ s) := by
  unfold quT1
  rw [p_wants0 hs (by decide)]
  rw [Option.bind_some]
  exact q_t2 hs
/-- what the class has of the parts read so far -/
def quH (I : Nat → Bool) (l : List zQy) (s : zS) : Prop := ∀ (i : Nat) (hi : i < l.length), s 123 (i : Int) = l[i].1 ∧ s 124 (i : Int) = enc l[i].2.1 ∧ btE I (s 125 (i : Int)) l[i].2.2.2
def quPo (I : Nat → Bool) (σ : zS) (r : Sum Int (List zQy)) (s : zS) : Prop := frQu σ s ∧ match r with
  | .inl q => s 120 3 = q
  | .inr l => s 120 3 = -1 ∧ s 122 5 = (l.length : Int) ∧ quH I l s
theorem quPo.tr {I : Nat → Bool} {σ s t : zS} {r : Sum Int (List zQy)} (f : frQu σ s) (h : quPo I s r t) : quPo I σ r t := by
  obtain ⟨h1, h2⟩ := h
  exact ⟨f.trans h1, h2⟩
theorem quN.po {I : Nat → Bool} {σ s t : zS} {q : Int} (f : frQu σ s) (e : s 120 3 = q) (h : quN s t) : quPo I σ (.inl q) t := ⟨f.trans h.1, h.2.trans e⟩
theorem CI_Qu {σ s : zS} (H : CI σ) (f : frQu σ s) (h2 : 0 ≤ s 120 2 ∧ s 120 2 ≤ 160) (h5 : 0 ≤ s 122 5 ∧ s 122 5 ≤ 8) : CI s := by
  refine ⟨fun a j => ?_, ?_⟩
  · by_cases c : (a = 120 ∧ (j = 2 ∨ j = 3)) ∨ a = 123 ∨ a = 124 ∨ a = 125 ∨ (a = 122 ∧ j = 5)
    · intro lo hi k
      rcases c with ⟨rfl, rfl | rfl⟩ | rfl | rfl | rfl | ⟨rfl, rfl⟩
      · have k2 : rng 120 2 = some (0, 160) := rfl
        rw [k2] at k
        cases k
        exact h2
      · have k2 : rng 120 3 = none := rfl
        rw [k2] at k
        cases k
      · have k2 : rng 123 j = none := rfl
        rw [k2] at k
        cases k
      · have k2 : rng 124 j = none := rfl
        rw [k2] at k
        cases k
      · have k2 : rng 125 j = none := rfl
        rw [k2] at k
        cases k
      · have k2 : rng 122 5 = some (0, 8) := rfl
        rw [k2] at k
        cases k
        exact h5
    · rw [f a j (by omega) (by omega) (by omega) (by omega) (by omega)]
      exact H.1 a j
  · unfold PG
    rw [f 129 1 (Or.inl (by decide)) (by decide) (by decide) (by decide) (Or.inl (by decide)), f 129 3 (Or.inl (by decide)) (by decide) (by decide) (by decide) (Or.inl (by decide)), f 169 0 (Or.inl (by decide)) (by decide) (by decide) (by decide) (Or.inl (by decide))]
    exact H.2
theorem quH_snoc {I : Nat → Bool} {l : List zQy} {Q : zQy} {σ s : zS} (hq : quH I l σ) (o : ∀ (a : Nat) (i : Nat), i < l.length → (a = 123 ∨ a = 124 ∨ a = 125) → s a (i : Int) = σ a (i : Int)) (n1 : s 123 (l.length : Int) = Q.1) (n2 : s 124 (l.length : Int) = enc Q.2.1) (n3 : btE I (s 125 (l.length : Int)) Q.2.2.2) : quH I (l ++ [Q]) s := fun i hi => by
  rw [List.length_append] at hi
  have hi : i < l.length + 1 := hi
  by_cases ci : i < l.length
  · rw [List.getElem_append_left ci, o 123 i ci (by omega), o 124 i ci (by omega), o 125 i ci (by omega)]
    exact hq i ci
  · have ei : i = l.length := by omega
    subst ei
    rw [List.getElem_append_right (by omega)]
    have e0 : ([Q] : List zQy)[l.length - l.length]'(by rw [Nat.sub_self]; exact Nat.one_pos) = Q := by
      simp
    rw [e0]
    exact ⟨n1, n2, n3⟩
theorem app_len {l : List zQy} {Q : zQy} : ((l ++ [Q]).length : Int) = (l.length : Int) + 1 := by
  rw [List.length_append]
  show ((l.length + 1 : Nat) : Int) = (l.length : Int) + 1
  omega
/-- behind a part that was read -/
theorem c_tail {I : Nat → Bool} {ev : Int → Int → Int} {n m : Nat} {l : List zQy} {Q : zQy} {p' : Int} {σ s5 : zS} (h : tpL σ) (F5 : frQu σ s5) (h0 : 0 ≤ p') (h1 : p' ≤ σ 120 1) (e52 : s5 120 2 = p') (e53 : s5 120 3 = -1) (e5b : s5 122 5 = (l.length : Int) + 1) (O5 : exOk I ev s5) (hq5 : quH I (l ++ [Q]) s5) (hl : l.length + 1 + m = 8) (rec : 0 < m → ∀ s6, tpL s6 → s6 120 3 = -1 → exOk I ev s6 → s6 120 2 = p' + 1 → frQu σ s6 → quH I (l ++ [Q]) s6 → zP' (g_qu_readParts_L9 n 1 ((l ++ [Q]).length : Int) s6) (fun _ s => quPo I s6 (runP ev (cT σ) (σ 120 1) m (p' + 1) (l ++ [Q])) s)) : zP' (if 8 ≤ (l.length : Int) + 1 then g_qu_readParts_L91 (g_qu_readParts_L9 n) (l.length : Int) 0 s5 else g_qu_readParts_L91 (g_qu_readParts_L9 n) (l.length : Int) 1 s5) (fun _ s => quPo I σ (if p' < σ 120 1 then (if l.length + 1 < 8 ∧ cT σ p' = 59 then runP ev (cT σ) (σ 120 1) m (p' + 1) (l ++ [Q]) else .inl p') else .inr (l ++ [Q])) s) := by
  have t5 : tpL s5 := F5.t h (by rw [e52]; exact ⟨h0, h1⟩)
  have ex := w32_id (x := (l.length : Int) + 1) (by omega) (by omega)
  have stop : ∀ (k : Nat) (x : Int) (s6 : zS), zP' (g_qu_readParts_L9 k 0 x s6) (fun _ s => s = s6) := fun k x s6 => by
    cases k with
    | zero => exact zP'.no
    | succ k =>
      unfold g_qu_readParts_L9
      rw [if_pos rfl]
      exact zP'.ret rfl
  refine zP'.ite (fun c8 => ?_) (fun c8 => ?_)
  · unfold g_qu_readParts_L91 g_ta_another
    rw [if_pos rfl]
    unfold g_ta_another_L15
    rw [p_here t5.i e53, tpH_cT t5, F5.T, F5.L, e52]
    rw [Option.bind_some]
    try dsimp +instances only
    by_cases cl : p' < σ 120 1
    · have nb := h.2.2 p' h0 cl
      rw [cT_e (p := p') h0 p' (Int.le_refl _) cl] at nb
      have n8 : ¬ (l.length + 1 < 8 ∧ cT σ p' = 59) := fun k => by omega
      have nz : ¬ cT σ p' = 0 := by omega
      rw [if_pos cl, if_pos cl, if_neg nz, if_neg n8, p_blame, if_pos e53]
      rw [Option.bind_some]
      rw [Option.bind_some]
      try dsimp +instances only
      exact (stop n _ _).imp (fun _ s k => by
        rw [k]
        exact ⟨F5.trans (frQu.of (frTa.u (Or.inr rfl))), by show zu s5 120 3 (s5 120 2) 120 3 = p'; rw [zu_e rfl, e52]⟩)
    · rw [if_neg cl, if_neg cl, if_pos rfl]
      rw [Option.bind_some]
      try dsimp +instances only
      exact (stop n _ s5).imp (fun _ s k => by
        rw [k]
        exact ⟨F5, e53, e5b.trans app_len.symm, hq5⟩)
  · unfold g_qu_readParts_L91
    refine zP'.bind (c_more t5 e53) (fun a' s6 p6 => ?_)
    obtain ⟨m0, m1, m2, m3⟩ := p6
    rw [e52, F5.L] at m1 m2 m3
    rw [F5.T] at m2 m3
    try dsimp +instances only
    by_cases cl : p' < σ 120 1
    · rw [if_pos cl]
      by_cases c59 : cT σ p' = 59
      · obtain ⟨rfl, m2b, m2c⟩ := m2 ⟨cl, c59⟩
        rw [if_pos ⟨by omega, c59⟩, ex, ← app_len (Q := Q)]
        have F6 := F5.trans (frQu.of m0)
        have t6 : tpL s6 := F6.t h (by rw [m2b]; omega)
        have hq6 : quH I (l ++ [Q]) s6 := fun i hi => by
          have k := hq5 i hi
          rw [m0 123 _ (Or.inl (by decide)), m0 124 _ (Or.inl (by decide)), m0 125 _ (Or.inl (by decide))]
          exact k
        exact (rec (by omega) s6 t6 m2c (O5.f m0 t6) m2b F6 hq6).imp (fun _ s k => k.tr F6)
      · obtain ⟨rfl, m3b⟩ := m3 ⟨cl, c59⟩
        rw [if_neg (fun k => c59 k.2)]
        exact (stop n _ s6).imp (fun _ s k => by
          rw [k]
          exact ⟨F5.trans (frQu.of m0), m3b⟩)
    · obtain ⟨rfl, rfl⟩ := m1 (by omega)
      rw [if_neg cl]
      exact (stop n _ s6).imp (fun _ s k => by
        rw [k]
        exact ⟨F5, e53, e5b.trans app_len.symm, hq5⟩)
theorem c_runP {I : Nat → Bool} {ev : Int → Int → Int} : ∀ (n m : Nat) (l : List zQy) (σ : zS), tpL σ → σ 120 3 = -1 → exOk I ev σ → l.length + m = 8 → 0 < m → quH I l σ → zP' (g_qu_readParts_L9 n 1 (l.length : Int) σ) (fun _ s => quPo I σ (runP ev (cT σ) (σ 120 1) m (σ 120 2) l) s)
  | 0, _, _, _, _, _, _, _, _, _ => zP'.no
  | n + 1, m, l, σ, h, hs, O, hl, hm, hq => by
    have h1 := h.1
    have h2 := h.2.1
    obtain ⟨m, rfl⟩ : ∃ q, m = q + 1 := ⟨m - 1, by omega⟩
    have len7 : 0 ≤ (l.length : Int) + 1 ∧ (l.length : Int) + 1 ≤ 8 := by omega
    rw [qu_eq (by omega), runP_1]
    unfold qryR
    refine zP'.bind (c_wrd swk4 h hs) (fun v s1 p1 => ?_)
    obtain ⟨p1, -⟩ := p1
    refine zP'.gd (fun _ => ?_)
    try dsimp +instances only
    have b1 := wrdR_bd (a := 4) (Ln := 36) (f := cT σ) h2.2
    have z : frQu s1 (zu s1 123 (l.length : Int) v) := frQu.u (by omega)
    have z3 : zu s1 123 (l.length : Int) v 120 3 = s1 120 3 := zu_a (by decide)
    have z2 : zu s1 123 (l.length : Int) v 120 2 = s1 120 2 := zu_a (by decide)
    have zv : zu s1 123 (l.length : Int) v 123 (l.length : Int) = v := zu_e rfl
    have zo : ∀ a j, (a ≠ 123 ∨ j ≠ (l.length : Int)) → zu s1 123 (l.length : Int) v a j = s1 a j := fun a j k => zu_c k
    generalize zu s1 123 (l.length : Int) v = s1' at z z3 z2 zv zo
    cases e1 : wrdR 4 36 (cT σ) (σ 120 1) (σ 120 2) with
    | inl q =>
      obtain ⟨f1, f3⟩ := p1.no e1
      rw [e1] at b1
      have b1 : σ 120 2 ≤ q ∧ q ≤ σ 120 1 := b1
      exact (q_t1 (by omega)).imp (fun _ t k => k.po ((frQu.of f1).trans z) (z3.trans f3))
    | inr x =>
      obtain ⟨f1, fv, fp, f3⟩ := p1.ok e1
      rw [e1] at b1
      have b1 : σ 120 2 ≤ x.2 ∧ x.2 ≤ σ 120 1 := b1
      subst fv
      have F1 := (frQu.of f1).trans z
      have t1 : tpL s1' := F1.t h (by omega)
      have W := c_sgn' (x := 32) t1 (by omega) (by decide)
      rw [F1.T, F1.L, z2, fp] at W
      dsimp only [qryV]
      unfold quT1
      refine zP'.bind W (fun u s2 p2 => ?_)
      try dsimp +instances only
      have b2 := sgnR_bd (x := 32) (f := cT σ) b1.2
      cases e2 : sgnR 32 (cT σ) (σ 120 1) x.2 with
      | inl q =>
        obtain ⟨g1, g3⟩ := p2.no e2
        rw [e2] at b2
        have b2 : x.2 ≤ q ∧ q ≤ σ 120 1 := b2
        exact (q_t2 (by omega)).imp (fun _ t k => k.po (F1.trans (frQu.of g1)) g3)
      | inr y =>
        obtain ⟨g1, -, gp, g3⟩ := p2.ok e2
        rw [e2] at b2
        have b2 : x.2 ≤ y.2 ∧ y.2 ≤ σ 120 1 := b2
        have F2 := F1.trans (frQu.of g1)
        have t2 : tpL s2 := F2.t h (by omega)
        have R := c_ranges t2 g3
        rw [F2.T, F2.L, gp] at R
        dsimp only [qryA]
        unfold quT2
        refine zP'.bind R (fun bx s3 p3 => ?_)
        obtain ⟨i1, p3⟩ := p3
        refine zP'.gd (fun _ => ?_)
        try dsimp +instances only
        have F3 := F2.trans (frQu.of i1)
        have w : frQu s3 (zu s3 124 (l.length : Int) bx) := frQu.u (by omega)
        have w3 : zu s3 124 (l.length : Int) bx 120 3 = s3 120 3 := zu_a (by decide)
        have w2 : zu s3 124 (l.length : Int) bx 120 2 = s3 120 2 := zu_a (by decide)
        have wv : zu s3 124 (l.length : Int) bx 124 (l.length : Int) = bx := zu_e rfl
        have wo : ∀ a j, (a ≠ 124 ∨ j ≠ (l.length : Int)) → zu s3 124 (l.length : Int) bx a j = s3 a j := fun a j k => zu_c k
        generalize zu s3 124 (l.length : Int) bx = s3' at w w3 w2 wv wo
        have F3' := F3.trans w
        have b3 := rngR_bd (f := cT σ) b2.2
        cases e3 : rngR (cT σ) (σ 120 1) y.2 with
        | inl q =>
          rw [e3] at b3 p3
          have b3 : y.2 ≤ q ∧ q ≤ σ 120 1 := b3
          have p3 : s3 120 3 = q := p3
          exact (q_t3 (by omega)).imp (fun _ t k => k.po F3' (w3.trans p3))
        | inr a =>
          rw [e3] at b3 p3
          obtain ⟨b3, b3', a1, a2, a3⟩ := b3
          unfold rgsR at p3
          dsimp only [qryX] at p3 ⊢
          have b4 := sgnR_bd (x := 32) (f := cT σ) b3'
          cases e4 : sgnR 32 (cT σ) (σ 120 1) a.2 with
          | inl q =>
            rw [e4] at b4 p3
            have b4 : a.2 ≤ q ∧ q ≤ σ 120 1 := b4
            have p3 : s3 120 3 = q := p3
            exact (q_t3 (by omega)).imp (fun _ t k => k.po F3' (w3.trans p3))
          | inr t =>
            rw [e4] at b4 p3
            have b4 : a.2 ≤ t.2 ∧ t.2 ≤ σ 120 1 := b4
            dsimp only [qryB] at p3 ⊢
            have b5 := rngR_bd (f := cT σ) b4.2
            cases e5 : rngR (cT σ) (σ 120 1) t.2 with
            | inl q =>
              rw [e5] at b5 p3
              have b5 : t.2 ≤ q ∧ q ≤ σ 120 1 := b5
              have p3 : s3 120 3 = q := p3
              exact (q_t3 (by omega)).imp (fun _ t k => k.po F3' (w3.trans p3))
            | inr c =>
              rw [e5] at b5 p3
              obtain ⟨b5, b5', -⟩ := b5
              obtain ⟨pb, pp, p33⟩ := p3
              have pb : bx = enc (a.1.1, a.1.2, c.1.1, c.1.2) := pb
              have pp : s3 120 2 = c.2 := pp
              dsimp only [qryY]
              have t3 : tpL s3' := F3'.t h (by omega)
              have e5' : s3' 122 5 = σ 122 5 := by
                rw [wo 122 5 (Or.inl (by decide)), i1 122 5 (Or.inl (by decide)), g1 122 5 (Or.inl (by decide)), zo 122 5 (Or.inl (by decide)), f1 122 5 (Or.inl (by decide))]
              have O3 : exOk I ev s3' := O.q F3' (CI_Qu O.1 F3' (by omega) (by rw [e5']; exact CI.cq O.1))
              have X := c_if (I := I) (ev := ev) (m := x.1) (B := (a.1.1, a.1.2, c.1.1, c.1.2)) t3 (by omega) O3
              rw [F3'.T, F3'.L, w2, pp] at X
              unfold quT3
              refine zP'.bind X (fun rw' s4 p4 => ?_)
              obtain ⟨j1, p4⟩ := p4
              refine zP'.gd (fun _ => ?_)
              try dsimp +instances only
              have F4 := F3'.trans (frQu.of j1)
              have y0 : frQu s4 (zu s4 125 (l.length : Int) rw') := frQu.u (by omega)
              have y3 : zu s4 125 (l.length : Int) rw' 120 3 = s4 120 3 := zu_a (by decide)
              have y2 : zu s4 125 (l.length : Int) rw' 120 2 = s4 120 2 := zu_a (by decide)
              have yv : zu s4 125 (l.length : Int) rw' 125 (l.length : Int) = rw' := zu_e rfl
              have yo : ∀ a j, (a ≠ 125 ∨ j ≠ (l.length : Int)) → zu s4 125 (l.length : Int) rw' a j = s4 a j := fun a j k => zu_c k
              generalize zu s4 125 (l.length : Int) rw' = s4' at y0 y3 y2 yv yo
              have F4' := F4.trans y0
              obtain ⟨d1, d2⟩ := qryR_ok (ev := ev) (f := cT σ) (L := σ 120 1) h2.1 h2.2
              have eR : qryR ev (cT σ) (σ 120 1) (σ 120 2) = qryF ev (cT σ) (σ 120 1) x.1 (a.1.1, a.1.2, c.1.1, c.1.2) c.2 := by
                unfold qryR
                rw [e1]
                dsimp only [qryV]
                rw [e2]
                dsimp only [qryA]
                rw [e3]
                dsimp only [qryX]
                rw [e4]
                dsimp only [qryB]
                rw [e5]
                rfl
              rw [eR] at d1 d2
              cases e6 : qryF ev (cT σ) (σ 120 1) x.1 (a.1.1, a.1.2, c.1.1, c.1.2) c.2 with
              | inl q =>
                have d1 := d1 q e6
                rw [e6] at p4
                have p4 : s4 120 3 = q := p4
                exact (q_t4 (by omega)).imp (fun _ t k => k.po F4' (y3.trans p4))
              | inr Q =>
                have d2 := d2 Q e6
                rw [e6] at p4
                obtain ⟨q2, q3, qb⟩ := p4
                have qm : Q.1.1 = x.1 ∧ Q.1.2.1 = (a.1.1, a.1.2, c.1.1, c.1.2) := by
                  unfold qryF at e6
                  split at e6
                  · cases k1 : wrdR 5 2 (cT σ) (σ 120 1) (c.2 + 1) with
                    | inl q =>
                      rw [k1] at e6
                      cases e6
                    | inr r =>
                      rw [k1] at e6
                      dsimp only [qryI] at e6
                      cases k2 : sgnR 32 (cT σ) (σ 120 1) r.2 with
                      | inl q =>
                        rw [k2] at e6
                        cases e6
                      | inr r2 =>
                        rw [k2] at e6
                        dsimp only [qryS] at e6
                        cases k3 : eP ev (cT σ) (σ 120 1) 700 0 0 r2.2 (fun _ => true) with
                        | inl q =>
                          rw [k3] at e6
                          cases e6
                        | inr r3 =>
                          rw [k3] at e6
                          cases e6
                          exact ⟨rfl, rfl⟩
                  · cases e6
                    exact ⟨rfl, rfl⟩
                try dsimp only
                have ex := w32_id (x := (l.length : Int) + 1) (by omega) (by omega)
                have v0 : frQu s4' (zu s4' 122 5 ((l.length : Int) + 1)) := frQu.u (Or.inr (Or.inr (Or.inr ⟨rfl, rfl⟩)))
                have v3 : zu s4' 122 5 ((l.length : Int) + 1) 120 3 = s4' 120 3 := zu_a (by decide)
                have v2 : zu s4' 122 5 ((l.length : Int) + 1) 120 2 = s4' 120 2 := zu_a (by decide)
                have v5 : zu s4' 122 5 ((l.length : Int) + 1) 122 5 = (l.length : Int) + 1 := zu_e rfl
                have vo : ∀ a j, a ≠ 122 → zu s4' 122 5 ((l.length : Int) + 1) a j = s4' a j := fun a j k => zu_a k
                unfold quT4
                rw [ex]
                generalize zu s4' 122 5 ((l.length : Int) + 1) = s5 at v0 v3 v2 v5 vo
                rw [v5]
                have F5 := F4'.trans v0
                have e52 : s5 120 2 = Q.2 := by rw [v2, y2, q2]
                have e53 : s5 120 3 = -1 := by rw [v3, y3, q3]
                have hQ0 : 0 ≤ Q.2 := Int.le_of_lt (Int.lt_of_le_of_lt h2.1 d2.1)
                have O5 : exOk I ev s5 := O.q F5 (CI_Qu O.1 F5 (by rw [e52]; exact ⟨hQ0, Int.le_trans d2.2.1 h1.2⟩) (by rw [v5]; exact len7))
                have hq5 : quH I (l ++ [Q.1]) s5 := by
                  refine quH_snoc hq (fun a i ci ha => ?_) ?_ ?_ ?_
                  · have hne : (i : Int) ≠ (l.length : Int) := fun e => Nat.ne_of_lt ci (Int.ofNat.inj e)
                    rcases ha with rfl | rfl | rfl
                    · rw [vo 123 _ (by decide), yo 123 _ (Or.inl (by decide)), j1 123 _ (Or.inl (by decide)), wo 123 _ (Or.inl (by decide)), i1 123 _ (Or.inl (by decide)), g1 123 _ (Or.inl (by decide)), zo 123 _ (Or.inr hne), f1 123 _ (Or.inl (by decide))]
                    · rw [vo 124 _ (by decide), yo 124 _ (Or.inl (by decide)), j1 124 _ (Or.inl (by decide)), wo 124 _ (Or.inr hne), i1 124 _ (Or.inl (by decide)), g1 124 _ (Or.inl (by decide)), zo 124 _ (Or.inl (by decide)), f1 124 _ (Or.inl (by decide))]
                    · rw [vo 125 _ (by decide), yo 125 _ (Or.inr hne), j1 125 _ (Or.inl (by decide)), wo 125 _ (Or.inl (by decide)), i1 125 _ (Or.inl (by decide)), g1 125 _ (Or.inl (by decide)), zo 125 _ (Or.inl (by decide)), f1 125 _ (Or.inl (by decide))]
                  · rw [vo 123 _ (by decide), yo 123 _ (Or.inl (by decide)), j1 123 _ (Or.inl (by decide)), wo 123 _ (Or.inl (by decide)), i1 123 _ (Or.inl (by decide)), g1 123 _ (Or.inl (by decide)), zv, qm.1]
                  · rw [vo 124 _ (by decide), yo 124 _ (Or.inl (by decide)), j1 124 _ (Or.inl (by decide)), wv, pb, qm.2]
                  · rw [vo 125 _ (by decide), yv]
                    exact qb
                refine c_tail (ev := ev) h F5 hQ0 d2.2.1 e52 e53 v5 O5 hq5 ((Nat.add_right_comm l.length 1 m).trans hl) (fun m0 s6 t6 k3 O6 k2 F6 hq6 => ?_)
                have IH := c_runP (I := I) (ev := ev) n m (l ++ [Q.1]) s6 t6 k3 O6 (by rw [List.length_append]; exact (Nat.add_right_comm l.length 1 m).trans hl) m0 hq6
                rw [F6.T, F6.L, k2] at IH
                exact IH
end
section
/-! 6s.queryM -/
/-! QUERIES AS A TEXT: the reference -/
theorem frQ2.L {σ s : zS} (f : frQ2 σ s) : s 143 20 = σ 143 20 := f 143 20 (by decide) (Or.inr (by decide))
theorem frQ2.T {σ s : zS} (f : frQ2 σ s) : mT s = mT σ := by
  funext j
  unfold mT
  rw [f.L, f 159 j (by decide) (Or.inl (by decide))]
theorem frQ2.t {σ s : zS} (f : frQ2 σ s) (h : tpP σ) (h2 : 0 ≤ s 143 21 ∧ s 143 21 ≤ σ 143 20) : tpP s := h.mv f.L (funext (fun j => f 159 j (by decide) (Or.inl (by decide)))) h2
def rgQ (σ : zS) (k b : Int) (s : zS) : Sum Int ((Int × Int) × Int) → Prop
  | .inl q => b = 0 ∧ s 143 22 = q
  | .inr x => b = 1 ∧ s 143 21 = x.2 ∧ s 143 22 = σ 143 22 ∧ s 161 k = x.1.1 ∧ s 161 (k + 1) = x.1.2
def rgM (σ : zS) (k : Int) (r : Sum Int ((Int × Int) × Int)) (b : Int) (s : zS) : Prop := (frQ2 σ s ∧ ∀ j : Int, j ≠ k → j ≠ k + 1 → s 161 j = σ 161 j) ∧ rgQ σ k b s r
theorem m_range {k : Int} {σ : zS} (h : tpP σ) (hs : σ 143 22 < 0) (hk : 0 ≤ k ∧ k < 47) : zP' (g_m_isRange k σ) (rgM σ k (rngR (mT σ) (σ 143 20) (σ 143 21))) := by
  have h2 := h.2.1
  unfold g_m_isRange rngR
  rw [if_pos (by omega), w32_id (x := k + 1) (by omega) (by omega), if_pos (by omega)]
  try dsimp +instances only
  have f1 : frQ2 σ (zu (zu σ 161 k 0) 161 (k + 1) 31) := fun a j k1 _ => by rw [zu_a k1, zu_a k1]
  have o1 : ∀ j : Int, j ≠ k → j ≠ k + 1 → zu (zu σ 161 k 0) 161 (k + 1) 31 161 j = σ 161 j := fun j j1 j2 => by rw [zu_i j2, zu_i j1]
  have v0 : zu (zu σ 161 k 0) 161 (k + 1) 31 161 k = 0 := by rw [zu_i (by omega), zu_e rfl]
  have v1 : zu (zu σ 161 k 0) 161 (k + 1) 31 161 (k + 1) = 31 := zu_e rfl
  have p21 : zu (zu σ 161 k 0) 161 (k + 1) 31 143 21 = σ 143 21 := by rw [zu_a (by decide), zu_a (by decide)]
  have p22 : zu (zu σ 161 k 0) 161 (k + 1) 31 143 22 = σ 143 22 := by rw [zu_a (by decide), zu_a (by decide)]
  generalize zu (zu σ 161 k 0) 161 (k + 1) 31 = s1 at f1 o1 v0 v1 p21 p22
  have t1 : tpP s1 := f1.t h (by omega)
  rw [s_here t1.i]
  rw [Option.bind_some]
  try dsimp +instances only
  by_cases c : σ 143 21 < σ 143 20 ∧ mT σ (σ 143 21) = 42
  · have hh : hereC s1 = 42 := (hereC_is t1 (by decide)).mpr (by rw [p21, f1.L, f1.T]; exact c)
    obtain ⟨ew, f, t, s22, s21, sT, s20⟩ := mk_st t1 (by rw [p21, f1.L]; exact c.1)
    rw [if_neg (fun e => e hh), if_pos c, ew]
    refine zP'.ret ⟨⟨f1.trans (frQ2.of f), fun j j1 j2 => ?_⟩, rfl, ?_, ?_, ?_, ?_⟩
    · rw [f 161 j (Or.inl (by decide))]
      exact o1 j j1 j2
    · rw [s21, p21]
    · rw [s22, p22]
    · rw [f 161 _ (Or.inl (by decide)), v0]
    · rw [f 161 _ (Or.inl (by decide)), v1]
  · have hh : ¬ hereC s1 = 42 := fun e => c (by
      have := (hereC_is t1 (by decide)).mp e
      rw [p21, f1.L, f1.T] at this
      exact this)
    rw [if_pos hh, if_neg c]
    have N := m_num (w := 2) (lo := 0) (hi := 31) t1 (by omega) (by decide)
    rw [f1.T, f1.L, p21] at N
    refine zP'.bind N (fun b s2 p2 => ?_)
    obtain ⟨p2, pv⟩ := p2
    have p2 : mPo s1 (numR 2 0 31 (mT σ) (σ 143 20) (σ 143 21)) b s2 := p2
    have pv : ∀ x, numR 2 0 31 (mT σ) (σ 143 20) (σ 143 21) = .inr x → s2 143 23 = x.1 := pv
    try dsimp +instances only
    have b1 := numR_bd (w := 2) (lo := 0) (hi := 31) (f := mT σ) h2.2
    cases e1 : numR 2 0 31 (mT σ) (σ 143 20) (σ 143 21) with
    | inl q =>
      obtain ⟨g1, rfl, g3⟩ := p2.no e1
      rw [if_neg (by decide)]
      exact zP'.ret ⟨⟨f1.trans (frQ2.of g1), fun j j1 j2 => (g1 161 j (Or.inl (by decide))).trans (o1 j j1 j2)⟩, rfl, g3⟩
    | inr x =>
      obtain ⟨g1, rfl, gp, g3⟩ := p2.ok e1
      have gv := pv x e1
      rw [e1] at b1
      have b1 : σ 143 21 ≤ x.2 ∧ x.2 ≤ σ 143 20 := b1
      have kk := numR_ok (v := x.1) (p' := x.2) e1
      rw [if_pos (by decide), if_pos (by omega), gv]
      try dsimp +instances only
      rw [show zu s2 161 k x.1 143 23 = x.1 from (zu_a (by decide)).trans gv, if_pos (by omega)]
      have F2 := f1.trans (frQ2.of g1)
      have f3 : frQ2 s2 (zu (zu s2 161 k x.1) 161 (k + 1) x.1) := fun a j k1 _ => by rw [zu_a k1, zu_a k1]
      have o3 : ∀ j : Int, j ≠ k → j ≠ k + 1 → zu (zu s2 161 k x.1) 161 (k + 1) x.1 161 j = σ 161 j := fun j j1 j2 => by rw [zu_i j2, zu_i j1, g1 161 j (Or.inl (by decide))]; exact o1 j j1 j2
      have v3 : zu (zu s2 161 k x.1) 161 (k + 1) x.1 161 k = x.1 := by rw [zu_i (by omega), zu_e rfl]
      have v4 : zu (zu s2 161 k x.1) 161 (k + 1) x.1 161 (k + 1) = x.1 := zu_e rfl
      have q21 : zu (zu s2 161 k x.1) 161 (k + 1) x.1 143 21 = x.2 := by rw [zu_a (by decide), zu_a (by decide), gp]
      have q22 : zu (zu s2 161 k x.1) 161 (k + 1) x.1 143 22 = σ 143 22 := by rw [zu_a (by decide), zu_a (by decide), g3, p22]
      generalize zu (zu s2 161 k x.1) 161 (k + 1) x.1 = s3 at f3 o3 v3 v4 q21 q22
      have F3 := F2.trans f3
      have t3 : tpP s3 := F3.t h (by omega)
      rw [s_here t3.i]
      rw [Option.bind_some]
      try dsimp +instances only
      unfold rngR1
      try dsimp only
      by_cases c2 : x.2 < σ 143 20 ∧ mT σ x.2 = 45
      · have hh2 : hereC s3 = 45 := (hereC_is t3 (by decide)).mpr (by rw [q21, F3.L, F3.T]; exact c2)
        obtain ⟨ew, f, t, s22, s21, sT, s20⟩ := mk_st t3 (by rw [q21, F3.L]; exact c2.1)
        rw [if_pos hh2, if_pos c2, ew, if_pos (by omega)]
        have u3 : zu s3 143 21 (s3 143 21 + 1) 161 k = x.1 := (zu_a (by decide)).trans v3
        rw [u3]
        generalize zu s3 143 21 (s3 143 21 + 1) = s4 at f t s22 s21 sT s20 u3
        have N2 := m_num (w := 2) (lo := x.1) (hi := 31) t (by omega) (by decide)
        rw [sT, F3.T, s20, F3.L, s21, q21] at N2
        refine zP'.bind N2 (fun b s5 p5 => ?_)
        obtain ⟨p5, pv5⟩ := p5
        have p5 : mPo s4 (numR 2 x.1 31 (mT σ) (σ 143 20) (x.2 + 1)) b s5 := p5
        have pv5 : ∀ z, numR 2 x.1 31 (mT σ) (σ 143 20) (x.2 + 1) = .inr z → s5 143 23 = z.1 := pv5
        have F4 := F3.trans (frQ2.of f)
        try dsimp +instances only
        cases e5 : numR 2 x.1 31 (mT σ) (σ 143 20) (x.2 + 1) with
        | inl q =>
          obtain ⟨i1, rfl, i3⟩ := p5.no e5
          rw [if_neg (by decide)]
          exact zP'.ret ⟨⟨F4.trans (frQ2.of i1), fun j j1 j2 => by rw [i1 161 j (Or.inl (by decide)), f 161 j (Or.inl (by decide))]; exact o3 j j1 j2⟩, rfl, i3⟩
        | inr z =>
          obtain ⟨i1, rfl, ip, i3⟩ := p5.ok e5
          have iv := pv5 z e5
          rw [if_pos (by decide), if_pos (by omega), iv]
          refine zP'.ret ⟨⟨fun a j k1 k2 => (zu_a k1).trans ((F4.trans (frQ2.of i1)) a j k1 k2), fun j j1 j2 => ?_⟩, rfl, ?_, ?_, ?_, ?_⟩
          · rw [zu_i j2, i1 161 j (Or.inl (by decide)), f 161 j (Or.inl (by decide))]
            exact o3 j j1 j2
          · rw [zu_a (by decide), ip]
          · rw [zu_a (by decide), i3, s22, q22]
          · rw [zu_i (by omega), i1 161 _ (Or.inl (by decide)), u3]
          · exact zu_e rfl
      · have hh2 : ¬ hereC s3 = 45 := fun e => c2 (by
          have := (hereC_is t3 (by decide)).mp e
          rw [q21, F3.L, F3.T] at this
          exact this)
        rw [if_neg hh2, if_neg c2]
        exact zP'.ret ⟨⟨F3, o3⟩, rfl, q21, q22, v3, v4⟩
/-- a part told: what the reference keeps of it -/
def quQ (σ : zS) (k : Nat) (b : Int) (s : zS) : zQr → Prop
  | .inl q => b = 0 ∧ s 143 22 = q
  | .inr x => b = 1 ∧ s 143 21 = x.2 ∧ s 143 22 = σ 143 22 ∧ s 161 (6 * (k : Int)) = x.1.1 ∧ bxA s 161 (6 * (k : Int) + 1) = x.1.2.1 ∧ s 161 (6 * (k : Int) + 5) = x.1.2.2.1
def quM (σ : zS) (k : Nat) (r : zQr) (b : Int) (s : zS) : Prop := (frQ2 σ s ∧ ∀ j : Int, (j < 6 * (k : Int) ∨ 6 * (k : Int) + 6 ≤ j) → s 161 j = σ 161 j) ∧ quQ σ k b s r
theorem m_query6 {ev : Int → Int → Int} {k : Nat} {σ : zS} (hk : k < 8) (h : tpP σ) (hs : σ 143 22 < 0) : zP' (g_m_isQuery (k : Int) σ) (quM σ k (qryR ev (mT σ) (σ 143 20) (σ 143 21))) := by
  have h1 := h.1
  have h2 := h.2.1
  unfold g_m_isQuery qryR
  refine zP'.bind (m_wrd14 h hs) (fun v s1 p1 => ?_)
  obtain ⟨p1, pw⟩ := p1
  try dsimp +instances only
  rw [w32_id (x := 6 * (k : Int)) (by omega) (by omega), w32_id (x := 6 * (k : Int) + 1) (by omega) (by omega), w32_id (x := 6 * (k : Int) + 3) (by omega) (by omega), w32_id (x := 6 * (k : Int) + 5) (by omega) (by omega)]
  have k6 : 0 ≤ 6 * (k : Int) ∧ 6 * (k : Int) < 48 := by omega
  have k65 : 0 ≤ 6 * (k : Int) + 5 ∧ 6 * (k : Int) + 5 < 48 := by omega
  rw [if_pos k6, if_pos k6]
  try dsimp +instances only
  rw [zu_e rfl]
  have z : frQ2 s1 (zu s1 161 (6 * (k : Int)) v) := frQ2.u
  have zv : zu s1 161 (6 * (k : Int)) v 161 (6 * (k : Int)) = v := zu_e rfl
  have zo : ∀ a j, (a ≠ 161 ∨ j ≠ 6 * (k : Int)) → zu s1 161 (6 * (k : Int)) v a j = s1 a j := fun a j hh => zu_c hh
  generalize zu s1 161 (6 * (k : Int)) v = s1' at z zv zo
  have b1 := wrdR_bd (a := 4) (Ln := 36) (f := mT σ) h2.2
  cases e1 : wrdR 4 36 (mT σ) (σ 143 20) (σ 143 21) with
  | inl q =>
    obtain ⟨f1, f2, f3⟩ := p1.no e1
    have hv : v = -1 := Classical.byContradiction (fun hc => by rw [if_neg hc] at f2; exact absurd f2 (by decide))
    rw [hv, if_pos (by decide)]
    exact zP'.ret ⟨⟨(frQ2.of f1).trans z, fun j hj => by rw [zo 161 j (by omega), f1 161 j (Or.inl (by decide))]⟩, rfl, (zo 143 22 (Or.inl (by decide))).trans f3⟩
  | inr x =>
    obtain ⟨f1, f2, fp, f3⟩ := p1.ok e1
    rw [e1] at b1
    have b1 : σ 143 21 ≤ x.2 ∧ x.2 ≤ σ 143 20 := b1
    have k1 := wrdR_ok (v := x.1) (p' := x.2) e1
    have hx : v = x.1 := pw.trans (wrdR_v (v := x.1) (p' := x.2) e1).symm
    have F1 := (frQ2.of f1).trans z
    have e21 : s1' 143 21 = x.2 := (zo 143 21 (Or.inl (by decide))).trans fp
    have e22 : s1' 143 22 = σ 143 22 := (zo 143 22 (Or.inl (by decide))).trans f3
    have o1 : ∀ j : Int, j ≠ 6 * (k : Int) → s1' 161 j = σ 161 j := fun j hj => (zo 161 j (Or.inr hj)).trans (f1 161 j (Or.inl (by decide)))
    have t1 : tpP s1' := F1.t h (by omega)
    rw [if_neg (by omega)]
    have W := m_sgn (x := 32) t1 (by omega) (by decide)
    rw [F1.T, F1.L, e21] at W
    dsimp only [qryV]
    refine zP'.bind W (fun u s2 p2 => ?_)
    try dsimp +instances only
    have b2 := sgnR_bd (x := 32) (f := mT σ) b1.2
    cases e2 : sgnR 32 (mT σ) (σ 143 20) x.2 with
    | inl q =>
      obtain ⟨g1, rfl, g3⟩ := p2.no e2
      rw [if_pos rfl]
      exact zP'.ret ⟨⟨F1.trans (frQ2.of g1), fun j hj => by rw [g1 161 j (Or.inl (by decide)), o1 j (by omega)]⟩, rfl, g3⟩
    | inr y =>
      obtain ⟨g1, rfl, gp, g3⟩ := p2.ok e2
      rw [e2] at b2
      have b2 : x.2 ≤ y.2 ∧ y.2 ≤ σ 143 20 := b2
      have F2 := F1.trans (frQ2.of g1)
      have t2 : tpP s2 := F2.t h (by omega)
      rw [if_neg (by decide)]
      have R := m_range (k := 6 * (k : Int) + 1) t2 (by omega) (by omega)
      rw [F2.T, F2.L, gp] at R
      dsimp only [qryA]
      refine zP'.bind R (fun b s3 p3 => ?_)
      obtain ⟨⟨i1, io⟩, p3⟩ := p3
      try dsimp +instances only
      have F3 := F2.trans i1
      have o3 : ∀ j : Int, j ≠ 6 * (k : Int) + 1 → j ≠ 6 * (k : Int) + 1 + 1 → s3 161 j = s1' 161 j := fun j j1 j2 => by rw [io j j1 j2, g1 161 j (Or.inl (by decide))]
      have b3 := rngR_bd (f := mT σ) b2.2
      cases e3 : rngR (mT σ) (σ 143 20) y.2 with
      | inl q =>
        rw [e3] at p3
        obtain ⟨rfl, p33⟩ := p3
        rw [if_pos rfl]
        exact zP'.ret ⟨⟨F3, fun j hj => by rw [o3 j (by omega) (by omega), o1 j (by omega)]⟩, rfl, p33⟩
      | inr a =>
        rw [e3] at b3 p3
        obtain ⟨b3, b3', a1, a2, a3⟩ := b3
        obtain ⟨rfl, pp, p33, pa, pb⟩ := p3
        have t3 : tpP s3 := F3.t h (by omega)
        rw [if_neg (by decide)]
        have W4 := m_sgn (x := 32) t3 (by omega) (by decide)
        rw [F3.T, F3.L, pp] at W4
        dsimp only [qryX]
        refine zP'.bind W4 (fun u s4 p4 => ?_)
        try dsimp +instances only
        have b4 := sgnR_bd (x := 32) (f := mT σ) b3'
        cases e4 : sgnR 32 (mT σ) (σ 143 20) a.2 with
        | inl q =>
          obtain ⟨j1, rfl, j3⟩ := p4.no e4
          rw [if_pos rfl]
          exact zP'.ret ⟨⟨F3.trans (frQ2.of j1), fun j hj => by rw [j1 161 j (Or.inl (by decide)), o3 j (by omega) (by omega), o1 j (by omega)]⟩, rfl, j3⟩
        | inr t =>
          obtain ⟨j1, rfl, jp, j3⟩ := p4.ok e4
          rw [e4] at b4
          have b4 : a.2 ≤ t.2 ∧ t.2 ≤ σ 143 20 := b4
          have F4 := F3.trans (frQ2.of j1)
          have t4 : tpP s4 := F4.t h (by omega)
          rw [if_neg (by decide)]
          have R5 := m_range (k := 6 * (k : Int) + 3) t4 (by omega) (by omega)
          rw [F4.T, F4.L, jp] at R5
          dsimp only [qryB]
          refine zP'.bind R5 (fun b s5 p5 => ?_)
          obtain ⟨⟨l1, lo⟩, p5⟩ := p5
          try dsimp +instances only
          have F5 := F4.trans l1
          have o5 : ∀ j : Int, j ≠ 6 * (k : Int) + 3 → j ≠ 6 * (k : Int) + 3 + 1 → s5 161 j = s3 161 j := fun j h3 h4 => by rw [lo j h3 h4, j1 161 j (Or.inl (by decide))]
          have b5 := rngR_bd (f := mT σ) b4.2
          cases e5 : rngR (mT σ) (σ 143 20) t.2 with
          | inl q =>
            rw [e5] at p5
            obtain ⟨rfl, p53⟩ := p5
            rw [if_neg (by decide)]
            exact zP'.ret ⟨⟨F5, fun j hj => by rw [o5 j (by omega) (by omega), o3 j (by omega) (by omega), o1 j (by omega)]⟩, rfl, p53⟩
          | inr c =>
            rw [e5] at b5 p5
            obtain ⟨b5, b5', -⟩ := b5
            obtain ⟨rfl, qp, q3, qa, qb⟩ := p5
            rw [if_pos (by decide), if_pos k65]
            have w : frQ2 s5 (zu s5 161 (6 * (k : Int) + 5) (-1)) := frQ2.u
            have wv : zu s5 161 (6 * (k : Int) + 5) (-1) 161 (6 * (k : Int) + 5) = -1 := zu_e rfl
            have wo : ∀ a j, (a ≠ 161 ∨ j ≠ 6 * (k : Int) + 5) → zu s5 161 (6 * (k : Int) + 5) (-1) a j = s5 a j := fun a j hh => zu_c hh
            generalize zu s5 161 (6 * (k : Int) + 5) (-1) = s6 at w wv wo
            have F6 := F5.trans w
            have e621 : s6 143 21 = c.2 := (wo 143 21 (Or.inl (by decide))).trans qp
            have e622 : s6 143 22 = σ 143 22 := by rw [wo 143 22 (Or.inl (by decide)), q3, j3, p33, g3, e22]
            have t6 : tpP s6 := F6.t h (by omega)
            -- what of the part stands
            have m0 : s6 161 (6 * (k : Int)) = x.1 := by rw [wo 161 _ (by omega), o5 _ (by omega) (by omega), o3 _ (by omega) (by omega), zv, hx]
            have mB : ∀ s : zS, (∀ j : Int, j ≠ 6 * (k : Int) + 5 → s 161 j = s6 161 j) → bxA s 161 (6 * (k : Int) + 1) = (a.1.1, a.1.2, c.1.1, c.1.2) := fun s hsj => by
              unfold bxA
              rw [hsj _ (by omega), hsj _ (by omega), hsj _ (by omega), hsj _ (by omega), wo 161 _ (by omega), wo 161 _ (by omega), wo 161 _ (by omega), wo 161 _ (by omega), o5 _ (by omega) (by omega), o5 _ (by omega) (by omega), pa, pb, show 6 * (k : Int) + 1 + 2 = 6 * (k : Int) + 3 by omega, qa, show 6 * (k : Int) + 1 + 3 = 6 * (k : Int) + 3 + 1 by omega, qb]
            have oo : ∀ j : Int, (j < 6 * (k : Int) ∨ 6 * (k : Int) + 6 ≤ j) → s6 161 j = σ 161 j := fun j hj => by rw [wo 161 j (by omega), o5 j (by omega) (by omega), o3 j (by omega) (by omega), o1 j (by omega)]
            dsimp only [qryY]
            unfold qryF
            rw [s_here t6.i]
            rw [Option.bind_some]
            try dsimp +instances only
            by_cases cb : c.2 < σ 143 20 ∧ mT σ c.2 = 32
            · have hh : hereC s6 = 32 := (hereC_is t6 (by decide)).mpr (by rw [e621, F6.L, F6.T]; exact cb)
              obtain ⟨ew, f, tt, s22, s21, sT, s20⟩ := mk_st t6 (by rw [e621, F6.L]; exact cb.1)
              rw [if_pos hh, if_pos cb, ew]
              generalize zu s6 143 21 (s6 143 21 + 1) = s7 at f tt s22 s21 sT s20
              have F7 := F6.trans (frQ2.of f)
              have W7 := m_wrd15 tt (by omega)
              rw [sT, F6.T, s20, F6.L, s21, e621] at W7
              refine zP'.bind W7 (fun w' s8 p8 => ?_)
              obtain ⟨p8, pw8⟩ := p8
              try dsimp +instances only
              have b6 := wrdR_bd (a := 5) (Ln := 2) (f := mT σ) (L := σ 143 20) (p := c.2 + 1) (by omega)
              cases e8 : wrdR 5 2 (mT σ) (σ 143 20) (c.2 + 1) with
              | inl q =>
                obtain ⟨n1, n2, n3⟩ := p8.no e8
                have hv : w' = -1 := Classical.byContradiction (fun hc => by rw [if_neg hc] at n2; exact absurd n2 (by decide))
                rw [hv, if_pos (by decide)]
                exact zP'.ret ⟨⟨F7.trans (frQ2.of n1), fun j hj => by rw [n1 161 j (Or.inl (by decide)), f 161 j (Or.inl (by decide)), oo j hj]⟩, rfl, n3⟩
              | inr d =>
                obtain ⟨n1, n2, np, n3⟩ := p8.ok e8
                rw [e8] at b6
                have b6 : c.2 + 1 ≤ d.2 ∧ d.2 ≤ σ 143 20 := b6
                have k8 := wrdR_ok (v := d.1) (p' := d.2) e8
                have hd : w' = d.1 := pw8.trans (wrdR_v (v := d.1) (p' := d.2) e8).symm
                have F8 := F7.trans (frQ2.of n1)
                have t8 : tpP s8 := F8.t h (by omega)
                rw [if_neg (by omega)]
                have W9 := m_sgn (x := 32) t8 (by omega) (by decide)
                rw [F8.T, F8.L, np] at W9
                dsimp only [qryI]
                refine zP'.bind W9 (fun u s9 p9 => ?_)
                try dsimp +instances only
                have b7 := sgnR_bd (x := 32) (f := mT σ) b6.2
                cases e9 : sgnR 32 (mT σ) (σ 143 20) d.2 with
                | inl q =>
                  obtain ⟨r1, rfl, r3⟩ := p9.no e9
                  rw [if_neg (by decide)]
                  exact zP'.ret ⟨⟨F8.trans (frQ2.of r1), fun j hj => by rw [r1 161 j (Or.inl (by decide)), n1 161 j (Or.inl (by decide)), f 161 j (Or.inl (by decide)), oo j hj]⟩, rfl, r3⟩
                | inr e =>
                  obtain ⟨r1, rfl, rp, r3⟩ := p9.ok e9
                  rw [e9] at b7
                  have b7 : d.2 ≤ e.2 ∧ e.2 ≤ σ 143 20 := b7
                  rw [if_pos (by decide), if_pos k65, rp]
                  have F9 := F8.trans (frQ2.of r1)
                  have y0 : frQ2 s9 (zu s9 161 (6 * (k : Int) + 5) e.2) := frQ2.u
                  have yv : zu s9 161 (6 * (k : Int) + 5) e.2 161 (6 * (k : Int) + 5) = e.2 := zu_e rfl
                  have yo : ∀ a j, (a ≠ 161 ∨ j ≠ 6 * (k : Int) + 5) → zu s9 161 (6 * (k : Int) + 5) e.2 a j = s9 a j := fun a j hh => zu_c hh
                  try dsimp +instances only
                  generalize zu s9 161 (6 * (k : Int) + 5) e.2 = sa at y0 yv yo
                  have Fa := F9.trans y0
                  have a21 : sa 143 21 = e.2 := (yo 143 21 (Or.inl (by decide))).trans rp
                  have a22 : sa 143 22 = σ 143 22 := by rw [yo 143 22 (Or.inl (by decide)), r3, n3, s22, e622]
                  have ta : tpP sa := Fa.t h (by omega)
                  have X := (m_expr (ev := ev) 700).1 zR 0 (fun _ => true) sa ta (by omega) (by decide) (by decide) (by rw [Fa.L, a21]; omega)
                  rw [Fa.T, Fa.L, a21] at X
                  dsimp only [qryS]
                  refine zP'.bind X (fun b sb pb' => b01 ?_)
                  obtain ⟨q1, q2⟩ := pb'
                  have oa : ∀ j : Int, j ≠ 6 * (k : Int) + 5 → sb 161 j = s6 161 j := fun j hj => by rw [q1 161 j (Or.inl (by decide)), yo 161 j (Or.inr hj), r1 161 j (Or.inl (by decide)), n1 161 j (Or.inl (by decide)), f 161 j (Or.inl (by decide))]
                  try dsimp only
                  cases e10 : eP ev (mT σ) (σ 143 20) 700 0 0 e.2 (fun _ => true) with
                  | inl q =>
                    rw [e10] at q2
                    exact ⟨⟨Fa.trans (frQ2.of q1), fun j hj => by rw [oa j (by omega), oo j hj]⟩, q2⟩
                  | inr zz =>
                    rw [e10] at q2
                    obtain ⟨u1, u2, u3⟩ := q2
                    refine ⟨⟨Fa.trans (frQ2.of q1), fun j hj => by rw [oa j (by omega), oo j hj]⟩, u1, u2, u3.trans a22, ?_, mB sb oa, ?_⟩
                    · rw [oa _ (by omega)]
                      exact m0
                    · rw [q1 161 _ (Or.inl (by decide)), yv]
            · have hh : ¬ hereC s6 = 32 := fun e => cb (by
                have := (hereC_is t6 (by decide)).mp e
                rw [e621, F6.L, F6.T] at this
                exact this)
              rw [if_neg hh, if_neg cb]
              exact zP'.ret ⟨⟨F6, oo⟩, rfl, e621, e622, m0, mB s6 (fun _ _ => rfl), wv⟩
/-- the parts told so far -/
def quR' (l : List zQy) (s : zS) : Prop := ∀ (i : Nat) (hi : i < l.length), s 161 (6 * (i : Int)) = l[i].1 ∧ bxA s 161 (6 * (i : Int) + 1) = l[i].2.1 ∧ s 161 (6 * (i : Int) + 5) = l[i].2.2.1
def rnQ (r : Int) (s : zS) : Sum Int (List zQy) → Prop
  | .inl q => s 143 22 = q
  | .inr l => r = (l.length : Int) ∧ s 143 22 = -1 ∧ quR' l s
theorem m_runP {ev : Int → Int → Int} {Q : Int → zS → Prop} {σ0 : zS} : ∀ (n m : Nat) (l : List zQy) (σ : zS), tpP σ → σ 143 22 = -1 → l.length + m = 8 → 0 < m → frQ2 σ0 σ → quR' l σ → (∀ r s, frQ2 σ0 s → rnQ r s (runP ev (mT σ) (σ 143 20) m (σ 143 21) l) → ∀ k, zP' (g_m_run_L8 k r 0 s) Q) → zP' (g_m_run_L8 n (l.length : Int) 1 σ) Q
  | 0, _, _, _, _, _, _, _, _, _, _ => zP'.no
  | n + 1, m, l, σ, h, hs, hl, hm, hf, hq, hQ => by
    have h2 := h.2.1
    obtain ⟨m, rfl⟩ : ∃ q, m = q + 1 := ⟨m - 1, by omega⟩
    rw [runP_1] at hQ
    unfold g_m_run_L8
    rw [if_neg (by decide)]
    have ex := w32_id (x := (l.length : Int) + 1) (by omega) (by omega)
    obtain ⟨d1, d2⟩ := qryR_ok (ev := ev) (f := mT σ) h2.1 h2.2
    refine zP'.bind (m_query6 (ev := ev) (k := l.length) (by omega) h (by omega)) (fun b s1 p1 => ?_)
    obtain ⟨⟨f1, fo⟩, p1⟩ := p1
    try dsimp +instances only
    rw [ex]
    cases e1 : qryR ev (mT σ) (σ 143 20) (σ 143 21) with
    | inl q =>
      rw [e1] at p1 hQ
      obtain ⟨rfl, p2⟩ := p1
      rw [if_pos rfl]
      unfold g_m_run_L41
      rw [if_pos rfl]
      exact hQ _ s1 (hf.trans f1) p2 n
    | inr x =>
      rw [e1] at p1 hQ
      obtain ⟨rfl, p2, p3, p4, p5, p6⟩ := p1
      have b := d2 x e1
      have t1 : tpP s1 := f1.t h (by omega)
      have hq1 : quR' (l ++ [x.1]) s1 := fun i hi => by
        rw [List.length_append] at hi
        have hi : i < l.length + 1 := hi
        by_cases ci : i < l.length
        · rw [List.getElem_append_left ci]
          have k := hq i ci
          have eb : bxA s1 161 (6 * (i : Int) + 1) = bxA σ 161 (6 * (i : Int) + 1) := by
            unfold bxA
            rw [fo _ (by omega), fo _ (by omega), fo _ (by omega), fo _ (by omega)]
          rw [fo _ (by omega), fo _ (by omega), eb]
          exact k
        · have ei : i = l.length := by omega
          subst ei
          rw [List.getElem_append_right (by omega)]
          have e0 : ([x.1] : List zQy)[l.length - l.length]'(by rw [Nat.sub_self]; exact Nat.one_pos) = x.1 := by
            simp
          rw [e0]
          exact ⟨p4, p5, p6⟩
      have el : (l.length : Int) + 1 = ((l ++ [x.1]).length : Int) := by
        rw [List.length_append]
        show (l.length : Int) + 1 = ((l.length + 1 : Nat) : Int)
        omega
      rw [if_neg (by decide), p2, f1.L]
      dsimp only at hQ
      by_cases cl : x.2 < σ 143 20
      · rw [if_pos cl] at hQ
        rw [if_pos (by omega)]
        unfold g_m_run_L41
        rw [if_neg (by decide)]
        refine zP'.ite (fun c8 => ?_) (fun c8 => ?_)
        · rw [if_neg (fun k => by omega)] at hQ
          try dsimp +instances only
          rw [m_fail (by omega)]
          rw [Option.bind_some]
          try dsimp +instances only
          unfold g_m_run_L68
          refine hQ _ _ ((hf.trans f1).trans (frQ2.of (fr3.u (by omega)))) ?_ n
          show zu s1 143 22 (s1 143 21) 143 22 = x.2
          rw [zu_e rfl, p2]
        · refine zP'.bind (m_sgn (x := 59) t1 (by omega) (by decide)) (fun b s2 k2 => ?_)
          try dsimp +instances only
          rw [f1.T, f1.L, p2] at k2
          unfold g_m_run_L68
          by_cases c59 : mT σ x.2 = 59
          · rw [if_pos ⟨by omega, c59⟩] at hQ
            have e2 : sgnR 59 (mT σ) (σ 143 20) x.2 = .inr (59, x.2 + 1) := if_pos ⟨cl, c59⟩
            obtain ⟨g1, rfl, gp, g3⟩ := k2.ok e2
            have gp : s2 143 21 = x.2 + 1 := gp
            have F2 := f1.trans (frQ2.of g1)
            have hq2 : quR' (l ++ [x.1]) s2 := fun i hi => by
              have k := hq1 i hi
              have eb : bxA s2 161 (6 * (i : Int) + 1) = bxA s1 161 (6 * (i : Int) + 1) := by
                unfold bxA
                rw [g1 161 _ (Or.inl (by decide)), g1 161 _ (Or.inl (by decide)), g1 161 _ (Or.inl (by decide)), g1 161 _ (Or.inl (by decide))]
              rw [g1 161 _ (Or.inl (by decide)), g1 161 _ (Or.inl (by decide)), eb]
              exact k
            rw [el]
            refine m_runP (ev := ev) n m (l ++ [x.1]) s2 (F2.t h (by omega)) (by rw [g3, p3]; exact hs) (by rw [List.length_append]; show l.length + 1 + m = 8; omega) (by omega) (hf.trans F2) hq2 ?_
            rw [F2.T, F2.L, gp]
            exact hQ
          · rw [if_neg (fun k => c59 k.2)] at hQ
            have e2 : sgnR 59 (mT σ) (σ 143 20) x.2 = .inl x.2 := if_neg (fun hn => c59 hn.2)
            obtain ⟨g1, rfl, g3⟩ := k2.no e2
            exact hQ _ s2 ((hf.trans f1).trans (frQ2.of g1)) g3 n
      · rw [if_neg cl] at hQ
        rw [if_neg (by omega)]
        exact hQ _ s1 (hf.trans f1) ⟨el, by rw [p3]; exact hs, hq1⟩ n
end
section
/-! 6u.fault -/
/-! A QUERY DONE by the reference leaves the fault as it was -/
theorem ord_same {v : Int} {σ : zS} : zP' (g_m_orderOf v σ) (fun _ s => s = σ) := by
  unfold g_m_orderOf g_m_rowAt
  simp only [Option.bind_some]
  exact zP'.gd (fun _ => zP'.gd (fun _ => zP'.ret rfl))
theorem ga_139 {a : Nat} {g : Int → Int → Int → zS → Option (Unit × zS)} {i t x4 x5 F : Int} {s : zS} (hg : ∀ s', frG s s' → s' 143 22 = s 143 22 → zP' (g i t (w32 (x4 + 1)) s') (fun _ u => u 143 22 = F)) : zP' (g_m_gathers_L139 a g i t x4 x5 s) (fun _ u => u 143 22 = F) := by
  unfold g_m_gathers_L139 g_m_gathers_L158
  refine zP'.gd (fun _ => ?_)
  try dsimp +instances only
  exact hg _ (fun a j k1 k2 k3 => by rw [zu_c (by omega), zu_c (by omega)]) (by rw [zu_i (by decide), zu_a (by decide)])
theorem ga_90 {a : Nat} {g : Int → Int → Int → zS → Option (Unit × zS)} {i t x4 F : Int} : ∀ (m : Nat) (x5 : Int) (s : zS), (∀ s', frG s s' → s' 143 22 = s 143 22 → zP' (g i t (w32 (x4 + 1)) s') (fun _ u => u 143 22 = F)) → zP' (g_m_gathers_L90 a g m i t x4 x5 s) (fun _ u => u 143 22 = F)
  | 0, _, _, _ => zP'.no
  | m + 1, x5, s, hg => by
    unfold g_m_gathers_L90
    refine zP'.ite (fun _ => ga_139 hg) (fun _ => zP'.gd (fun _ => ?_))
    try dsimp +instances only
    refine zP'.bind ord_same (fun o1 s1 p1 => ?_)
    try dsimp +instances only
    rw [p1]
    refine zP'.bind ord_same (fun o2 s2 p2 => ?_)
    try dsimp +instances only
    rw [p2]
    refine zP'.ite (fun _ => ga_139 hg) (fun _ => zP'.gd (fun _ => zP'.gd (fun _ => ?_)))
    try dsimp +instances only
    refine ga_90 m _ _ (fun s' f e => hg s' (fun a j k1 k2 k3 => (f a j k1 k2 k3).trans (zu_c (by omega))) (e.trans (zu_a (by decide))))
theorem ga_8 {t : Int} {σ0 : zS} (hev : t < 0 ∨ ∀ (s : zS) (r : Int), 0 ≤ r → r < 60 → frG σ0 s → zP' (g_grp231 zR 231 r (zu s 143 21 t)) (fun _ s' => fr3 (zu s 143 21 t) s' ∧ s' 143 22 = s 143 22)) : ∀ (n : Nat) (k : Nat) (s : zS), k ≤ 60 → frG σ0 s → zP' (g_m_gathers_L8 152 n 0 t (k : Int) s) (fun _ u => u 143 22 = s 143 22)
  | 0, _, _, _, _ => zP'.no
  | n + 1, k, s, hk, hf => by
    have l152 : zLI 152 = 4 := rfl
    have l167 : ∀ (m : Nat) (x : Int) (s : zS), zP' (g_m_gathers_L167 152 m x s) (fun _ u => u 143 22 = s 143 22) := by
      intro m
      induction m with
      | zero => exact fun _ _ => zP'.no
      | succ m ih =>
        intro x s
        unfold g_m_gathers_L167
        refine zP'.ite (fun _ => zP'.ret rfl) (fun _ => zP'.gd (fun _ => zP'.gd (fun _ => zP'.gd (fun _ => ?_))))
        try dsimp +instances only
        exact (ih _ _).imp (fun _ u e => e.trans (zu_a (by decide)))
    unfold g_m_gathers_L8
    refine zP'.ite (fun _ => l167 _ _ _) (fun c => ?_)
    have ek := w32_id (x := (k : Int) + 1) (by omega) (by omega)
    have rc : ∀ s', frG s s' → s' 143 22 = s 143 22 → zP' (g_m_gathers_L8 152 n 0 t (w32 ((k : Int) + 1)) s') (fun _ u => u 143 22 = s 143 22) := fun s' f e => by
      rw [ek, show (k : Int) + 1 = ((k + 1 : Nat) : Int) by omega]
      exact (ga_8 hev n (k + 1) s' (by omega) (hf.trans f)).imp (fun _ u h => h.trans e)
    rw [s_rowAt (by omega) (by omega)]
    rw [Option.bind_some]
    try dsimp +instances only
    refine zP'.gd (fun _ => ?_)
    unfold g_m_gathers_L158 g_m_gathers_L84
    refine zP'.ite (fun _ => rc s (frG.refl s) rfl) (fun _ => ?_)
    rw [s_rowAt (by omega) (by omega)]
    rw [Option.bind_some]
    try dsimp +instances only
    refine zP'.gd (fun _ => ?_)
    rw [s_rowAt (by omega) (by omega)]
    rw [Option.bind_some]
    try dsimp +instances only
    refine zP'.gd (fun _ => ?_)
    rw [s_has (by omega) (by rw [l152]; omega) (by rw [l152]; omega)]
    rw [Option.bind_some]
    try dsimp +instances only
    refine zP'.ite (fun _ => ?_) (fun _ => rc s (frG.refl s) rfl)
    have f21 : frG s (zu s 143 21 t) := fun a j k1 k2 k3 => zu_c (by omega)
    have e22 : zu s 143 21 t 143 22 = s 143 22 := zu_i (by decide)
    refine zP'.ite (fun _ => ga_90 _ _ _ (fun s' f e => rc s' (f21.trans f) (e.trans e22))) (fun c3 => ?_)
    have hv := (hev.resolve_left c3) s (k : Int) (by omega) (by omega) hf
    refine zP'.bind hv (fun b s2 p => ?_)
    obtain ⟨p1, p2⟩ := p
    have f2 : frG s s2 := f21.trans (fun a j k1 k2 k3 => p1 a j (by omega))
    try dsimp +instances only
    exact zP'.ite (fun _ => ga_90 _ _ _ (fun s' f e => rc s' (f2.trans f) (e.trans p2))) (fun _ => rc s2 f2 p2)
theorem ga_fault {t : Int} {σ : zS} (hev : t < 0 ∨ ∀ (s : zS) (r : Int), 0 ≤ r → r < 60 → frG σ s → zP' (g_grp231 zR 231 r (zu s 143 21 t)) (fun _ s' => fr3 (zu s 143 21 t) s' ∧ s' 143 22 = s 143 22)) : zP' (g_m_gathers 152 0 t σ) (fun _ u => u 143 22 = σ 143 22) := by
  unfold g_m_gathers
  try dsimp +instances only
  exact (ga_8 hev zK 0 (zu σ 143 14 0) (by omega) (fun a j k1 _ _ => zu_c (by omega))).imp (fun _ u e => e.trans (zu_i (by decide)))
end
section
/-! 6v.done -/
/-! A QUERY DONE, of both sides: the rows that a test leaves, told alike -/
/-- what run() answers -/
def runAns : Sum Int (List zQy) → Int
  | .inl q => -100 - q
  | .inr l => (l.length : Int)
def liT (σ : zS) (c : Nat) (B : Bx) (T : Int → Bool) : List Int := (ordL σ c).filter (fun v => decide (bIn B (σ (c + 1) v) (σ (c + 2) v)) && T v)
def valT (σ : zS) (c : Nat) (B : Bx) (T : Int → Bool) (ms : Int) : Int := msF (fun j => σ (c + 3) ((liT σ c B T).getD j.toNat 0)) (liT σ c B T).length ms
theorem liT_E {σ s : zS} {B : Bx} {T : Int → Bool} (e : stE σ s) : liT s 41 B T = liT σ 41 B T := by
  have e42 : s 42 = σ 42 := funext (fun j => e 42 j (by unfold stK; omega))
  have e43 : s 43 = σ 43 := funext (fun j => e 43 j (by unfold stK; omega))
  have e45 : s 45 = σ 45 := funext (fun j => e 45 j (by unfold stK; omega))
  have e4 : s 41 4 = σ 41 4 := e 41 4 (by unfold stK; omega)
  show (sg (s 45) 0 (s 41 4).toNat).filter (fun v => decide (bIn B (s 42 v) (s 43 v)) && T v) = (sg (σ 45) 0 (σ 41 4).toNat).filter (fun v => decide (bIn B (σ 42 v) (σ 43 v)) && T v)
  rw [e42, e43, e45, e4]
theorem valT_E {σ s : zS} {B : Bx} {T : Int → Bool} {ms : Int} (e : stE σ s) : valT s 41 B T ms = valT σ 41 B T ms := by
  have e44 : s 44 = σ 44 := funext (fun j => e 44 j (by unfold stK; omega))
  show msF (fun j => s 44 ((liT s 41 B T).getD j.toNat 0)) (liT s 41 B T).length ms = msF (fun j => σ 44 ((liT σ 41 B T).getD j.toNat 0)) (liT σ 41 B T).length ms
  rw [e44, liT_E e]
theorem liT_mem {σ : zS} {I : Nat → Bool} (S : ST σ 41 I) {B : Bx} {T : Int → Bool} {v : Int} (h : v ∈ liT σ 41 B T) : 0 ≤ v ∧ v < 60 := by
  obtain ⟨q, e, hq⟩ := (S.2.2.2 v).mp (List.mem_filter.mp h).1
  have := S.1 q hq
  omega
theorem p_fiMeasT {a : Nat} (ha : a = 60 ∨ a = 70) {σ : zS} {I : Nat → Bool} {B : Bx} {T : Int → Bool} {ms rows : Int} (H : CI σ) (S : ST σ 41 I) (hms : 0 ≤ ms ∧ ms ≤ 6) (ok : ∀ r : Nat, r < 60 → okL (σ 44 (r : Int))) (hr : ∀ q : Nat, q < 60 → bq rows q = (I q && (decide (bIn B (σ 42 (q : Int)) (σ 43 (q : Int))) && T (q : Int)))) : zP' (g_fi_gather a rows σ) (fun _ s => (∀ b j, b ≠ a + 1 → b ≠ a + 2 → (b ≠ a ∨ j ≠ 2) → s b j = σ b j) ∧ s a 2 = ((liT σ 41 B T).length : Int) ∧ sg (s (a + 1)) 0 (liT σ 41 B T).length = liT σ 41 B T ∧ (∀ j : Nat, j < (liT σ 41 B T).length → s (a + 2) (j : Int) = σ 44 ((liT σ 41 B T).getD j 0)) ∧ zP' (g_fi_measured a ms s) (fun v t => t = s ∧ v = valT σ 41 B T ms)) := by
  have h4 := CI.c4 (a := 41) H (by omega)
  refine (p_gather ha (P := fun v => I v.toNat && (decide (bIn B (σ 42 v) (σ 43 v)) && T v)) (rows := rows) (σ := σ) (fun q hq => by
    rw [hr q hq]
    try dsimp only
    rw [show ((q : Nat) : Int).toNat = q by omega]) h4 (ST_val S)).imp (fun _ s p => ?_)
  obtain ⟨p1, d, p2, p3, p4⟩ := p
  have eL : (ordL σ 41).filter (fun v => I v.toNat && (decide (bIn B (σ 42 v) (σ 43 v)) && T v)) = liT σ 41 B T := by
    unfold liT
    refine List.filter_congr (fun v hv => ?_)
    obtain ⟨q, e, hq⟩ := (S.2.2.2 v).mp hv
    subst e
    rw [show ((q : Nat) : Int).toNat = q by omega, hq, Bool.true_and]
  rw [eL] at p3
  have hd : d = (liT σ 41 B T).length := by rw [← p3, sg_len]
  have hl : d ≤ 60 := by
    have h1 := List.length_filter_le (fun v => decide (bIn B (σ (41 + 1) v) (σ (41 + 2) v)) && T v) (ordL σ 41)
    have h2 : (ordL σ 41).length = (σ 41 4).toNat := sg_len _ _ _
    unfold liT at hd
    omega
  have cell : ∀ j : Nat, j < d → s (a + 1) (j : Int) = (liT σ 41 B T).getD j 0 := fun j hj => by
    rw [← p3, sg_get d 0 j hj, show (0 : Int) + (j : Int) = (j : Int) by omega]
  have wc : ∀ j : Nat, j < d → s (a + 2) (j : Int) = σ 44 ((liT σ 41 B T).getD j 0) := fun j hj => by rw [p4 j hj, cell j hj]
  have okd : ∀ j : Nat, j < d → okL (s (a + 2) (j : Int)) := fun j hj => by
    rw [wc j hj]
    have hm := liT_mem S (getD_mem (L := liT σ 41 B T) (j := j) (by omega))
    have h := ok ((liT σ 41 B T).getD j 0).toNat (by omega)
    rw [show ((((liT σ 41 B T).getD j 0).toNat : Nat) : Int) = (liT σ 41 B T).getD j 0 by omega] at h
    exact h
  refine ⟨p1, by rw [p2, hd], by rw [← hd]; exact p3, fun j hj => wc j (by omega), ?_⟩
  refine (p_measured p2 hl hms okd).imp (fun v t q => ⟨q.1, ?_⟩)
  rw [q.2]
  unfold valT
  rw [← hd]
  exact msF_ext (fun j hj => by
    rw [wc j hj]
    rfl)
/-- the class's find is that of a box and a test -/
def fnT (σ s : zS) (B : Bx) (T : Int → Bool) : Prop := s 60 2 = ((liT σ 41 B T).length : Int) ∧ sg (s 61) 0 (liT σ 41 B T).length = liT σ 41 B T ∧ ∀ j : Nat, j < (liT σ 41 B T).length → s 62 (j : Int) = σ 44 ((liT σ 41 B T).getD j 0)
theorem fnT_E {σ0 σ s : zS} {B : Bx} {T : Int → Bool} (e : stE σ0 σ) (h : fnT σ s B T) : fnT σ0 s B T := by
  have e44 : σ 44 = σ0 44 := funext (fun j => e 44 j (by unfold stK; omega))
  unfold fnT at *
  rw [liT_E e, e44] at h
  exact h
theorem p_doneT {σ : zS} {I : Nat → Bool} {B : Bx} {T : Int → Bool} {m y : Int} (H : CI σ) (S : ST σ 41 I) (hb : bOk B) (hm : 0 ≤ m ∧ m ≤ 6) (ok : ok44 σ) (hy : btE I y T) : zP' (g_c_done m (enc B) y σ) (fun v s => v = valT σ 41 B T m ∧ fnT σ s B T) := by
  unfold g_c_done
  refine zP'.bind (zP'.of (g_ca_serve_sp (a0 := 48) (by omega) H)) (fun _ s1 p1 => ?_)
  obtain ⟨H1, G1, -⟩ := p1
  have e : stE σ s1 := stE.of G1 (fun _ => ⟨rfl, rfl, rfl, rfl, rfl, rfl, rfl⟩)
  have S1 := ST_E S e
  try dsimp +instances only
  obtain ⟨rows, e1, e2⟩ := p_rowsIn (σ := s1) (b := B) S1.2.1 hb
  rw [e1]
  rw [Option.bind_some]
  try dsimp +instances only
  have e44 : s1 44 = σ 44 := funext (fun j => e 44 j (by unfold stK; omega))
  refine zP'.bind (p_fiMeasT (a := 60) (by omega) (B := B) (T := T) H1 S1 hm (fun r hr => by rw [e44]; exact ok r hr) (fun q hq => by
    rw [bq_and, e2 q (by omega)]
    cases hI : I q with
    | false => rfl
    | true => rw [hy q hq hI, Bool.true_and, Bool.true_and])) (fun _ s p => ?_)
  obtain ⟨-, p2, p3, p4, p5⟩ := p
  try dsimp +instances only
  refine zP'.bind p5 (fun v t q => ?_)
  refine zP'.ret ⟨?_, ?_⟩
  · dsimp only
    rw [q.2, valT_E e]
  · dsimp only
    rw [q.1]
    exact fnT_E e ⟨p2, p3, p4⟩
/-- the two lists are one -/
theorem liT_eq {σ : zS} {c m mw : Nat} (R : RW σ c m mw) (B : Bx) (T : Int → Bool) : liT σ c B T = liR (σ m) B T ∧ ∀ v, v ∈ liT σ c B T → (0 ≤ v ∧ v < 60) ∧ σ (c + 3) v = σ mw (1 + v) := by
  obtain ⟨⟨b1, b2, b3, b5⟩, hr⟩ := R
  have mem : ∀ a, a ∈ ordL σ c → ∃ q : Nat, a = (q : Int) ∧ q < 60 ∧ inS σ m q = true := fun a ha => by
    obtain ⟨q, h1, h2⟩ := (b5 a).mp ha
    exact ⟨q, h1, b1 q h2, h2⟩
  have hS : SL (KF (σ m)) (selF (σ m) B T) (liT σ c B T) := by
    refine ⟨?_, fun v => ?_⟩
    · refine List.Pairwise.imp_of_mem (fun {a b} ha hb h => ?_) (List.Pairwise.filter _ b3)
      obtain ⟨q1, rfl, h1, -⟩ := mem a (List.mem_filter.mp ha).1
      obtain ⟨q2, rfl, h2, -⟩ := mem b (List.mem_filter.mp hb).1
      obtain ⟨-, x1, y1, -⟩ := hr q1 h1
      obtain ⟨-, x2, y2, -⟩ := hr q2 h2
      unfold rkA at h
      rw [x1, y1, x2, y2] at h
      exact h
    · unfold liT
      rw [List.mem_filter]
      constructor
      · rintro ⟨h1, h2⟩
        obtain ⟨q, rfl, h3, h4⟩ := mem v h1
        obtain ⟨-, x1, y1, -⟩ := hr q h3
        obtain ⟨h2, hT⟩ := Bool.and_eq_true_iff.mp h2
        have h2 := of_decide_eq_true h2
        rw [x1, y1] at h2
        have h5 := of_decide_eq_true h4
        exact ⟨q, h3, rfl, by omega, h2, hT⟩
      · rintro ⟨q, h1, rfl, h2, h3, hT⟩
        obtain ⟨z1, x1, y1, -⟩ := hr q h1
        refine ⟨(b5 _).mpr ⟨q, rfl, decide_eq_true ⟨h1, by omega⟩⟩, Bool.and_eq_true_iff.mpr ⟨decide_eq_true ?_, hT⟩⟩
        rw [x1, y1]
        exact h3
  refine ⟨(liR_eq hS).symm, fun v hv => ?_⟩
  obtain ⟨q, rfl, h1, -⟩ := mem v (List.mem_filter.mp hv).1
  obtain ⟨-, -, -, w1, -⟩ := hr q h1
  exact ⟨by omega, w1⟩
theorem valT_eq {σ : zS} {c m mw : Nat} (R : RW σ c m mw) (B : Bx) (T : Int → Bool) (ms : Int) : valT σ c B T ms = valR (σ m) (σ mw) B T ms := by
  obtain ⟨e, g⟩ := liT_eq R B T
  unfold valT valR
  rw [← e]
  refine msF_ext (fun j hj => ?_)
  obtain ⟨hb, w1⟩ := g _ (getD_mem hj)
  rw [show ((j : Nat) : Int).toNat = j by omega, w1]
  exact (if_pos (by omega)).symm
/-- the find of both sides is one -/
def FNe (s : zS) : Prop := s 60 2 = s 144 8 ∧ ∀ j : Nat, j < 60 → (j : Int) < s 60 2 → s 61 (j : Int) = s 144 (200 + (j : Int)) ∧ s 62 (j : Int) = s 147 (61 + (j : Int))
theorem FN_of {σ s t : zS} {B : Bx} {T : Int → Bool} (R : RW σ 41 144 147) (h1 : fnT σ s B T) (h2 : fnR σ t B T) (e : ∀ a j, (a = 60 ∧ j = 2) ∨ a = 61 ∨ a = 62 → t a j = s a j) : FNe t := by
  obtain ⟨el, g⟩ := liT_eq R B T
  obtain ⟨a1, a2, a3⟩ := h1
  obtain ⟨b1, b2, b3⟩ := h2
  rw [← el] at b1 b2 b3
  generalize liT σ 41 B T = L at a1 a2 a3 b1 b2 b3 g
  refine ⟨by rw [e 60 2 (by omega), a1, b1], fun j _ hj => ?_⟩
  rw [e 60 2 (by omega), a1] at hj
  have hj : j < L.length := by omega
  have c1 := sg_get (f := s 61) L.length 0 j hj
  have c2 := sg_get (f := fun j => t 144 (200 + j)) L.length 0 j hj
  rw [a2] at c1
  rw [b2] at c2
  rw [show (0 : Int) + (j : Int) = (j : Int) by omega] at c1 c2
  obtain ⟨-, w⟩ := g _ (getD_mem hj)
  refine ⟨?_, ?_⟩
  · rw [e 61 _ (by omega), ← c1]
    exact c2
  · rw [e 62 _ (by omega), a3 j hj, b3 j hj, w]
end
section
/-! 6w.askT -/
/-! WHAT THE REFERENCE ASKS with a test: the answer, the find, the fault kept -/
theorem asked_fault {σ : zS} {N : Nat} {q : Bx} {x t : Int} (hR : RI σ N) (hN : σ 144 0 = (N : Int)) (hN2 : N ≤ 12) (hq : bOk q) (hb : bxA σ 152 0 = q) (h13 : 1 ≤ σ 144 13) (h13b : σ 144 13 ≤ 12) (h12 : 1 ≤ σ 144 12) (ht : ∀ s, frQ σ s → tstOk s t) (hev : ∀ s, frQ σ s → (t < 0 ∨ ∀ (s' : zS) (r : Int), 0 ≤ r → r < 60 → frG s s' → zP' (g_grp231 zR 231 r (zu s' 143 21 t)) (fun _ u => fr3 (zu s' 143 21 t) u ∧ u 143 22 = s' 143 22))) : zP' (g_m_asked x t σ) (fun _ u => u 143 22 = σ 143 22) := by
  have l152 : zLI 152 = 4 := rfl
  obtain ⟨s1, N1, e1, e2, e3, e4, e5⟩ := s_queries hR hN hN2 hq hb h13 h13b h12
  obtain ⟨s2, m, f1, f2, f3, f4, f5⟩ := s_gathers (a := 152) (i := 0) (t := t) (σ := s1) (by omega) (by omega) (by omega) (ht s1 e5)
  have ff : s2 143 22 = s1 143 22 := ga_fault (hev s1 e5) () s2 f1
  obtain ⟨v, s3, g1, g2⟩ := s_asked27 (x := x) f2 m 0 zK (zu s2 144 8 (m : Int)) (by omega) (by show _ < 1000000; omega) (by rw [zu_a (by decide)]; exact f4)
  unfold g_m_asked
  rw [e1]
  rw [Option.bind_some]
  try dsimp only
  rw [f1]
  simp only [Option.bind_some, f4]
  have g1 : g_m_asked_L27 zK x 0 (zu s2 144 8 (m : Int)) = some (v, s3) := g1
  rw [g1]
  refine zP'.ret ?_
  rw [g2 143 22 (Or.inl (by decide)) (Or.inl (by decide)) (Or.inr (by decide)), zu_a (by decide), ff]
  exact e5 143 22 (Or.inl (by decide)) (Or.inl (by decide)) (by decide) (by decide) (by decide) (Or.inr (by decide))
/-- a row's test, read anew -/
theorem ev_row {ev : Int → Int → Int} {r t p' : Int} {T : Int → Bool} {s : zS} (hr : 0 ≤ r ∧ r < 60) (hL : 0 ≤ s 143 20 ∧ s 143 20 ≤ 160) (hb : tpR s) (h0 : 0 ≤ t ∧ t ≤ s 143 20) (he : ∀ l, mev s l r = ev l r) (e : eP ev (mT s) (s 143 20) 700 0 0 t (fun _ => true) = .inr (T, p')) : zP' (g_grp231 zR 231 r (zu s 143 21 t)) (evQ (zu s 143 21 t) (T r) p') := by
  have f : fr3 s (zu s 143 21 t) := fr3.u (Or.inl rfl)
  have e21 : zu s 143 21 t 143 21 = t := zu_e rfl
  have e20 : zu s 143 21 t 143 20 = s 143 20 := zu_i (by decide)
  have tp : tpP (zu s 143 21 t) := by
    refine ⟨by rw [e20]; exact hL, by rw [e20, e21]; exact h0, ?_⟩
    unfold tpR
    rw [e20]
    exact fun j j1 j2 => by rw [zu_a (by decide)]; exact hb j j1 j2
  refine (m_eval (ev := ev) hr 700).1 zR 0 (fun _ => true) (T, p') _ tp (fun l => (mev_f f l r).trans (he l)) ?_
  rw [mT_f f, e20, e21]
  exact e
/-- what a query of the line is, told of any state that keeps tape and rows -/
def tpK (σ s : zS) : Prop := s 143 20 = σ 143 20 ∧ (∀ j, s 159 j = σ 159 j) ∧ (∀ j, 20 ≤ j → j < 200 → s 144 j = σ 144 j) ∧ ∀ j, 1 ≤ j → j < 61 → s 147 j = σ 147 j
theorem tpK.eT {σ s : zS} (k : tpK σ s) : mT s = mT σ := by
  unfold mT
  rw [k.1, show s 159 = σ 159 from funext k.2.1]
theorem tpK.eV {σ s : zS} (k : tpK σ s) {r : Int} (hr : 0 ≤ r ∧ r < 60) (l : Int) : mev s l r = mev σ l r := by
  unfold mev
  rw [k.2.2.2 (1 + r) (by omega) (by omega), k.2.2.1 (21 + 3 * r) (by omega) (by omega), k.2.2.1 (22 + 3 * r) (by omega) (by omega)]
theorem tpK.trans {σ s t : zS} (h1 : tpK σ s) (h2 : tpK s t) : tpK σ t := ⟨h2.1.trans h1.1, fun j => (h2.2.1 j).trans (h1.2.1 j), fun j a b => (h2.2.2.1 j a b).trans (h1.2.2.1 j a b), fun j a b => (h2.2.2.2 j a b).trans (h1.2.2.2 j a b)⟩
theorem tpK.Q {σ s : zS} (h : frQ σ s) : tpK σ s := ⟨h 143 20 (Or.inl (by decide)) (Or.inl (by decide)) (by decide) (by decide) (by decide) (Or.inr (by decide)), fun j => h 159 j (Or.inl (by decide)) (Or.inl (by decide)) (by decide) (by decide) (by decide) (Or.inl (by decide)), fun j a b => h 144 j (Or.inr (by omega)) (Or.inl (by decide)) (by decide) (by decide) (by decide) (Or.inl (by decide)), fun j a b => h 147 j (Or.inl (by decide)) (Or.inr (by omega)) (by decide) (by decide) (by decide) (Or.inl (by decide))⟩
theorem tpK.G {σ s : zS} (h : frG σ s) : tpK σ s := ⟨h 143 20 (Or.inr (by decide)) (by decide) (by decide), fun j => h 159 j (Or.inl (by decide)) (by decide) (by decide), fun j _ _ => h 144 j (Or.inl (by decide)) (by decide) (by decide), fun j _ _ => h 147 j (Or.inl (by decide)) (by decide) (by decide)⟩
theorem q_ev {σ s : zS} {Q : zQy} (hL : 0 ≤ σ 143 20 ∧ σ 143 20 ≤ 160) (hb : tpR σ) (k : tpK σ s) (ok : qOkP (mev σ) (mT σ) (σ 143 20) Q) : Q.2.2.1 < 0 ∧ (∀ r, Q.2.2.2 r = true) ∨ 0 ≤ Q.2.2.1 ∧ ∃ p', ∀ (s' : zS) (r : Int), 0 ≤ r → r < 60 → frG s s' → zP' (g_grp231 zR 231 r (zu s' 143 21 Q.2.2.1)) (evQ (zu s' 143 21 Q.2.2.1) (Q.2.2.2 r) p') := by
  obtain ⟨-, -, h⟩ := ok
  rcases h with ⟨h1, h2⟩ | ⟨h1, h2, p', h3⟩
  · exact Or.inl ⟨h1, h2⟩
  · refine Or.inr ⟨h1, p', fun s' r r1 r2 g => ?_⟩
    have k' := k.trans (tpK.G g)
    have hb' : tpR s' := by
      unfold tpR
      rw [k'.1]
      exact fun j j1 j2 => by rw [k'.2.1]; exact hb j j1 j2
    refine ev_row (ev := mev σ) ⟨r1, r2⟩ (by rw [k'.1]; exact hL) hb' (by rw [k'.1]; exact ⟨h1, h2⟩) (fun l => k'.eV ⟨r1, r2⟩ l) ?_
    rw [k'.eT, k'.1]
    exact h3
theorem q_tst {σ s : zS} {Q : zQy} (hL : 0 ≤ σ 143 20 ∧ σ 143 20 ≤ 160) (hb : tpR σ) (k : tpK σ s) (ok : qOkP (mev σ) (mT σ) (σ 143 20) Q) : tstT s Q.2.2.1 Q.2.2.2 := by
  rcases q_ev hL hb k ok with h | ⟨h1, p', h2⟩
  · exact Or.inl h
  · have h3 : Q.2.2.1 ≤ σ 143 20 := by
      rcases ok.2.2 with h | h
      · omega
      · exact h.2.1
    have t0 := tst_ok (σ := s) (t := Q.2.2.1) (by rw [k.1]; exact hL) (by omega)
    refine Or.inr ⟨by omega, fun s' g r r1 r2 => ?_⟩
    obtain ⟨b, s'', e1, e2⟩ := (t0.resolve_left (by omega)) s' g r r1 r2
    obtain ⟨-, p2, -⟩ := h2 s' r r1 r2 g b s'' e1
    refine ⟨b, s'', e1, ?_, fun a j h => e2 a j h⟩
    rw [p2]
    cases Q.2.2.2 r with
    | true => exact ⟨fun _ => rfl, fun _ => by decide⟩
    | false => exact ⟨fun h => absurd rfl h, fun h => by cases h⟩
theorem t_askedQ {σ s : zS} {N : Nat} {Q : zQy} (hL : 0 ≤ σ 143 20 ∧ σ 143 20 ≤ 160) (hb : tpR σ) (k : tpK σ s) (ok : qOkP (mev σ) (mT σ) (σ 143 20) Q) (hR : RI s N) (hN : s 144 0 = (N : Int)) (hN2 : N ≤ 12) (hq : bxA s 152 0 = Q.2.1) (h13 : 1 ≤ s 144 13) (h13b : s 144 13 ≤ 12) (h12 : 1 ≤ s 144 12) (hp : plR s) (o7 : ok147 s) : ∃ t N', g_m_asked Q.1 Q.2.2.1 s = some (valR (σ 144) (σ 147) Q.2.1 Q.2.2.2 Q.1, t) ∧ fnR σ t Q.2.1 Q.2.2.2 ∧ t 143 22 = s 143 22 ∧ RI t N' ∧ t 144 0 = (N' : Int) ∧ N' ≤ 12 ∧ frK s t ∧ 0 ≤ t 144 8 ∧ t 144 8 ≤ 60 := by
  have hx := ok.1
  have hbx := ok.2.1
  have tsk : ∀ u, frQ s u → tstT u Q.2.2.1 Q.2.2.2 := fun u g => q_tst hL hb (k.trans (tpK.Q g)) ok
  have tso : ∀ u, frQ s u → tstOk u Q.2.2.1 := fun u g => tst_ok (by rw [(k.trans (tpK.Q g)).1]; exact hL) (by
    rcases ok.2.2 with h | h
    · omega
    · omega)
  obtain ⟨t, e1, e2⟩ := t_asked (x := Q.1) (t := Q.2.2.1) (T := Q.2.2.2) hR hN hN2 hbx hq h13 h13b h12 hp o7 hx tsk
  obtain ⟨v, t', N', g1, g2, g3, g4, g5, g6, g7⟩ := s_asked (x := Q.1) (t := Q.2.2.1) hR hN hN2 hbx hq h13 h13b h12 tso
  rw [e1] at g1
  cases g1
  have g0 := asked_fault (x := Q.1) (t := Q.2.2.1) hR hN hN2 hbx hq h13 h13b h12 tso (fun u g => by
    rcases q_ev hL hb (k.trans (tpK.Q g)) ok with h | ⟨h1, p', h2⟩
    · exact Or.inl h.1
    · refine Or.inr (fun s' r r1 r2 gg => (h2 s' r r1 r2 gg).imp (fun b w p => ⟨p.1.1, p.1.2.trans (zu_i (by decide))⟩))) _ _ e1
  have eV : valR (s 144) (s 147) Q.2.1 Q.2.2.2 Q.1 = valR (σ 144) (σ 147) Q.2.1 Q.2.2.2 Q.1 := valR_ext k.2.2.1 k.2.2.2
  have eL : liR (s 144) Q.2.1 Q.2.2.2 = liR (σ 144) Q.2.1 Q.2.2.2 := liR_ext k.2.2.1
  refine ⟨t, N', by rw [← eV]; exact e1, ?_, g0, g2, g3, g4, g5, g6, g7⟩
  obtain ⟨f1, f2, f3⟩ := e2
  unfold fnR
  rw [eL] at f1 f2 f3
  refine ⟨f1, f2, fun j hj => ?_⟩
  have hm : (liR (σ 144) Q.2.1 Q.2.2.2).getD j 0 ∈ liR (σ 144) Q.2.1 Q.2.2.2 := getD_mem hj
  obtain ⟨s5, m5, -, -, -, -, k5, -⟩ := t_gathers (a := 152) (i := 0) (t := Q.2.2.1) (σ := s) (B := Q.2.1) (T := Q.2.2.2) (by omega) (by show (0 : Int) + 3 < 4; decide) (by decide) (by decide) (by decide) (by decide) hq hp (tsk s (fun _ _ _ _ _ _ _ _ => rfl))
  have eq : liR (s 144) Q.2.1 Q.2.2.2 = sg (s5 154) 0 m5 := liR_eq k5
  rw [← eL, eq] at hm
  have bd := selF_bd (f := s 144) (B := Q.2.1) (T := Q.2.2.2) ((k5.2 _).mp hm)
  rw [← eq, eL] at bd
  rw [f3 j hj, k.2.2.2 _ (by omega) (by omega)]
end
section
/-! 6x.runM -/
/-! run() OF THE REFERENCE: its answers, its find -/
def anR (σ : zS) (l : List zQy) (k : Nat) (s : zS) : Prop := ∀ (i : Nat) (hi : i < l.length), i < k → s 162 (i : Int) = valR (σ 144) (σ 147) l[i].2.1 l[i].2.2.2 l[i].1
def fnRl (σ : zS) (l : List zQy) (k : Nat) (s : zS) : Prop := ∀ (i : Nat) (hi : i < l.length), i + 1 = k → fnR σ s l[i].2.1 l[i].2.2.2
theorem m_run86T {σ : zS} {l : List zQy} (hl : l.length ≤ 8) (h0 : 0 < l.length) (hL : 0 ≤ σ 143 20 ∧ σ 143 20 ≤ 160) (hb : tpR σ) (ok : ∀ Q ∈ l, qOkP (mev σ) (mT σ) (σ 143 20) Q) (o7 : ok147 σ) : ∀ (n k : Nat) (s : zS), k ≤ l.length → MI s → tpK σ s → s 143 22 = -1 → s 143 27 = (l.length : Int) → quR' l s → anR σ l k s → fnRl σ l k s → zP' (g_m_run_L86 n (l.length : Int) (k : Int) s) (fun v t => v = (l.length : Int) ∧ t 143 27 = (l.length : Int) ∧ anR σ l l.length t ∧ fnRl σ l l.length t)
  | 0, _, _, _, _, _, _, _, _, _, _ => zP'.no
  | n + 1, k, s, hk, h, kp, hs, h27, hq, ha, hf => by
    have l161 : zLI 161 = 48 := rfl
    have l152 : zLI 152 = 4 := rfl
    unfold g_m_run_L86
    by_cases c : (l.length : Int) ≤ (k : Int)
    · have ek : k = l.length := by omega
      subst ek
      rw [if_pos c]
      unfold g_m_run_L145
      try dsimp +instances only
      have e22 : zu s 143 20 0 143 22 = -1 := (zu_i (by decide)).trans hs
      rw [if_neg (by rw [e22]; decide)]
      refine zP'.ret ⟨rfl, (zu_i (by decide)).trans h27, fun i hi hik => ?_, fun i hi hik => ?_⟩
      · rw [zu_a (by decide)]
        exact ha i hi hik
      · obtain ⟨f1, f2, f3⟩ := hf i hi hik
        refine ⟨(zu_a (by decide)).trans f1, ?_, fun j hj => (zu_a (by decide)).trans (f3 j hj)⟩
        have e : (fun j => zu s 143 20 0 144 (200 + j)) = fun j => s 144 (200 + j) := funext (fun j => zu_a (by decide))
        show sg (fun j => zu s 143 20 0 144 (200 + j)) 0 _ = _
        rw [e]
        exact f2
    · have hk' : k < l.length := by omega
      have okQ := ok l[k] (List.getElem_mem hk')
      obtain ⟨q1, q2, q3⟩ := hq k hk'
      rw [if_neg c, w32_id (x := 6 * (k : Int)) (by omega) (by omega), w32_id (x := 6 * (k : Int) + 1) (by omega) (by omega), s_copies (by omega) (by omega) (by omega) (by omega) (by omega) (by omega)]
      rw [Option.bind_some]
      try dsimp +instances only
      rw [if_pos (by omega), w32_id (x := 6 * (k : Int) + 5) (by omega) (by omega), if_pos (by omega)]
      generalize hs1 : zb s 152 0 (bxA s 161 (6 * (k : Int) + 1)) = s1
      have f1 : ∀ a j, a ≠ 152 → s1 a j = s a j := fun a j ha => by rw [← hs1]; exact zb_a ha
      have hb1 : bxA s1 152 0 = l[k].2.1 := by rw [← hs1, ← q2]; exact zb_bx rfl
      have h1 : MI s1 := MI_144 h (fun a j hh => f1 a j (by omega))
      have k1 : tpK σ s1 := kp.trans ⟨f1 143 20 (by decide), fun j => f1 159 j (by decide), fun j _ _ => f1 144 j (by decide), fun j _ _ => f1 147 j (by decide)⟩
      rw [f1 161 _ (by decide), f1 161 _ (by decide), q1, q3]
      obtain ⟨N, n1, n2, n3⟩ := h1.1
      have hp : plR s1 := fun r hr => h1.2.1.2.2.2.2.2.2 r hr
      have o71 : ok147 s1 := fun r hr => by
        rw [k1.2.2.2 _ (by omega) (by omega)]
        exact o7 r hr
      obtain ⟨t, N', e1, e2, e3, e4, e5, e6, e7, e8⟩ := t_askedQ hL hb k1 okQ n3 n2 n1 hb1 h1.2.1.2.1.1 h1.2.1.2.1.2 h1.2.1.1.1 hp o71
      rw [e1]
      rw [Option.bind_some]
      try dsimp +instances only
      rw [if_pos (by omega), w32_id (x := (k : Int) + 1) (by omega) (by omega)]
      have q : ∀ a j, (a < 143 ∨ 168 ≤ a ∨ a = 159 ∨ a = 161 ∨ a = 162 ∨ a = 166 ∨ a = 167 ∨ a = 145 ∨ a = 148 ∨ (a = 144 ∧ ((9 ≤ j ∧ j < 200) ∨ (260 ≤ j ∧ j < 340))) ∨ (a = 147 ∧ 1 ≤ j ∧ j < 61) ∨ (a = 143 ∧ (j = 6 ∨ j = 20 ∨ j = 27 ∨ j = 29 ∨ j = 32))) → t a j = s1 a j := fun a j hh => e7 a j (by omega) (by omega) (by omega) (by omega) (by omega) (by omega) (by omega) (by omega)
      have hH2 : HI t := HI_fr h1.2.1 (fun j hj => q 144 j (by omega)) e8
      have h2 : MI t := MI_q h1 ⟨N', e6, e5, e4⟩ hH2 (fun a j hh => q a j (by omega))
      generalize hv : valR (σ 144) (σ 147) l[k].2.1 l[k].2.2.2 l[k].1 = v
      have h3 : MI (zu t 162 (k : Int) v) := MI_144 h2 (fun a j hh => zu_a (by omega))
      have z : ∀ a j, a ≠ 162 → zu t 162 (k : Int) v a j = t a j := fun a j ha => zu_a (by omega)
      rw [show (k : Int) + 1 = ((k + 1 : Nat) : Int) by omega]
      refine m_run86T hl h0 hL hb ok o7 n (k + 1) _ (by omega) h3 (k1.trans ⟨?_, fun j => ?_, fun j j1 j2 => ?_, fun j j1 j2 => ?_⟩) ?_ ?_ ?_ ?_ ?_
      · rw [z 143 20 (by decide)]
        exact q 143 20 (by omega)
      · rw [z 159 j (by decide)]
        exact q 159 j (by omega)
      · rw [z 144 j (by decide)]
        exact q 144 j (by omega)
      · rw [z 147 j (by decide)]
        exact q 147 j (by omega)
      · rw [z 143 22 (by decide), e3, f1 143 22 (by decide)]
        exact hs
      · rw [z 143 27 (by decide), q 143 27 (by omega), f1 143 27 (by decide)]
        exact h27
      · intro i hi
        have g := hq i hi
        have e : ∀ j, zu t 162 (k : Int) v 161 j = s 161 j := fun j => (z 161 j (by decide)).trans ((q 161 j (by omega)).trans (f1 161 j (by decide)))
        have eb : bxA (zu t 162 (k : Int) v) 161 (6 * (i : Int) + 1) = bxA s 161 (6 * (i : Int) + 1) := by
          unfold bxA
          rw [e, e, e, e]
        rw [e, e, eb]
        exact g
      · intro i hi hik
        by_cases ci : i = k
        · subst ci
          rw [zu_e rfl, ← hv]
        · rw [zu_i (by omega), q 162 _ (by omega), f1 162 _ (by decide)]
          exact ha i hi (by omega)
      · intro i hi hik
        have ci : i = k := by omega
        subst ci
        obtain ⟨g1, g2, g3⟩ := e2
        refine ⟨(z 144 8 (by decide)).trans g1, ?_, fun j hj => (z 147 _ (by decide)).trans (g3 j hj)⟩
        have e : (fun j => zu t 162 (i : Int) v 144 (200 + j)) = fun j => t 144 (200 + j) := funext (fun j => z 144 _ (by decide))
        show sg (fun j => zu t 162 (i : Int) v 144 (200 + j)) 0 _ = _
        rw [e]
        exact g2
def rnM (σ : zS) (t : zS) : Sum Int (List zQy) → Prop
  | .inl _ => ∀ a j, a ≠ 161 → (a ≠ 143 ∨ (j ≠ 20 ∧ j ≠ 21 ∧ j ≠ 22 ∧ j ≠ 23)) → t a j = σ a j
  | .inr l => t 143 27 = (l.length : Int) ∧ anR σ l l.length t ∧ fnRl σ l l.length t
theorem m_runA {σ : zS} (h : MI σ) (hb : tpR σ) (o7 : ok147 σ) : zP' (g_m_run σ) (fun v t => v = runAns (runP (mev σ) (mT σ) (σ 143 20) 8 0 []) ∧ rnM σ t (runP (mev σ) (mT σ) (σ 143 20) 8 0 [])) := by
  have h20 := h.2.2.1.1
  have ok := runP_ok (ev := mev σ) (f := mT σ) (L := σ 143 20) 8 0 [] (by decide) h20.1 rfl (fun Q hQ => absurd hQ List.not_mem_nil)
  unfold g_m_run g_m_begins
  rw [Option.bind_some]
  try dsimp +instances only
  have f3 : fr3 σ (zu (zu σ 143 21 0) 143 22 (-1)) := fun a j k2 => by rw [zu_c (by omega), zu_c (by omega)]
  have q21 : zu (zu σ 143 21 0) 143 22 (-1) 143 21 = 0 := by rw [zu_i (by omega), zu_e rfl]
  have q22 : zu (zu σ 143 21 0) 143 22 (-1) 143 22 = -1 := zu_e rfl
  generalize zu (zu σ 143 21 0) 143 22 (-1) = s1 at f3 q21 q22
  have e20 : s1 143 20 = σ 143 20 := f3 143 20 (by omega)
  have t1 : tpP s1 := by
    refine ⟨by rw [e20]; exact h20, by rw [e20, q21]; exact ⟨Int.le_refl 0, h20.1⟩, ?_⟩
    unfold tpR
    rw [e20]
    exact fun j j1 j2 => by rw [f3 159 j (Or.inl (by decide))]; exact hb j j1 j2
  refine m_runP (ev := mev σ) (σ0 := s1) zK 8 [] s1 t1 q22 rfl (by decide) (fun _ _ _ _ => rfl) (fun i hi => absurd hi (Nat.not_lt_zero _)) (fun r s f hr k => ?_)
  rw [mT_f f3, e20, q21] at hr
  have f : frQ2 σ s := (frQ2.of f3).trans f
  have hM := (MI_Q2 h f).1
  cases k with
  | zero => exact zP'.no
  | succ k =>
    unfold g_m_run_L8
    rw [if_pos rfl]
    cases e : runP (mev σ) (mT σ) (σ 143 20) 8 0 [] with
    | inl q =>
      rw [e] at hr
      have hr : s 143 22 = q := hr
      have bq := ok.1 q e
      try dsimp +instances only
      rw [if_pos (by omega)]
      unfold g_m_run_L145
      try dsimp +instances only
      have e22 : zu s 143 20 0 143 22 = q := (zu_i (by decide)).trans hr
      rw [e22, if_pos (by omega), w32_id (x := -100 - q) (by omega) (by omega)]
      exact zP'.ret ⟨rfl, fun a j k1 k2 => (zu_c (by omega)).trans (f a j k1 (by omega))⟩
    | inr l =>
      rw [e] at hr
      obtain ⟨rfl, h22, hq⟩ := hr
      obtain ⟨l8, l0, lq⟩ := ok.2 l e
      try dsimp +instances only
      rw [if_neg (by omega)]
      have z : ∀ a j, (a ≠ 143 ∨ j ≠ 27) → zu s 143 27 (l.length : Int) a j = s a j := fun a j hh => zu_c hh
      have kp : tpK σ (zu s 143 27 (l.length : Int)) := ⟨by rw [z 143 20 (by omega)]; exact f 143 20 (by decide) (by omega), fun j => by rw [z 159 j (by omega)]; exact f 159 j (by decide) (by omega), fun j _ _ => by rw [z 144 j (by omega)]; exact f 144 j (by decide) (by omega), fun j _ _ => by rw [z 147 j (by omega)]; exact f 147 j (by decide) (by omega)⟩
      have hM2 : MI (zu s 143 27 (l.length : Int)) := by
        refine ⟨NI_fr hM.1 (fun j _ => z 144 j (by omega)), HI_fr8 hM.2.1 (fun j _ _ => z 144 j (by omega)), ?_, II_fr hM.2.2.2 (z 143 6 (by omega)) (fun j => z 145 j (by omega))⟩
        obtain ⟨x1, x2, x3, x4, x5⟩ := hM.2.2.1
        refine ⟨by rw [z 143 20 (by omega)]; exact x1, by rw [zu_e rfl]; omega, by rw [z 143 29 (by omega)]; exact x3, by rw [z 143 32 (by omega)]; exact x4, fun k hk => ?_⟩
        rw [z 166 _ (by omega)]
        exact x5 k hk
      exact m_run86T l8 l0 h20 hb lq o7 zK 0 _ (Nat.zero_le _) hM2 kp ((z 143 22 (by omega)).trans h22) (zu_e rfl) (fun i hi => by
        have g := hq i hi
        have eb : bxA (zu s 143 27 (l.length : Int)) 161 (6 * (i : Int) + 1) = bxA s 161 (6 * (i : Int) + 1) := by
          unfold bxA
          rw [z 161 _ (by omega), z 161 _ (by omega), z 161 _ (by omega), z 161 _ (by omega)]
        rw [z 161 _ (by omega), z 161 _ (by omega), eb]
        exact g) (fun i hi hik => absurd hik (Nat.not_lt_zero _)) (fun i hi hik => by omega)
end
section
/-! 6y.runC -/
/-! run() OF THE CLASS: its answers, its find; both sides together -/
def anC (σ : zS) (l : List zQy) (k : Nat) (s : zS) : Prop := ∀ (i : Nat) (hi : i < l.length), i < k → s 128 (i : Int) = valT σ 41 l[i].2.1 l[i].2.2.2 l[i].1
def fnCl (σ : zS) (l : List zQy) (k : Nat) (s : zS) : Prop := ∀ (i : Nat) (hi : i < l.length), i + 1 = k → fnT σ s l[i].2.1 l[i].2.2.2
theorem fnT_zu {σ s : zS} {B : Bx} {T : Int → Bool} {a : Nat} {i v : Int} (h : fnT σ s B T) (k : a ≠ 60 ∧ a ≠ 61 ∧ a ≠ 62) : fnT σ (zu s a i v) B T := by
  obtain ⟨f1, f2, f3⟩ := h
  refine ⟨(zu_a (by omega)).trans f1, ?_, fun j hj => (zu_a (by omega)).trans (f3 j hj)⟩
  have e : zu s a i v 61 = s 61 := funext (fun j => zu_a (by omega))
  rw [e]
  exact f2
theorem c_run37T {I : Nat → Bool} {σ : zS} {l : List zQy} (hl : l.length ≤ 8) (ok : ∀ Q ∈ l, (0 ≤ Q.1 ∧ Q.1 ≤ 6) ∧ bOk Q.2.1) (S : ST σ 41 I) (o4 : ok44 σ) : ∀ (n k : Nat) (s : zS), k ≤ l.length → CI s → stE σ s → s 120 3 = -1 → s 122 5 = (l.length : Int) → s 39 9 = (l.length : Int) → quH I l s → anC σ l k s → fnCl σ l k s → zP' (g_c_run_L37 n (k : Int) s) (fun v t => v = (l.length : Int) ∧ t 39 9 = (l.length : Int) ∧ anC σ l l.length t ∧ fnCl σ l l.length t)
  | 0, _, _, _, _, _, _, _, _, _, _, _ => zP'.no
  | n + 1, k, s, hk, H, e, h3, h5, h9, hq, ha, hf => by
    unfold g_c_run_L37
    try dsimp +instances only
    rw [h5]
    by_cases c : (l.length : Int) ≤ (k : Int)
    · have ek : k = l.length := by omega
      subst ek
      rw [if_pos c]
      unfold g_c_run_L100
      try dsimp +instances only
      rw [c_end, if_pos h3]
      rw [Option.bind_some]
      have z : ∀ a j, a ≠ 120 → zu s 120 1 0 a j = s a j := fun a j h => zu_a h
      exact zP'.ret ⟨h5, (z 39 9 (by decide)).trans h9, fun i hi hik => (z 128 _ (by decide)).trans (ha i hi hik), fun i hi hik => fnT_zu (hf i hi hik) (by decide)⟩
    · have hk' : k < l.length := by omega
      obtain ⟨okm, okb⟩ := ok l[k] (List.getElem_mem hk')
      obtain ⟨q1, q2, q3⟩ := hq k hk'
      rw [if_neg c, if_neg (by omega), if_pos (by omega), if_pos (by omega), if_pos (by omega), q1, q2]
      have S1 := ST_E S e
      have o41 : ok44 s := fun r hr => by
        rw [e 44 _ (by unfold stK; omega)]
        exact o4 r hr
      refine zP'.bind ((p_doneT (T := l[k].2.2.2) H S1 okb okm o41 q3).and (zP'.of (g_c_done_sp H))) (fun v t p => ?_)
      obtain ⟨⟨p1, p2⟩, Ht, Gt, -⟩ := p
      try dsimp +instances only
      rw [if_pos (by omega), w32_id (x := (k : Int) + 1) (by omega) (by omega), show (k : Int) + 1 = ((k + 1 : Nat) : Int) by omega]
      have et : stE s t := stE.of Gt (fun _ => ⟨rfl, rfl, rfl, rfl, rfl, rfl, rfl⟩)
      have z : ∀ a j, a ≠ 128 → zu t 128 (k : Int) v a j = t a j := fun a j ha => zu_a (by omega)
      have ez : stE σ (zu t 128 (k : Int) v) := (e.trans et).trans (fun a j hh => z a j (by unfold stK at hh; omega))
      refine c_run37T hl ok S o4 n (k + 1) _ (by omega) (CI_zun Ht (by decide) (by decide) rfl) ez ?_ ?_ ?_ ?_ ?_ ?_
      · rw [z 120 3 (by decide), Gt 120 3 (Or.inr rfl)]
        exact h3
      · rw [z 122 5 (by decide), Gt 122 5 (Or.inr rfl)]
        exact h5
      · rw [z 39 9 (by decide), Gt 39 9 (Or.inr rfl)]
        exact h9
      · intro i hi
        rw [z 123 _ (by decide), z 124 _ (by decide), z 125 _ (by decide), Gt 123 _ (Or.inr rfl), Gt 124 _ (Or.inr rfl), Gt 125 _ (Or.inr rfl)]
        exact hq i hi
      · intro i hi hik
        by_cases ci : i = k
        · subst ci
          rw [zu_e rfl, p1, valT_E e]
        · rw [zu_i (by omega), Gt 128 _ (Or.inr rfl)]
          exact ha i hi (by omega)
      · intro i hi hik
        have ci : i = k := by omega
        subst ci
        exact fnT_zu (fnT_E e p2) (by decide)
def rnKc (σ : zS) (t : zS) : Sum Int (List zQy) → Prop
  | .inl _ => t 39 9 = σ 39 9 ∧ t 60 2 = σ 60 2 ∧ ∀ j, t 128 j = σ 128 j ∧ t 61 j = σ 61 j ∧ t 62 j = σ 62 j
  | .inr l => t 39 9 = (l.length : Int) ∧ anC σ l l.length t ∧ fnCl σ l l.length t
theorem c_runA {I : Nat → Bool} {ev : Int → Int → Int} {σ : zS} (H : CI σ) (hb : byC σ) (S : ST σ 41 I) (o4 : ok44 σ) (hev : ∀ q : Nat, q < 60 → I q = true → ∀ l : Int, 0 ≤ l → l ≤ 3 → cev σ l (q : Int) = ev l (q : Int)) : zP' (g_c_run σ) (fun v t => v = runAns (runP ev (cT σ) (σ 120 1) 8 0 []) ∧ rnKc σ t (runP ev (cT σ) (σ 120 1) 8 0 [])) := by
  have ht := CI.ct H
  unfold g_c_run
  rw [c_begin]
  rw [Option.bind_some]
  try dsimp +instances only
  have Hb : CI (zu (zu σ 120 2 0) 120 3 (-1)) := (zP'.of (g_ta_begin_sp H) _ _ c_begin).1
  have PP : zP' (g_qu_readParts (zu (zu σ 120 2 0) 120 3 (-1))) (fun _ s => frQu σ s ∧ quPo I (zu (zu (zu σ 120 2 0) 120 3 (-1)) 122 5 0) (runP ev (cT σ) (σ 120 1) 8 0 []) s) := by
    unfold g_qu_readParts
    try dsimp +instances only
    have f0 : frQu σ (zu (zu (zu σ 120 2 0) 120 3 (-1)) 122 5 0) := fun a j k1 k2 k3 k4 k5 => by rw [zu_c k5, zu_c (by omega), zu_c (by omega)]
    have e2 : zu (zu (zu σ 120 2 0) 120 3 (-1)) 122 5 0 120 2 = 0 := by rw [zu_a (by decide), zu_i (by decide), zu_e rfl]
    have e3 : zu (zu (zu σ 120 2 0) 120 3 (-1)) 122 5 0 120 3 = -1 := by rw [zu_a (by decide), zu_e rfl]
    have e5 : zu (zu (zu σ 120 2 0) 120 3 (-1)) 122 5 0 122 5 = 0 := zu_e rfl
    generalize zu (zu (zu σ 120 2 0) 120 3 (-1)) 122 5 0 = s1 at f0 e2 e3 e5
    have t1 : tpL s1 := by
      have e121 : s1 121 = σ 121 := funext (fun j => f0 121 j (Or.inl (by decide)) (by decide) (by decide) (by decide) (Or.inl (by decide)))
      unfold tpL
      rw [f0.L, e2, e121]
      exact ⟨ht, by omega, hb⟩
    have H1 : CI s1 := CI_Qu H f0 (by omega) (by omega)
    have O1 : exOk I ev s1 := (show exOk I ev σ from ⟨H, S, hev⟩).q f0 H1
    have P := c_runP (I := I) (ev := ev) zK 8 [] s1 t1 e3 O1 rfl (by decide) (fun i hi => absurd hi (Nat.not_lt_zero _))
    rw [f0.T, f0.L, e2] at P
    have P : zP' (g_qu_readParts_L9 zK 1 0 s1) (fun _ s => quPo I s1 (runP ev (cT σ) (σ 120 1) 8 0 []) s) := P
    exact P.imp (fun _ s p => ⟨f0.trans p.1, p⟩)
  refine zP'.bind (PP.and (zP'.of (g_qu_readParts_sp Hb))) (fun _ s2 p2 => ?_)
  obtain ⟨⟨F2, f2, p2⟩, H2, -, -⟩ := p2
  try dsimp +instances only
  rw [p_isSound]
  rw [Option.bind_some]
  try dsimp +instances only
  have ok := runP_ok (ev := ev) (f := cT σ) (L := σ 120 1) 8 0 [] (by decide) (by omega) rfl (fun Q hQ => absurd hQ List.not_mem_nil)
  cases e : runP ev (cT σ) (σ 120 1) 8 0 [] with
  | inl q =>
    rw [e] at p2
    have p2 : s2 120 3 = q := p2
    have hq := ok.1 q e
    have n3 : ¬ s2 120 3 = -1 := by omega
    rw [if_neg n3, if_pos rfl]
    unfold g_c_run_L100
    try dsimp +instances only
    rw [c_end, if_neg n3, p2, w32_id (x := -100 - q) (by omega) (by omega)]
    rw [Option.bind_some]
    have g : ∀ a j, a ≠ 120 → a ≠ 123 → a ≠ 124 → a ≠ 125 → a ≠ 122 → zu s2 120 1 0 a j = σ a j := fun a j k1 k2 k3 k4 k5 => (zu_a (by omega)).trans (F2 a j (Or.inl k1) k2 k3 k4 (Or.inl k5))
    exact zP'.ret ⟨rfl, g 39 9 (by decide) (by decide) (by decide) (by decide) (by decide), g 60 2 (by decide) (by decide) (by decide) (by decide) (by decide), fun j => ⟨g 128 j (by decide) (by decide) (by decide) (by decide) (by decide), g 61 j (by decide) (by decide) (by decide) (by decide) (by decide), g 62 j (by decide) (by decide) (by decide) (by decide) (by decide)⟩⟩
  | inr l =>
    rw [e] at p2
    obtain ⟨q3, q5, q6⟩ := p2
    rw [if_pos q3, if_neg (by decide)]
    obtain ⟨l8, l0, lq⟩ := ok.2 l e
    have H3 : CI (zu s2 39 9 (s2 122 5)) := CI_zuy H2 (by decide) (by decide) (lo := 0) (hi := 8) rfl (by omega) (by omega)
    have z : ∀ a j, a ≠ 39 → zu s2 39 9 (s2 122 5) a j = s2 a j := fun a j ha => zu_a (by omega)
    have e2 : stE σ (zu s2 39 9 (s2 122 5)) := fun a j hh => by
      unfold stK at hh
      rw [z a j (by omega)]
      exact F2 a j (Or.inl (by omega)) (by omega) (by omega) (by omega) (Or.inl (by omega))
    exact c_run37T l8 (fun Q hQ => ⟨(lq Q hQ).1, (lq Q hQ).2.1⟩) S o4 zK 0 _ (Nat.zero_le _) H3 e2 ((z 120 3 (by decide)).trans q3) ((z 122 5 (by decide)).trans q5) ((zu_e rfl).trans q5) (fun i hi => by
      rw [z 123 _ (by decide), z 124 _ (by decide), z 125 _ (by decide)]
      exact q6 i hi) (fun i hi hik => absurd hik (Nat.not_lt_zero _)) (fun i hi hik => by omega)
/-- the answers of both sides are one -/
def ANe (s : zS) : Prop := s 39 9 = s 143 27 ∧ ∀ j : Nat, j < 8 → (j : Int) < s 39 9 → s 128 (j : Int) = s 162 (j : Int)
theorem RW_ev {σ : zS} (R : RW σ 41 144 147) : ∀ q : Nat, q < 60 → inS σ 144 q = true → ∀ l : Int, 0 ≤ l → l ≤ 3 → cev σ l (q : Int) = mev σ l (q : Int) := fun q hq hi l l1 l2 => by
  obtain ⟨-, g2, g3, g4, -⟩ := R.2 q hq
  have g2 : σ 42 (q : Int) = σ 144 (21 + 3 * (q : Int)) := g2
  have g3 : σ 43 (q : Int) = σ 144 (22 + 3 * (q : Int)) := g3
  have g4 : σ 44 (q : Int) = σ 147 (1 + (q : Int)) := g4
  unfold cev mev
  rw [g2, g3, g4]
/-- the line of queries, both sides -/
theorem run_two {σ : zS} (I : InvS σ) {v w : Int} {s1 s2 : zS} (e1 : g_c_run σ = some (v, s1)) (e2 : g_m_run s1 = some (w, s2)) : v = w ∧ ((s2 39 9 = σ 39 9 ∧ s2 60 2 = σ 60 2 ∧ s2 143 27 = σ 143 27 ∧ (∀ j, s2 128 j = σ 128 j ∧ s2 61 j = σ 61 j ∧ s2 62 j = σ 62 j ∧ s2 162 j = σ 162 j ∧ s2 144 j = σ 144 j ∧ s2 147 j = σ 147 j)) ∨ (ANe s2 ∧ FNe s2)) := by
  have H := I.1.1.1.1
  have R : RW σ 41 144 147 := I.1.1.2.1.1
  have B : BK σ 41 144 147 := I.1.1.2.1
  have hL : σ 120 1 = σ 143 20 := I.1.1.1.2.2.1
  obtain ⟨c1, c2⟩ := c_runA (I := inS σ 144) (ev := mev σ) H I.1.2.c R.1 B.ok (RW_ev R) v s1 e1
  obtain ⟨-, G1, -⟩ := zP'.of (g_c_run_sp H) v s1 e1
  have ref : ∀ a j, 143 ≤ a → a < 168 → s1 a j = σ a j := fun a j k1 k2 => G1 a j (Or.inl ⟨k1, k2⟩)
  have M1 : MI s1 := MI_cls I.1.1.1.2.1 ref
  have e159 : s1 159 = σ 159 := funext (fun j => ref 159 j (by decide) (by decide))
  have e144 : s1 144 = σ 144 := funext (fun j => ref 144 j (by decide) (by decide))
  have e147 : s1 147 = σ 147 := funext (fun j => ref 147 j (by decide) (by decide))
  have e20 : s1 143 20 = σ 143 20 := ref 143 20 (by decide) (by decide)
  have hR : tpR s1 := by
    unfold tpR
    rw [e20, e159]
    exact I.1.2.m hL
  have eT : mT s1 = cT σ := by
    rw [cT_mT hL I.1.2]
    unfold mT
    rw [e20, e159]
  have eE : mev s1 = mev σ := by
    funext l r
    unfold mev
    rw [e144, e147]
  obtain ⟨m1, m2⟩ := m_runA M1 hR (B.ok7 e147) w s2 e2
  have F2 := f_run M1 w s2 e2
  rw [eT, e20, eE, ← hL] at m1 m2
  refine ⟨c1.trans m1.symm, ?_⟩
  cases e : runP (mev σ) (cT σ) (σ 120 1) 8 0 [] with
  | inl q =>
    rw [e] at c2 m2
    obtain ⟨k1, k2, k3⟩ := c2
    have m2 : ∀ a j, a ≠ 161 → (a ≠ 143 ∨ (j ≠ 20 ∧ j ≠ 21 ∧ j ≠ 22 ∧ j ≠ 23)) → s2 a j = s1 a j := m2
    refine Or.inl ⟨by rw [m2 39 9 (by decide) (by omega)]; exact k1, by rw [m2 60 2 (by decide) (by omega)]; exact k2, by rw [m2 143 27 (by decide) (by omega)]; exact ref 143 27 (by decide) (by decide), fun j => ?_⟩
    obtain ⟨k4, k5, k6⟩ := k3 j
    rw [m2 128 j (by decide) (by omega), m2 61 j (by decide) (by omega), m2 62 j (by decide) (by omega), m2 162 j (by decide) (by omega), m2 144 j (by decide) (by omega), m2 147 j (by decide) (by omega)]
    exact ⟨k4, k5, k6, ref 162 j (by decide) (by decide), ref 144 j (by decide) (by decide), ref 147 j (by decide) (by decide)⟩
  | inr l =>
    rw [e] at c2 m2
    obtain ⟨k1, k2, k3⟩ := c2
    obtain ⟨n1, n2, n3⟩ := m2
    have ok := runP_ok (ev := mev σ) (f := cT σ) (L := σ 120 1) 8 0 [] (by decide) (CI.ct H).1 rfl (fun Q hQ => absurd hQ List.not_mem_nil)
    obtain ⟨l8, l0, -⟩ := ok.2 l e
    have cl : ∀ a j, a < 143 → s2 a j = s1 a j := fun a j k => F2 a j (by omega)
    refine Or.inr ⟨⟨by rw [cl 39 9 (by decide), k1, n1], fun j _ hj => ?_⟩, ?_⟩
    · rw [cl 39 9 (by decide), k1] at hj
      have hj : j < l.length := by omega
      rw [cl 128 _ (by decide), k2 j hj hj, n2 j hj hj, e144, e147]
      exact valT_eq R _ _ _
    · have g1 := k3 (l.length - 1) (by omega) (by omega)
      have g2 := n3 (l.length - 1) (by omega) (by omega)
      have g2 : fnR σ s2 l[l.length - 1].2.1 l[l.length - 1].2.2.2 := by
        unfold fnR at *
        rw [e144, e147] at g2
        exact g2
      exact FN_of R g1 g2 (fun a j k => cl a j (by omega))
theorem qd_run {σ : zS} (I : InvS σ) : two (g_c_run σ) g_m_run (fun v w s => InvS s ∧ v = w) := by
  obtain ⟨v, s1, e1, w, s2, e2, J⟩ := qs_run I
  exact ⟨v, s1, e1, w, s2, e2, J, (run_two I e1 e2).1⟩
end
section
/-! 6z.frames2 -/
/-! WIDER FRAMES of settings() and load() (printed by wip/zf.py) -/
def frT5 (σ s : zS) : Prop := ∀ a j, (a < 143 ∨ 168 ≤ a ∨ a = 159 ∨ (161 ≤ a ∧ a < 168) ∨ a = 145 ∨ a = 148 ∨ (a = 144 ∧ ((8 ≤ j ∧ j < 11) ∨ (18 ≤ j ∧ j < 340))) ∨ (a = 147 ∧ 1 ≤ j ∧ j < 121) ∨ (a = 143 ∧ (j = 6 ∨ j = 27 ∨ j = 29 ∨ j = 32))) → s a j = σ a j
theorem x_set105 {σ0 : zS} {x : Int} (h : MI σ0) : ∀ (d k n : Nat) (s : zS), k + d = 7 → d < n → (∀ a j, a ≠ 160 → (a ≠ 143 ∨ (j ≠ 20 ∧ j ≠ 21 ∧ j ≠ 22 ∧ j ≠ 23)) → (a ≠ 144 ∨ j < 11 ∨ 18 ≤ j) → s a j = σ0 a j) → s 143 20 = 0 → stO s → (1 ≤ s 144 12 ∧ s 144 12 ≤ 99) → (1 ≤ s 144 13 ∧ s 144 13 ≤ 12) → ∃ s', g_m_settings_L105 n x (k : Int) s = some (x, s') ∧ MI s' ∧ s' 143 20 = 0 ∧ frT5 σ0 s'
  | _, _, 0, _, _, h, _, _, _, _, _ => absurd h (Nat.not_lt_zero _)
  | 0, k, n + 1, s, hk, _, hf, h20, hst, h12, h13 => by
    unfold g_m_settings_L105
    rw [if_pos (by omega)]
    obtain ⟨N, n1, n2, n3⟩ := h.1
    have hN : NI s := NI_fr h.1 (fun j hj => hf 144 j (by omega) (by omega) (by omega))
    obtain ⟨N, n1, n2, n3⟩ := hN
    obtain ⟨s', N', e1, e2, e3, e4, e5, e6⟩ := s_trims n3 n2 (by omega) h13.1 h12.1
    rw [e1]
    rw [Option.bind_some]
    try dsimp only
    have q : ∀ a j, (a ≠ 144 ∨ (8 ≤ j ∧ j < 340)) → a ≠ 147 → s' a j = s a j := fun a j k1 k2 => e5 a j k1 (Or.inl k2)
    have hH : HI s' := by
      obtain ⟨h1, h2, h3, h4, h5, h6, h7⟩ := h.2.1
      have q2 : ∀ j : Int, (8 ≤ j ∧ j < 11) ∨ (18 ≤ j ∧ j < 340) → s' 144 j = σ0 144 j := fun j hj => (q 144 j (by omega) (by decide)).trans (hf 144 j (by omega) (by omega) (by omega))
      refine ⟨by rw [q 144 12 (by omega) (by decide)]; exact h12, by rw [q 144 13 (by omega) (by decide)]; exact h13, by rw [q2 8 (by omega)]; exact h3, by rw [q2 9 (by omega)]; exact h4, by rw [q2 10 (by omega)]; exact h5, fun t ht => ?_, fun r hr => ?_⟩
      · rw [q2 9 (by omega)] at ht
        unfold bxA
        rw [q2 _ (by omega), q2 _ (by omega), q2 _ (by omega), q2 _ (by omega)]
        exact h6 t ht
      · rw [q2 _ (by omega), q2 _ (by omega)]
        exact h7 r hr
    have q3 : ∀ a j, a ≠ 144 → a ≠ 147 → a ≠ 160 → (a ≠ 143 ∨ (j ≠ 20 ∧ j ≠ 21 ∧ j ≠ 22 ∧ j ≠ 23)) → s' a j = σ0 a j := fun a j k1 k2 k3 k4 => (q a j (Or.inl k1) k2).trans (hf a j k3 k4 (Or.inl k1))
    have h20' : s' 143 20 = 0 := (q 143 20 (by omega) (by decide)).trans h20
    refine ⟨s', rfl, ⟨⟨N', by omega, e4, e3⟩, hH, ?_, II_fr h.2.2.2 (q3 143 6 (by decide) (by decide) (by decide) (by omega)) (fun j => q3 145 j (by decide) (by decide) (by decide) (by omega))⟩, h20', fun a j hh => (e5 a j (by omega) (by omega)).trans (hf a j (by omega) (by omega) (by omega))⟩
    obtain ⟨x1, x2, x3, x4, x5⟩ := h.2.2.1
    refine ⟨by rw [h20']; omega, by rw [q3 143 27 (by decide) (by decide) (by decide) (by omega)]; exact x2, by rw [q3 143 29 (by decide) (by decide) (by decide) (by omega)]; exact x3, by rw [q3 143 32 (by decide) (by decide) (by decide) (by omega)]; exact x4, fun k hk => ?_⟩
    rw [q3 166 _ (by decide) (by decide) (by decide) (by omega)]
    exact x5 k hk
  | d + 1, k, n + 1, s, hk, hn, hf, h20, hst, h12, h13 => by
    unfold g_m_settings_L105
    rw [if_neg (by omega), if_pos (by omega), w32_id (x := 11 + (k : Int)) (by omega) (by omega)]
    dsimp only
    rw [if_pos (by omega), w32_id (x := (k : Int) + 1) (by omega) (by omega)]
    have hst' := hst
    unfold stO at hst'
    have e := x_set105 (x := x) h d (k + 1) n (zu s 144 (11 + (k : Int)) (s 160 (k : Int))) (by omega) (by omega) (fun a j k1 k2 k3 => (zu_c (by omega)).trans (hf a j k1 k2 k3)) ((zu_a (by decide)).trans h20) (by
      unfold stO
      rw [zu_a (by decide), zu_a (by decide)]
      exact hst) (by
      by_cases c : (12 : Int) = 11 + (k : Int)
      · rw [zu_e c, show (k : Int) = 1 by omega]; exact hst'.1
      · rw [zu_i c]; exact h12) (by
      by_cases c : (13 : Int) = 11 + (k : Int)
      · rw [zu_e c, show (k : Int) = 2 by omega]; exact hst'.2
      · rw [zu_i c]; exact h13)
    rw [show ((k + 1 : Nat) : Int) = (k : Int) + 1 by omega] at e
    exact e
theorem x_set37 {σ0 : zS} (h : MI σ0) : ∀ (d n : Nat) (x b : Int) (s : zS), (b = 0 ∨ b = 1) → s 143 20 - s 143 21 ≤ (d : Int) → d + 2 < n → frS σ0 s → pI s → s 143 21 ≤ 160 → stO s → ∃ c s', g_m_settings_L37 n x b s = some (c, s') ∧ MI s' ∧ s' 143 20 = 0 ∧ frT5 σ0 s' := by
  have stop : ∀ (n : Nat) (x : Int) (s : zS), frS σ0 s → stO s → ∃ c s', g_m_settings_L37 (n + 1) x 0 s = some (c, s') ∧ MI s' ∧ s' 143 20 = 0 ∧ frT5 σ0 s' := by
    intro n x s hf hst
    unfold g_m_settings_L37
    rw [if_pos rfl]
    have q : ∀ a j, a ≠ 160 → (a ≠ 143 ∨ (j ≠ 20 ∧ j ≠ 21 ∧ j ≠ 22 ∧ j ≠ 23)) → zu s 143 20 0 a j = σ0 a j := fun a j k1 k2 => (zu_c (by omega)).trans (hf a j k1 (by omega))
    have hH := h.2.1
    dsimp only
    split
    · obtain ⟨s', e1, e2, e3, e4⟩ := x_set105 (x := x) h 7 0 zK (zu s 143 20 0) rfl (by show 7 < 1000000; omega) (fun a j k1 k2 _ => q a j k1 k2) (zu_e rfl) (by
        unfold stO at *
        rw [zu_a (by decide), zu_a (by decide)]
        exact hst) (by rw [q 144 12 (by decide) (by omega)]; exact hH.1) (by rw [q 144 13 (by decide) (by omega)]; exact hH.2.1)
      exact ⟨x, s', e1, e2, e3, e4⟩
    · refine ⟨_, _, rfl, ⟨NI_fr h.1 (fun j _ => q 144 j (by decide) (by omega)), HI_fr8 h.2.1 (fun j _ _ => q 144 j (by decide) (by omega)), ?_, II_fr h.2.2.2 (q 143 6 (by decide) (by omega)) (fun j => q 145 j (by decide) (by omega))⟩, zu_e rfl, fun a j hh => q a j (by omega) (by omega)⟩
      obtain ⟨x1, x2, x3, x4, x5⟩ := h.2.2.1
      refine ⟨by rw [zu_e rfl]; omega, by rw [q 143 27 (by decide) (by omega)]; exact x2, by rw [q 143 29 (by decide) (by omega)]; exact x3, by rw [q 143 32 (by decide) (by omega)]; exact x4, fun k hk => ?_⟩
      rw [q 166 _ (by decide) (by omega)]
      exact x5 k hk
  intro d
  induction d with
  | zero =>
    intro n x b s hb hd hn hf hp h5 hst
    obtain ⟨n, rfl⟩ : ∃ k, n = k + 2 := ⟨n - 2, by omega⟩
    by_cases c : b = 0
    · subst c; exact stop (n + 1) x s hf hst
    · unfold g_m_settings_L37
      rw [if_neg c]
      obtain ⟨b1, s1, e1, e2, e3, e4, e5⟩ := s_isSetting hp h5
      rw [e1]
      rw [Option.bind_some]
      try dsimp only
      obtain ⟨p1, p2⟩ := pI_160 hp h5 e2
      have f1 := hf.trans e3
      by_cases c1 : b1 = 0
      · rw [if_pos c1]
        unfold g_m_settings_L69
        rw [if_pos c1]
        subst c1
        exact stop n _ s1 f1 (e4 hst)
      · have e6 := e5 (by unfold pO at e2; omega)
        unfold pO at e2
        omega
  | succ d ih =>
    intro n x b s hb hd hn hf hp h5 hst
    obtain ⟨n, rfl⟩ : ∃ k, n = k + 2 := ⟨n - 2, by omega⟩
    by_cases c : b = 0
    · subst c; exact stop (n + 1) x s hf hst
    · unfold g_m_settings_L37
      rw [if_neg c]
      obtain ⟨b1, s1, e1, e2, e3, e4, e5⟩ := s_isSetting hp h5
      rw [e1]
      rw [Option.bind_some]
      try dsimp only
      obtain ⟨p1, p2⟩ := pI_160 hp h5 e2
      have f1 := hf.trans e3
      by_cases c1 : b1 = 0
      · rw [if_pos c1]
        unfold g_m_settings_L69
        rw [if_pos c1]
        subst c1
        exact stop n _ s1 f1 (e4 hst)
      · have hb1 : b1 = 1 := by unfold pO at e2; omega
        have e6 := e5 hb1
        rw [if_neg c1]
        by_cases c2 : s1 143 21 ≠ s1 143 20
        · rw [if_pos c2]
          unfold g_m_settings_L69
          rw [if_neg c1]
          obtain ⟨b2, s2, g1, g2, g3, g4⟩ := s_isSign1 (x := 59) p1 (by decide)
          rw [g1]
          rw [Option.bind_some]
          try dsimp only
          obtain ⟨p3, p4⟩ := pI_160 p1 p2 g2
          refine ih (n + 1) _ b2 s2 ?_ ?_ (by omega) (f1.trans (frS.of g3)) p3 p4 (stO_3 (e4 hst) g3)
          · unfold pO at g2; exact g2.1
          · unfold pO at e2 g2
            omega
        · rw [if_neg c2]
          exact stop n _ s1 f1 (e4 hst)
theorem x_set2 {σ : zS} (h : MI σ) : ∀ (d k n : Nat) (s : zS), k + d = 7 → d < n → (∀ a j, a ≠ 160 → s a j = σ a j) → (∀ j : Nat, j < k → s 160 (j : Int) = σ 144 (11 + (j : Int))) → ∃ c s', g_m_settings_L2 n (k : Int) s = some (c, s') ∧ MI s' ∧ s' 143 20 = 0 ∧ frT5 σ s'
  | _, _, 0, _, _, h, _, _ => absurd h (Nat.not_lt_zero _)
  | 0, k, n + 1, s, hk, _, hf, hs => by
    unfold g_m_settings_L2 g_m_begins
    rw [if_pos (by omega)]
    rw [Option.bind_some]
    try dsimp only
    have hH := h.2.1
    have f1 : frS σ (zu (zu s 143 21 0) 143 22 (-1)) := fun a j k1 k2 => by rw [zu_c (by omega), zu_c (by omega)]; exact hf a j k1
    have h20 := h.2.2.1.1
    have q20 : zu (zu s 143 21 0) 143 22 (-1) 143 20 = σ 143 20 := f1 143 20 (by decide) (by omega)
    have q21 : zu (zu s 143 21 0) 143 22 (-1) 143 21 = 0 := by rw [zu_i (by omega), zu_e rfl]
    refine x_set37 h 160 zK 0 1 _ (Or.inr rfl) (by rw [q20, q21]; omega) (by show _ < 1000000; omega) f1 ⟨by rw [q20]; omega, by rw [q20]; omega, by rw [q21]; omega⟩ (by rw [q21]; omega) ?_
    unfold stO
    rw [zu_a (by decide), zu_a (by decide), zu_a (by decide), zu_a (by decide)]
    have a1 := hs 1 (by omega)
    have a2 := hs 2 (by omega)
    rw [show ((1 : Nat) : Int) = 1 from rfl, show (11 : Int) + 1 = 12 from rfl] at a1
    rw [show ((2 : Nat) : Int) = 2 from rfl, show (11 : Int) + 2 = 13 from rfl] at a2
    rw [a1, a2]
    exact ⟨hH.1, hH.2.1⟩
  | d + 1, k, n + 1, s, hk, hn, hf, hs => by
    unfold g_m_settings_L2
    rw [if_neg (by omega), w32_id (x := 11 + (k : Int)) (by omega) (by omega), if_pos (by omega)]
    dsimp only
    rw [if_pos (by omega), w32_id (x := (k : Int) + 1) (by omega) (by omega)]
    have e := x_set2 h d (k + 1) n (zu s 160 (k : Int) (s 144 (11 + (k : Int)))) (by omega) (by omega) (fun a j k1 => (zu_a k1).trans (hf a j k1)) (fun j hj => by
      by_cases c : (j : Int) = (k : Int)
      · rw [zu_e c, c, hf 144 _ (by decide)]
      · rw [zu_i c]; exact hs j (by omega))
    rw [show ((k + 1 : Nat) : Int) = (k : Int) + 1 by omega] at e
    exact e
theorem x_settings2 {σ : zS} (h : MI σ) : ∃ c s, g_m_settings σ = some (c, s) ∧ MI s ∧ s 143 20 = 0 ∧ frT5 σ s := x_set2 h 7 0 zK σ rfl (by show 7 < 1000000; omega) (fun _ _ _ => rfl) (fun j hj => absurd hj (Nat.not_lt_zero _))
def frT4 (σ s : zS) : Prop := ∀ a j, (a < 143 ∨ 168 ≤ a ∨ (159 ≤ a ∧ a < 164) ∨ (165 ≤ a ∧ a < 168) ∨ a = 145 ∨ a = 148 ∨ (a = 144 ∧ 8 ≤ j ∧ j < 340) ∨ (a = 147 ∧ 1 ≤ j ∧ j < 121) ∨ (a = 143 ∧ (j = 6 ∨ j = 27 ∨ j = 29 ∨ j = 32))) → s a j = σ a j
theorem x_L2 {σ s : zS} (h : MI σ) (f : frL2 σ s) : MI s ∧ frT4 σ s :=
  ⟨MI_144 h (fun a j hh => f a j (by omega) (by omega)), fun a j hh => f a j (by omega) (by omega)⟩
theorem x_z20 {σ0 s : zS} (h : MI s) (f : frT4 σ0 s) : MI (zu s 143 20 0) ∧ zu s 143 20 0 143 20 = 0 ∧ frT4 σ0 (zu s 143 20 0) := by
  obtain ⟨s', e1, e2, e3, e4⟩ := m_clear h
  have q : s' = zu s 143 20 0 := by
    unfold g_m_clear at e1
    injection e1 with e1
    exact (congrArg Prod.snd e1).symm
  subst q
  exact ⟨e2, e3, fun a j hh => (zu_c (by omega)).trans (f a j hh)⟩
theorem x_loadStop {σ0 s : zS} {n k : Nat} (h : MI σ0) (f : frL2 σ0 s) (hk : 0 ≤ s 143 22 ∨ (k ≤ 12 ∧ ∀ t : Nat, t < k → bOk (bxA s 164 (4 * (t : Int))))) : ∃ c s', g_m_load_L8 (n + 1) (k : Int) 0 s = some (c, s') ∧ MI s' ∧ s' 143 20 = 0 ∧ frT4 σ0 s' := by
  obtain ⟨h1, f1⟩ := x_L2 h f
  obtain ⟨h2, h20, f2⟩ := x_z20 h1 f1
  unfold g_m_load_L8
  rw [if_pos rfl]
  try dsimp +instances only
  rw [show zu s 143 20 0 143 22 = s 143 22 from zu_i (by decide)]
  by_cases c : s 143 22 < 0
  · rw [if_pos c]
    obtain ⟨k12, hq⟩ := hk.resolve_left (by omega)
    obtain ⟨N, hN2, hN, hR⟩ := h2.1
    obtain ⟨v, s', g1, g2, g3, g4⟩ := s_load99 k12 k 0 zK (zu s 143 20 0) N 0 (by omega) (by show _ < 1000000; omega) hR hN (by omega) h2.2.1 (fun t ht => by
      rw [zu_bxa (by decide)]; exact hq t ht)
    refine ⟨v, s', g1, MI_q h2 g2 g3 (fun a j hh => g4 a j (by omega) (by omega)), ?_, fun a j hh => (g4 a j (by omega) (by omega)).trans (f2 a j hh)⟩
    rw [g4 143 20 (by omega) (by omega)]; exact h20
  · rw [if_neg c]
    exact ⟨_, _, rfl, h2, h20, f2⟩
theorem x_load8 {σ0 : zS} (h : MI σ0) : ∀ (d k n : Nat) (s : zS), k + d = 12 → 1 ≤ d → d + 1 < n → frL2 σ0 s → pI s → s 143 21 ≤ 160 → (0 ≤ s 143 22 ∨ ∀ t : Nat, t < k → bOk (bxA s 164 (4 * (t : Int)))) → ∃ c s', g_m_load_L8 n (k : Int) 1 s = some (c, s') ∧ MI s' ∧ s' 143 20 = 0 ∧ frT4 σ0 s' := by
  intro d
  induction d with
  | zero => intro k n s _ h1; omega
  | succ d ih =>
    intro k n s hk _ hn f p p5 hq
    obtain ⟨n, rfl⟩ : ∃ m, n = m + 2 := ⟨n - 2, by omega⟩
    unfold g_m_load_L8
    rw [if_neg (by decide), w32_id (x := 4 * (k : Int)) (by omega) (by omega)]
    obtain ⟨b, s1, e1, e2, e3, e4, e5⟩ := s_isSpelled (x := 4 * (k : Int)) p p5 (by omega)
    rw [e1]
    rw [Option.bind_some]
    try dsimp +instances only
    obtain ⟨p1, p15⟩ := pI_160 p p5 e2
    have f1 := f.trans e3
    rw [w32_id (x := (k : Int) + 1) (by omega) (by omega), show (k : Int) + 1 = ((k + 1 : Nat) : Int) by omega]
    have hb := e2
    unfold pO at hb
    have bxs : ∀ {u v : zS}, (∀ j, u 164 j = v 164 j) → ∀ t : Nat, bxA u 164 (4 * (t : Int)) = bxA v 164 (4 * (t : Int)) := fun q t => by
      unfold bxA
      rw [q, q, q, q]
    by_cases c : b = 0
    · rw [if_pos c]
      unfold g_m_load_L43
      rw [if_pos c, c]
      exact x_loadStop h f1 (Or.inl (hb.2.2.2.2.2 c))
    · have hb1 : b = 1 := by omega
      have hq1 : 0 ≤ s1 143 22 ∨ ∀ t : Nat, t < k + 1 → bOk (bxA s1 164 (4 * (t : Int))) := by
        rcases hq with hq | hq
        · exact Or.inl (hb.2.2.2.2.1 hq)
        · refine Or.inr (fun t ht => ?_)
          by_cases ct : t = k
          · subst ct; exact e5 hb1
          · have e : bxA s1 164 (4 * (t : Int)) = bxA s 164 (4 * (t : Int)) := by
              unfold bxA
              rw [e4 _ (by omega), e4 _ (by omega), e4 _ (by omega), e4 _ (by omega)]
            rw [e]; exact hq t (by omega)
      rw [if_neg c]
      by_cases c2 : s1 143 21 ≠ s1 143 20
      · rw [if_pos c2]
        unfold g_m_load_L43
        rw [if_neg c]
        by_cases c3 : 12 ≤ ((k + 1 : Nat) : Int)
        · rw [if_pos c3]
          obtain ⟨s2, g1, g2, g3⟩ := s_failsO p1
          dsimp only
          rw [g1]
          rw [Option.bind_some]
          dsimp only
          unfold g_m_load_L70
          unfold pO at g2
          exact x_loadStop h (f1.trans (frL2.of g3)) (Or.inl (g2.2.2.2.2.2 rfl))
        · rw [if_neg c3]
          obtain ⟨b2, s2, g1, g2, g3⟩ := s_isSign (x := 59) p1 (by decide)
          rw [g1]
          rw [Option.bind_some]
          dsimp only
          unfold g_m_load_L70
          have g4 := g2
          unfold pO at g4
          obtain ⟨p2, p25⟩ := pI_160 p1 p15 g2
          by_cases c4 : b2 = 0
          · rw [c4]
            exact x_loadStop h (f1.trans (frL2.of g3)) (Or.inl (g4.2.2.2.2.2 c4))
          · have hb2 : b2 = 1 := by omega
            rw [hb2]
            refine ih (k + 1) (n + 1) s2 (by omega) (by omega) (by omega) (f1.trans (frL2.of g3)) p2 p25 ?_
            rcases hq1 with hq1 | hq1
            · exact Or.inl (g4.2.2.2.2.1 hq1)
            · exact Or.inr (fun t ht => by rw [bxs (fun j => g3 164 j (by omega)) t]; exact hq1 t ht)
      · rw [if_neg c2]
        refine x_loadStop h f1 ?_
        rcases hq1 with hq1 | hq1
        · exact Or.inl hq1
        · exact Or.inr ⟨by omega, hq1⟩
theorem x_load2 {σ : zS} (h : MI σ) : ∃ c s, g_m_load σ = some (c, s) ∧ MI s ∧ s 143 20 = 0 ∧ frT4 σ s := by
  unfold g_m_load g_m_begins
  rw [Option.bind_some]
  dsimp only
  have f1 : frL2 σ (zu (zu σ 143 21 0) 143 22 (-1)) := fun a j k1 k2 => by rw [zu_c (by omega), zu_c (by omega)]
  have h20 := h.2.2.1.1
  have q20 : zu (zu σ 143 21 0) 143 22 (-1) 143 20 = σ 143 20 := f1 143 20 (by decide) (by omega)
  have q21 : zu (zu σ 143 21 0) 143 22 (-1) 143 21 = 0 := by rw [zu_i (by omega), zu_e rfl]
  exact x_load8 h 12 0 zK _ rfl (by omega) (by show _ < 1000000; omega) f1 ⟨by rw [q20]; omega, by rw [q20]; omega, by rw [q21]; omega⟩ (by rw [q21]; omega) (Or.inr (fun t ht => absurd ht (Nat.not_lt_zero _)))
theorem f_settings5 {σ : zS} (h : MI σ) : zP' (g_m_settings σ) (fun _ s => frT5 σ s) := by
  obtain ⟨v, s, e, -, -, e3⟩ := x_settings2 h
  rw [e]
  exact zP'.ret e3
theorem f_load4 {σ : zS} (h : MI σ) : zP' (g_m_load σ) (fun _ s => frT4 σ s) := by
  obtain ⟨v, s, e, -, -, e3⟩ := x_load2 h
  rw [e]
  exact zP'.ret e3
end
section
/-! 70.find0 -/
/-! THE FIND alike -/
def FNi (s : zS) : Prop := s 93 2 = s 145 8 ∧ ∀ j : Nat, j < 60 → (j : Int) < s 93 2 → s 94 (j : Int) = s 145 (200 + (j : Int)) ∧ s 95 (j : Int) = s 148 (61 + (j : Int))
def FIp (σ : zS) : Prop := FNe σ ∧ (σ 143 6 ≠ 0 → FNi σ)
theorem FNe_keep {σ s : zS} (h : FNe σ) (e : ∀ a j, ((a = 60 ∧ j = 2) ∨ a = 61 ∨ a = 62 ∨ (a = 144 ∧ (j = 8 ∨ (200 ≤ j ∧ j < 260))) ∨ (a = 147 ∧ 61 ≤ j ∧ j < 121)) → s a j = σ a j) : FNe s := by
  refine ⟨by rw [e 60 2 (by omega), e 144 8 (by omega)]; exact h.1, fun j j6 hj => ?_⟩
  rw [e 60 2 (by omega)] at hj
  rw [e 61 _ (by omega), e 62 _ (by omega), e 144 _ (by omega), e 147 _ (by omega)]
  exact h.2 j j6 hj
theorem FNi_keep {σ s : zS} (h : σ 143 6 ≠ 0 → FNi σ) (e : ∀ a j, ((a = 93 ∧ j = 2) ∨ a = 94 ∨ a = 95 ∨ a = 145 ∨ a = 148 ∨ (a = 143 ∧ j = 6)) → s a j = σ a j) : s 143 6 ≠ 0 → FNi s := fun k => by
  rw [e 143 6 (by omega)] at k
  obtain ⟨h1, h2⟩ := h k
  refine ⟨by rw [e 93 2 (by omega), e 145 8 (by omega)]; exact h1, fun j j6 hj => ?_⟩
  rw [e 93 2 (by omega)] at hj
  rw [e 94 _ (by omega), e 95 _ (by omega), e 145 _ (by omega), e 148 _ (by omega)]
  exact h2 j j6 hj
theorem FIp_keep {σ s : zS} (h : FIp σ) (e : ∀ a j, ((a = 60 ∧ j = 2) ∨ (a = 61) ∨ (a = 62) ∨ (a = 93 ∧ j = 2) ∨ (a = 94) ∨ (a = 95) ∨ (a = 144 ∧ (j = 8 ∨ (200 ≤ j ∧ j < 260))) ∨ (a = 147 ∧ 61 ≤ j ∧ j < 121) ∨ a = 145 ∨ a = 148 ∨ (a = 143 ∧ j = 6)) → s a j = σ a j) : FIp s := ⟨FNe_keep h.1 (fun a j k => e a j (by omega)), FNi_keep h.2 (fun a j k => e a j (by omega))⟩
end
section
/-! 71.findF -/
/-! COMPONENT Fi: FIp is kept by every call that does not touch it (printed by wip/zc.py) -/
def KFi (a : Nat) (j : Int) : Prop := (a = 60 ∧ j = 2) ∨ (a = 61) ∨ (a = 62) ∨ (a = 93 ∧ j = 2) ∨ (a = 94) ∨ (a = 95) ∨ (a = 144 ∧ (j = 8 ∨ (200 ≤ j ∧ j < 260))) ∨ (a = 147 ∧ 61 ≤ j ∧ j < 121) ∨ a = 145 ∨ a = 148 ∨ (a = 143 ∧ j = 6)
def cFFi (F : Nat → Int → Bool) : Prop := ∀ j : Int, F 60 (2) = false ∧ F 61 j = false ∧ F 62 j = false ∧ F 93 (2) = false ∧ F 94 j = false ∧ F 95 j = false
theorem hcFi {F : Nat → Int → Bool} {σ : zS} {c : Option (Int × zS)} {P : Int → zS → Prop} (hc : zO c (fun v s => CI s ∧ fr F σ s ∧ P v s)) (f : cFFi F) : zP' c (fun _ s1 => ∀ a j, (KFi a j ∨ (143 ≤ a ∧ a < 168)) → s1 a j = σ a j) := (zP'.of hc).imp (fun v s p a j k => by
  have G := p.2.1
  rcases k with k | k
  · unfold KFi at k
    obtain ⟨h0, h1, h2, h3, h4, h5⟩ := f j
    rcases k with ⟨rfl, rfl⟩ | rfl | rfl | ⟨rfl, rfl⟩ | rfl | rfl | k
    · exact G _ _ (Or.inr h0)
    · exact G _ _ (Or.inr h1)
    · exact G _ _ (Or.inr h2)
    · exact G _ _ (Or.inr h3)
    · exact G _ _ (Or.inr h4)
    · exact G _ _ (Or.inr h5)
    · exact G _ _ (Or.inl (by omega))
  · exact G _ _ (Or.inl k))
theorem hpFi {σ : zS} {c : Option (Int × zS)} {P : Int → Prop} (hc : zOp c σ P) : zP' c (fun _ s1 => ∀ a j, (KFi a j ∨ (143 ≤ a ∧ a < 168)) → s1 a j = σ a j) := fun v s e => by
  obtain ⟨v0, e0, -⟩ := hc
  rw [e0] at e
  cases e
  exact fun _ _ _ => rfl
theorem hmFi {m : zS → Option (Int × zS)} (h : ∀ s, MI s → ∃ w, m s = some (w, s)) : ∀ s, MI s → zP' (m s) (fun _ s2 => ∀ a j, KFi a j → s2 a j = s a j) := fun s hs v t e => by
  obtain ⟨w, e0⟩ := h s hs
  rw [e0] at e
  cases e
  exact fun _ _ _ => rfl
def InvF (σ : zS) : Prop := InvS σ ∧ FIp σ
theorem liftFi {σ : zS} {c : Option (Int × zS)} {m : zS → Option (Int × zS)} {Q : Int → Int → zS → Prop} (I : InvF σ) (o : two c m (fun v w s => InvS s ∧ Q v w s)) (hc : zP' c (fun _ s1 => ∀ a j, (KFi a j ∨ (143 ≤ a ∧ a < 168)) → s1 a j = σ a j)) (hm : ∀ s, MI s → zP' (m s) (fun _ s2 => ∀ a j, KFi a j → s2 a j = s a j)) : two c m (fun v w s => InvF s ∧ Q v w s) := by
  obtain ⟨v, s1, e1, w, s2, e2, J, q⟩ := o
  have h1 := hc v s1 e1
  have M1 : MI s1 := MI_cls ((fun (s : zS) (h : InvS s) => h.1.1) σ I.1).1.2.1 (fun a j k1 k2 => h1 a j (Or.inr ⟨k1, k2⟩))
  have h2 := hm s1 M1 w s2 e2
  exact ⟨v, s1, e1, w, s2, e2, ⟨J, FIp_keep I.2 (fun a j k => (h2 a j k).trans (h1 a j (Or.inl k)))⟩, q⟩
theorem qf_put {a b c d : Int} {σ : zS} (hd : okL d) (I : InvF σ) : two (g_c_put a b c d σ) (g_m_put a b c d) (fun _ _ s => InvF s) := ft2 (liftFi I (tt2 (qs_put hd I.1)) (hcFi (g_c_put_sp ((fun (s : zS) (h : InvS s) => h.1.1) σ I.1).1.1) (fun _ => ⟨rfl, rfl, rfl, rfl, rfl, rfl⟩)) (fun s h => (f_put h).imp (fun _ t g a j k => g a j (by unfold KFi at k; omega) (by unfold KFi at k; omega) (by unfold KFi at k; omega) (by unfold KFi at k; omega) (by unfold KFi at k; omega) (by unfold KFi at k; omega) (by unfold KFi at k; omega) (by unfold KFi at k; omega) (by unfold KFi at k; omega))))
theorem qf_take {a : Int} {σ : zS} (I : InvF σ) : two (g_c_take a σ) (g_m_take a) (fun _ _ s => InvF s) := ft2 (liftFi I (tt2 (qs_take I.1)) (hcFi (g_c_take_sp ((fun (s : zS) (h : InvS s) => h.1.1) σ I.1).1.1) (fun _ => ⟨rfl, rfl, rfl, rfl, rfl, rfl⟩)) (fun s h => (f_take h).imp (fun _ t g a j k => g a j (by unfold KFi at k; omega) (by unfold KFi at k; omega) (by unfold KFi at k; omega) (by unfold KFi at k; omega) (by unfold KFi at k; omega) (by unfold KFi at k; omega) (by unfold KFi at k; omega) (by unfold KFi at k; omega) (by unfold KFi at k; omega))))
theorem qf_row {a b : Int} {σ : zS} (I : InvF σ) : two (g_c_row a b σ) (g_m_row a b) (fun v w s => InvF s ∧ v = w) := liftFi I (qs_row I.1) (hpFi (g_c_row_sp ((fun (s : zS) (h : InvS s) => h.1.1) σ I.1).1.1)) (hmFi (fun _ _ => m_row))
theorem qf_worth {a : Int} {σ : zS} (I : InvF σ) : two (g_c_worth a σ) (g_m_worth a) (fun v w s => InvF s ∧ v = w) := liftFi I (qs_worth I.1) (hpFi (g_c_worth_sp ((fun (s : zS) (h : InvS s) => h.1.1) σ I.1).1.1)) (hmFi (fun _ _ => m_worth))
theorem qf_feed {a : Int} {σ : zS} (I : InvF σ) : two (g_c_feed a σ) (g_m_feed a) (fun v w s => InvF s ∧ v = w) := liftFi I (qs_feed I.1) (hcFi (g_c_feed_sp ((fun (s : zS) (h : InvS s) => h.1.1) σ I.1).1.1) (fun _ => ⟨rfl, rfl, rfl, rfl, rfl, rfl⟩)) (fun s h => (f_feed h).imp (fun _ t g a j k => g a j (by unfold KFi at k; omega) (by unfold KFi at k; omega)))
theorem qf_clear {σ : zS} (I : InvF σ) : two (g_c_clear σ) g_m_clear (fun v w s => InvF s ∧ v = w) := liftFi I (qs_clear I.1) (hcFi (g_c_clear_sp ((fun (s : zS) (h : InvS s) => h.1.1) σ I.1).1.1) (fun _ => ⟨rfl, rfl, rfl, rfl, rfl, rfl⟩)) (fun s h => (f_clear h).imp (fun _ t g a j k => g a j (by unfold KFi at k; omega)))
theorem qf_settings {σ : zS} (I : InvF σ) : two (g_c_settings σ) g_m_settings (fun v w s => InvF s ∧ v = w) := liftFi I (qs_settings I.1) (hcFi (g_c_settings_sp ((fun (s : zS) (h : InvS s) => h.1.1) σ I.1).1.1) (fun _ => ⟨rfl, rfl, rfl, rfl, rfl, rfl⟩)) (fun s h => (f_settings5 h).imp (fun _ t g a j k => g a j (by unfold KFi at k; omega)))
theorem qf_setting {a : Int} {σ : zS} (I : InvF σ) : two (g_c_setting a σ) (g_m_setting a) (fun v w s => InvF s ∧ v = w) := liftFi I (qs_setting I.1) (hpFi (g_c_setting_sp ((fun (s : zS) (h : InvS s) => h.1.1) σ I.1).1.1)) (hmFi (fun _ _ => m_setting))
theorem qf_answer {a : Int} {σ : zS} (I : InvF σ) : two (g_c_answer a σ) (g_m_answer a) (fun _ _ s => InvF s) := ft2 (liftFi I (tt2 (qs_answer I.1)) (hpFi (g_c_answer_sp ((fun (s : zS) (h : InvS s) => h.1.1) σ I.1).1.1)) (hmFi (fun _ h => m_answer h)))
theorem qf_spell {σ : zS} (I : InvF σ) : two (g_c_spell σ) g_m_spell (fun _ _ s => InvF s) := ft2 (liftFi I (tt2 (qs_spell I.1)) (hcFi (g_c_spell_sp ((fun (s : zS) (h : InvS s) => h.1.1) σ I.1).1.1) (fun _ => ⟨rfl, rfl, rfl, rfl, rfl, rfl⟩)) (fun s h => (f_spell h).imp (fun _ t g a j k => g a j (by unfold KFi at k; omega) (by unfold KFi at k; omega))))
theorem qf_load {σ : zS} (I : InvF σ) : two (g_c_load σ) g_m_load (fun _ _ s => InvF s) := ft2 (liftFi I (tt2 (qs_load I.1)) (hcFi (g_c_load_sp ((fun (s : zS) (h : InvS s) => h.1.1) σ I.1).1.1) (fun _ => ⟨rfl, rfl, rfl, rfl, rfl, rfl⟩)) (fun s h => (f_load4 h).imp (fun _ t g a j k => g a j (by unfold KFi at k; omega))))
theorem qf_explain {a b c d : Int} {σ : zS} (I : InvF σ) : two (g_c_explain a b c d σ) (g_m_explain a b c d) (fun _ _ s => InvF s) := ft2 (liftFi I (tt2 (qs_explain I.1)) (hcFi (g_c_explain_sp ((fun (s : zS) (h : InvS s) => h.1.1) σ I.1).1.1) (fun _ => ⟨rfl, rfl, rfl, rfl, rfl, rfl⟩)) (fun s h => (f_explain h).imp (fun _ t g a j k => g a j (by unfold KFi at k; omega) (by unfold KFi at k; omega) (by unfold KFi at k; omega) (by unfold KFi at k; omega) (by unfold KFi at k; omega) (by unfold KFi at k; omega))))
theorem qf_paper {a : Int} {σ : zS} (I : InvF σ) : two (g_c_paper a σ) (g_m_paper a) (fun _ _ s => InvF s) := ft2 (liftFi I (tt2 (qs_paper I.1)) (hpFi (g_c_paper_sp ((fun (s : zS) (h : InvS s) => h.1.1) σ I.1).1.1)) (hmFi (fun _ h => m_paper h)))
theorem qf_probe {a b c d : Int} {σ : zS} (I : InvF σ) : two (g_c_probe a b c d σ) (g_m_probe a b c d) (fun _ _ s => InvF s) := ft2 (liftFi I (tt2 (qs_probe I.1)) (hcFi (g_c_probe_sp ((fun (s : zS) (h : InvS s) => h.1.1) σ I.1).1.1) (fun _ => ⟨rfl, rfl, rfl, rfl, rfl, rfl⟩)) (fun s h => (f_probe h).imp (fun _ t g a j k => g a j (by unfold KFi at k; omega) (by unfold KFi at k; omega) (by unfold KFi at k; omega) (by unfold KFi at k; omega) (by unfold KFi at k; omega))))
theorem qf_piece {a b : Int} {σ : zS} (I : InvF σ) : two (g_c_piece a b σ) (g_m_piece a b) (fun _ _ s => InvF s) := ft2 (liftFi I (tt2 (qs_piece I.1)) (hpFi (g_c_piece_sp ((fun (s : zS) (h : InvS s) => h.1.1) σ I.1).1.1)) (hmFi (fun _ h => m_piece h)))
theorem qf_region {a b : Int} {σ : zS} (I : InvF σ) : two (g_c_region a b σ) (g_m_region_248 a b) (fun _ _ s => InvF s) := ft2 (liftFi I (tt2 (qs_region I.1)) (hpFi (g_c_region_sp ((fun (s : zS) (h : InvS s) => h.1.1) σ I.1).1.1)) (hmFi (fun _ h => m_region h)))
theorem qf_weight {a : Int} {σ : zS} (I : InvF σ) : two (g_c_weight a σ) (g_m_weight a) (fun _ _ s => InvF s) := ft2 (liftFi I (tt2 (qs_weight I.1)) (hpFi (g_c_weight_sp ((fun (s : zS) (h : InvS s) => h.1.1) σ I.1).1.1)) (hmFi (fun _ h => m_weight h)))
theorem qf_told {a : Int} {σ : zS} (I : InvF σ) : two (g_c_told a σ) (g_m_told a) (fun _ _ s => InvF s) := ft2 (liftFi I (tt2 (qs_told I.1)) (hpFi (g_c_told_sp ((fun (s : zS) (h : InvS s) => h.1.1) σ I.1).1.1)) (hmFi (fun _ h => m_told h)))
theorem qf_flush {σ : zS} (I : InvF σ) : two (g_c_flush σ) g_m_flush (fun _ _ s => InvF s) := ft2 (liftFi I (tt2 (qs_flush I.1)) (hcFi (g_c_flush_sp ((fun (s : zS) (h : InvS s) => h.1.1) σ I.1).1.1) (fun _ => ⟨rfl, rfl, rfl, rfl, rfl, rfl⟩)) (fun s h => (f_flush).imp (fun _ t g a j k => g a j (by unfold KFi at k; omega))))
theorem qf_keep {a : Int} {σ : zS} (I : InvF σ) : two (g_c_keep a σ) (g_m_keep a) (fun _ _ s => InvF s) := ft2 (liftFi I (tt2 (qs_keep I.1)) (hpFi (g_c_keep_sp ((fun (s : zS) (h : InvS s) => h.1.1) σ I.1).1.1)) (hmFi (fun _ h => m_keep h)))
theorem qf_trace {a b c d : Int} {σ : zS} (I : InvF σ) : two (g_c_trace a b c d σ) (g_m_trace a b c d) (fun v w s => InvF s ∧ v = w) := liftFi I (qs_trace I.1) (hcFi (g_c_trace_sp ((fun (s : zS) (h : InvS s) => h.1.1) σ I.1).1.1) (fun _ => ⟨rfl, rfl, rfl, rfl, rfl, rfl⟩)) (fun s h => (f_trace h).imp (fun _ t g a j k => g a j (by unfold KFi at k; omega)))
theorem qf_again {a b : Int} {σ : zS} (I : InvF σ) : two (g_c_again a b σ) (g_m_again a b) (fun _ _ s => InvF s) := ft2 (liftFi I (tt2 (qs_again I.1)) (hcFi (g_c_again_sp ((fun (s : zS) (h : InvS s) => h.1.1) σ I.1).1.1) (fun _ => ⟨rfl, rfl, rfl, rfl, rfl, rfl⟩)) (fun s h => (f_again h).imp (fun _ t g a j k => g a j (by unfold KFi at k; omega) (by unfold KFi at k; omega) (by unfold KFi at k; omega) (by unfold KFi at k; omega) (by unfold KFi at k; omega) (by unfold KFi at k; omega) (by unfold KFi at k; omega) (by unfold KFi at k; omega) (by unfold KFi at k; omega))))
theorem qf_least {a : Int} {σ : zS} (I : InvF σ) : two (g_c_least a σ) (g_m_least a) (fun _ _ s => InvF s) := ft2 (liftFi I (tt2 (qs_least I.1)) (hcFi (g_c_least_sp ((fun (s : zS) (h : InvS s) => h.1.1) σ I.1).1.1) (fun _ => ⟨rfl, rfl, rfl, rfl, rfl, rfl⟩)) (fun s h => (f_least h).imp (fun _ t g a j k => g a j (by unfold KFi at k; omega) (by unfold KFi at k; omega) (by unfold KFi at k; omega) (by unfold KFi at k; omega) (by unfold KFi at k; omega) (by unfold KFi at k; omega) (by unfold KFi at k; omega) (by unfold KFi at k; omega) (by unfold KFi at k; omega))))
theorem qf_watch {a b c d e : Int} {σ : zS} (I : InvF σ) : two (g_c_watch a b c d e σ) (g_m_watch a b c d e) (fun v w s => InvF s ∧ v = w) := liftFi I (qs_watch I.1) (hcFi (g_c_watch_sp ((fun (s : zS) (h : InvS s) => h.1.1) σ I.1).1.1) (fun _ => ⟨rfl, rfl, rfl, rfl, rfl, rfl⟩)) (fun s h => (f_watch h).imp (fun _ t g a j k => g a j (by unfold KFi at k; omega)))
theorem qf_value {a : Int} {σ : zS} (I : InvF σ) : two (g_c_value a σ) (g_m_value a) (fun v w s => InvF s ∧ v = w) := liftFi I (qs_value I.1) (hcFi (g_c_value_sp ((fun (s : zS) (h : InvS s) => h.1.1) σ I.1).1.1) (fun _ => ⟨rfl, rfl, rfl, rfl, rfl, rfl⟩)) (fun s h => (f_value h).imp (fun _ t g a j k => g a j (by unfold KFi at k; omega) (by unfold KFi at k; omega) (by unfold KFi at k; omega)))
theorem qf_changes {a : Int} {σ : zS} (I : InvF σ) : two (g_c_changes a σ) (g_m_changes a) (fun v w s => InvF s ∧ v = w) := liftFi I (qs_changes I.1) (hpFi (g_c_changes_sp ((fun (s : zS) (h : InvS s) => h.1.1) σ I.1).1.1)) (hmFi (fun _ h => m_changes h))
theorem qf_list {a b : Int} {σ : zS} (I : InvF σ) : two (g_c_list a b σ) (g_m_list a b) (fun v w s => InvF s ∧ v = w) := liftFi I (qs_list I.1) (hcFi (g_c_list_sp ((fun (s : zS) (h : InvS s) => h.1.1) σ I.1).1.1) (fun _ => ⟨rfl, rfl, rfl, rfl, rfl, rfl⟩)) (fun s h => (f_list h).imp (fun _ t g a j k => g a j (by unfold KFi at k; omega) (by unfold KFi at k; omega)))
theorem qf_set {a b c : Int} {σ : zS} (I : InvF σ) : two (g_c_set a b c σ) (g_m_set a b c) (fun v w s => InvF s ∧ v = w) := liftFi I (qs_set I.1) (hcFi (g_c_set_sp ((fun (s : zS) (h : InvS s) => h.1.1) σ I.1).1.1) (fun _ => ⟨rfl, rfl, rfl, rfl, rfl, rfl⟩)) (fun s h => (f_set h).imp (fun _ t g a j k => g a j (by unfold KFi at k; omega)))
theorem qf_get {a b : Int} {σ : zS} (I : InvF σ) : two (g_c_get a b σ) (g_m_get a b) (fun _ _ s => InvF s) := ft2 (liftFi I (tt2 (qs_get I.1)) (hpFi (g_c_get_sp ((fun (s : zS) (h : InvS s) => h.1.1) σ I.1).1.1)) (hmFi (fun _ h => m_get h)))
theorem qf_move {a b c d e : Int} {σ : zS} (hb : b < 2147483648) (hd : d < 2147483648) (I : InvF σ) : two (g_c_move a b c d e σ) (g_m_move a b c d e) (fun v w s => InvF s ∧ v = w) := liftFi I (qs_move hb hd I.1) (hcFi (g_c_move_sp ((fun (s : zS) (h : InvS s) => h.1.1) σ I.1).1.1) (fun _ => ⟨rfl, rfl, rfl, rfl, rfl, rfl⟩)) (fun s h => (f_move hb hd h).imp (fun _ t g a j k => g a j (by unfold KFi at k; omega)))
theorem qf_lay {a b : Int} {σ : zS} (hb : -2147483648 ≤ b ∧ b < 2147483648) (I : InvF σ) : two (g_c_lay a b σ) (g_m_lay a b) (fun _ _ s => InvF s) := ft2 (liftFi I (tt2 (qs_lay hb I.1)) (hcFi (g_c_lay_sp ((fun (s : zS) (h : InvS s) => h.1.1) σ I.1).1.1) (fun _ => ⟨rfl, rfl, rfl, rfl, rfl, rfl⟩)) (fun s h => (f_lay hb h).imp (fun _ t g a j k => g a j (by unfold KFi at k; omega))))
theorem qf_judge {a b : Int} {σ : zS} (hb : -2147483648 ≤ b ∧ b < 2147483648) (I : InvF σ) : two (g_c_judge a b σ) (g_m_judge a b) (fun _ _ s => InvF s) := ft2 (liftFi I (tt2 (qs_judge hb I.1)) (hpFi (g_c_judge_sp ((fun (s : zS) (h : InvS s) => h.1.1) σ I.1).1.1)) (hmFi (fun _ h => m_judge h hb)))
end
section
/-! 72.find1 -/
/-! THE FIND alike: the calls that touch it -/
theorem liT_true {σ : zS} {c : Nat} {B : Bx} : liT σ c B (fun _ => true) = liC σ c B := by
  unfold liT liC
  simp only [Bool.and_true]
theorem fnC_T {σ s : zS} {B : Bx} (h : fnC σ s B) : fnT σ s B (fun _ => true) := by
  unfold fnT
  rw [liT_true]
  exact h
theorem qf_query {a b c d e : Int} {σ : zS} (I : InvF σ) : two (g_c_query a b c d e σ) (g_m_query a b c d e) (fun v w s => InvF s ∧ v = w) := by
  obtain ⟨v, s1, e1, w, s2, e2, J, q⟩ := qs_query (a := a) (b := b) (c := c) (d := d) (e := e) I.1
  refine ⟨v, s1, e1, w, s2, e2, ⟨J, ?_⟩, q⟩
  have H := I.1.1.1.1.1
  have B : BK σ 41 144 147 := I.1.1.1.2.1
  obtain ⟨-, c1, c2⟩ := p_query (m := a) (x0 := b) (x1 := c) (y0 := d) (y1 := e) H B.1.1 B.ok v s1 e1
  obtain ⟨-, G1, -⟩ := zP'.of (g_c_query_sp H) v s1 e1
  have ref : ∀ a j, 143 ≤ a → a < 168 → s1 a j = σ a j := fun a j k1 k2 => G1 a j (Or.inl ⟨k1, k2⟩)
  have M1 : MI s1 := MI_cls I.1.1.1.1.2.1 ref
  have e144 : s1 144 = σ 144 := funext (fun j => ref 144 j (by decide) (by decide))
  have e147 : s1 147 = σ 147 := funext (fun j => ref 147 j (by decide) (by decide))
  have F2 := f_query M1 w s2 e2
  have cl : ∀ a j, (a < 143 ∨ a = 145 ∨ a = 148 ∨ (a = 143 ∧ j = 6)) → s2 a j = s1 a j := fun a j k => F2 a j (by omega) (by omega) (by omega) (by omega) (by omega) (by omega) (by omega) (by omega) (by omega)
  obtain ⟨s3, e3, t1, t2⟩ := t_query (m := a) (x0 := b) (x1 := c) (y0 := d) (y1 := e) M1.2.1 M1.1 (B.ok7 e147)
  rw [e2] at e3
  cases e3
  by_cases cc : 0 ≤ a ∧ a ≤ 6 ∧ bOk (b, c, d, e)
  · have g2 := t1 cc
    unfold fnR at g2
    rw [e144, e147] at g2
    refine ⟨FN_of B.1 (fnC_T (c1 cc)) g2 (fun a j k => cl a j (by omega)), FNi_keep I.2.2 (fun a j k => ?_)⟩
    rw [cl a j (by omega)]
    rcases k with ⟨rfl, rfl⟩ | rfl | rfl | rfl | rfl | ⟨rfl, rfl⟩
    · exact G1 _ _ (Or.inr rfl)
    · exact G1 _ _ (Or.inr rfl)
    · exact G1 _ _ (Or.inr rfl)
    · exact ref _ _ (by decide) (by decide)
    · exact ref _ _ (by decide) (by decide)
    · exact ref _ _ (by decide) (by decide)
  · rw [t2 cc, c2 cc]
    exact I.2
theorem qf_run {σ : zS} (I : InvF σ) : two (g_c_run σ) g_m_run (fun v w s => InvF s ∧ v = w) := by
  obtain ⟨v, s1, e1, w, s2, e2, J, q⟩ := qd_run I.1
  refine ⟨v, s1, e1, w, s2, e2, ⟨J, ?_⟩, q⟩
  have H := I.1.1.1.1.1
  obtain ⟨-, G1, -⟩ := zP'.of (g_c_run_sp H) v s1 e1
  have ref : ∀ a j, 143 ≤ a → a < 168 → s1 a j = σ a j := fun a j k1 k2 => G1 a j (Or.inl ⟨k1, k2⟩)
  have M1 : MI s1 := MI_cls I.1.1.1.1.2.1 ref
  have F2 := f_run M1 w s2 e2
  refine ⟨?_, FNi_keep I.2.2 (fun a j k => ?_)⟩
  · rcases (run_two I.1 e1 e2).2 with ⟨-, k2, -, k⟩ | ⟨-, k⟩
    · refine FNe_keep I.2.1 (fun a j h => ?_)
      obtain ⟨-, k5, k6, -, k8, k9⟩ := k j
      rcases h with ⟨rfl, rfl⟩ | rfl | rfl | ⟨rfl, -⟩ | ⟨rfl, -⟩
      · exact k2
      · exact k5
      · exact k6
      · exact k8
      · exact k9
    · exact k
  · rw [F2 a j (by omega)]
    rcases k with ⟨rfl, rfl⟩ | rfl | rfl | rfl | rfl | ⟨rfl, rfl⟩
    · exact G1 _ _ (Or.inr rfl)
    · exact G1 _ _ (Or.inr rfl)
    · exact G1 _ _ (Or.inr rfl)
    · exact ref _ _ (by decide) (by decide)
    · exact ref _ _ (by decide) (by decide)
    · exact ref _ _ (by decide) (by decide)
theorem qf_image {σ : zS} (I : InvF σ) : two (g_c_image σ) g_m_image (fun _ _ s => InvF s) := by
  obtain ⟨v, s1, e1, w, s2, e2, J⟩ := qs_image I.1
  refine ⟨v, s1, e1, w, s2, e2, J, ?_⟩
  have H := I.1.1.1.1.1
  have h1 := CI.c1 (a := 63) H (by omega)
  have h9 := I.1.1.1.1.2.1.2.1.2.2.2.1
  have R9 : σ 63 1 = σ 144 9 := I.1.1.1.2.1.2.1
  have key : zP' (g_c_image σ) (fun _ s => (s 93 2 = σ 60 2 ∧ ∀ j : Int, 0 ≤ j → j < 60 → s 94 j = σ 61 j ∧ s 95 j = σ 62 j) ∧ ∀ a j, (a = 60 ∨ a = 61 ∨ a = 62) → s a j = σ a j) := by
    unfold g_c_image
    refine zP'.bind (p_stF_img (σ := σ) ⟨h1.1, by omega⟩) (fun _ t p => ?_)
    obtain ⟨-, -, -, p4, p5⟩ := p
    try dsimp +instances only
    refine zP'.ret ⟨⟨?_, fun j j1 j2 => ?_⟩, fun a j k => ?_⟩
    · rw [zu_a (by decide)]
      exact p4.1
    · rw [zu_a (by decide), zu_a (by decide)]
      exact p4.2 j j1 j2
    · rw [zu_a (by omega)]
      exact p5 a j (by omega)
  obtain ⟨⟨k1, k2⟩, k3⟩ := key v s1 e1
  obtain ⟨-, G1, -⟩ := zP'.of (g_c_image_sp H) v s1 e1
  obtain ⟨m1, m2, m3, -⟩ := f_image w s2 e2
  have ref : ∀ a j, 143 ≤ a → a < 168 → s1 a j = σ a j := fun a j k1 k2 => G1 a j (Or.inl ⟨k1, k2⟩)
  have c2 : ∀ a j, (a < 143 ∨ a = 144 ∨ a = 147) → s2 a j = s1 a j := fun a j k => m1 a j (by omega) (by omega) (by omega)
  refine ⟨FNe_keep I.2.1 (fun a j k => ?_), fun _ => ⟨?_, fun j j6 hj => ?_⟩⟩
  · rw [c2 a j (by omega)]
    rcases k with ⟨rfl, rfl⟩ | rfl | rfl | ⟨rfl, -⟩ | ⟨rfl, -⟩
    · exact k3 _ _ (by omega)
    · exact k3 _ _ (by omega)
    · exact k3 _ _ (by omega)
    · exact ref _ _ (by decide) (by decide)
    · exact ref _ _ (by decide) (by decide)
  · rw [c2 93 2 (by omega), k1, m2 8 (by omega) (by omega), ref 144 8 (by decide) (by decide)]
    exact I.2.1.1
  · rw [c2 93 2 (by omega), k1] at hj
    obtain ⟨k4, k5⟩ := k2 (j : Int) (by omega) (by omega)
    rw [c2 94 _ (by omega), c2 95 _ (by omega), k4, k5, m2 _ (by omega) (by omega), m3 _ (by omega) (by omega), ref 144 _ (by decide) (by decide), ref 147 _ (by decide) (by decide)]
    exact I.2.1.2 j j6 hj
theorem qf_undo {σ : zS} (I : InvF σ) : two (g_c_undo σ) g_m_undo (fun _ _ s => InvF s) := by
  obtain ⟨v, s1, e1, w, s2, e2, J⟩ := qs_undo I.1
  refine ⟨v, s1, e1, w, s2, e2, J, ?_⟩
  have H := I.1.1.1.1.1
  obtain ⟨-, G1, -⟩ := zP'.of (g_c_undo_sp H) v s1 e1
  have ref : ∀ a j, 143 ≤ a → a < 168 → s1 a j = σ a j := fun a j k1 k2 => G1 a j (Or.inl ⟨k1, k2⟩)
  obtain ⟨m1, m2, m3⟩ := f_undo w s2 e2
  have h6 : σ 39 2 ≠ 0 ↔ σ 143 6 ≠ 0 := I.1.1.1.2.2.1
  have e6 : s1 143 6 = σ 143 6 := ref 143 6 (by decide) (by decide)
  by_cases c : σ 143 6 ≠ 0
  · have Ri := I.1.1.1.2.2.2 c
    have II := I.1.1.1.1.2.1.2.2.2 c
    have R9 : σ 96 1 = σ 145 9 := Ri.2.1
    have h9 : 0 ≤ σ 145 9 ∧ σ 145 9 ≤ 10 := II.2.2.2.2.1
    have key : zP' (g_c_undo σ) (fun _ s => (s 60 2 = σ 93 2 ∧ ∀ j : Int, 0 ≤ j → j < 60 → s 61 j = σ 94 j ∧ s 62 j = σ 95 j) ∧ ∀ a j, (a = 93 ∨ a = 94 ∨ a = 95) → s a j = σ a j) := by
      unfold g_c_undo
      try dsimp +instances only
      rw [if_pos (h6.mpr c)]
      refine zP'.bind (p_stF_und (σ := σ) (by omega)) (fun _ t p => ?_)
      obtain ⟨-, -, -, p4, p5⟩ := p
      try dsimp +instances only
      exact zP'.ret ⟨p4, fun a j k => p5 a j (by omega)⟩
    obtain ⟨⟨k1, k2⟩, k3⟩ := key v s1 e1
    obtain ⟨n1, n2⟩ := m2 (by rw [e6]; exact c)
    obtain ⟨i1, i2⟩ := I.2.2 c
    have c2 : ∀ a j, (a ≠ 144 ∧ a ≠ 147) → s2 a j = s1 a j := fun a j k => m1 a j k.1 k.2
    refine ⟨⟨?_, fun j j6 hj => ?_⟩, FNi_keep I.2.2 (fun a j k => ?_)⟩
    · rw [c2 60 2 (by decide), k1, n1 8 (by omega) (by omega), ref 145 8 (by decide) (by decide)]
      exact i1
    · rw [c2 60 2 (by decide), k1] at hj
      obtain ⟨k4, k5⟩ := k2 (j : Int) (by omega) (by omega)
      rw [c2 61 _ (by decide), c2 62 _ (by decide), k4, k5, n1 _ (by omega) (by omega), n2 _ (by omega) (by omega), ref 145 _ (by decide) (by decide), ref 148 _ (by decide) (by decide)]
      exact i2 j j6 hj
    · rw [c2 a j (by omega)]
      rcases k with ⟨rfl, rfl⟩ | rfl | rfl | rfl | rfl | ⟨rfl, rfl⟩
      · exact k3 _ _ (by omega)
      · exact k3 _ _ (by omega)
      · exact k3 _ _ (by omega)
      · exact ref _ _ (by decide) (by decide)
      · exact ref _ _ (by decide) (by decide)
      · exact ref _ _ (by decide) (by decide)
  · have c6 : σ 143 6 = 0 := Classical.byContradiction (fun h => c h)
    have key : zP' (g_c_undo σ) (fun _ s => s = σ) := by
      unfold g_c_undo
      try dsimp +instances only
      rw [if_neg (fun h => c (h6.mp h))]
      exact zP'.ret rfl
    have k := key v s1 e1
    have n := m3 (by rw [e6]; exact c6)
    rw [n, k]
    exact I.2
theorem qf_find {a : Int} {σ : zS} (I : InvF σ) : two (g_c_find a σ) (g_m_find a) (fun v w s => InvF s ∧ v = w) := by
  have h2 := CI.cf (a := 60) I.1.1.1.1.1 (by omega)
  obtain ⟨f1, f2⟩ := I.2.1
  have hc : g_c_find a σ = some (if a ≠ -1 then (if 0 ≤ a ∧ a < σ 60 2 then σ 61 a else -1) else σ 60 2, σ) := by
    unfold g_c_find
    by_cases c : a ≠ -1
    · rw [if_pos c, if_pos c]
      by_cases c1 : a < 0
      · rw [if_pos c1, if_neg (by omega)]
      · rw [if_neg c1]
        try dsimp +instances only
        by_cases c3 : σ 60 2 ≤ a
        · rw [if_pos c3, if_neg (by omega)]
        · rw [if_neg c3, if_pos (show 0 ≤ a ∧ a < 60 by omega), if_pos (show 0 ≤ a ∧ a < σ 60 2 by omega)]
    · rw [if_neg c, if_neg c]
  have hm : g_m_find a σ = some (if a ≠ -1 then (if 0 ≤ a ∧ a < σ 144 8 then σ 144 (200 + a) else -1) else σ 144 8, σ) := by
    unfold g_m_find
    by_cases c : a ≠ -1
    · rw [if_pos c, if_pos c]
      try dsimp +instances only
      rw [w32_id (x := σ 144 8 - 1) (by omega) (by omega)]
      by_cases c1 : 0 ≤ a ∧ a < σ 144 8
      · rw [s_isIn_t c1.1 (by omega)]
        rw [Option.bind_some]
        try dsimp +instances only
        rw [if_neg (show ¬ (1 : Int) = 0 by decide), w32_id (x := 200 + a) (by omega) (by omega), if_pos (by omega), if_pos c1]
      · rw [s_isIn_f (by omega)]
        rw [Option.bind_some]
        try dsimp +instances only
        rw [if_pos rfl, if_neg c1]
    · rw [if_neg c, if_neg c]
  refine ⟨_, σ, hc, _, σ, hm, I, ?_⟩
  by_cases c : a ≠ -1
  · rw [if_pos c, if_pos c, ← f1]
    by_cases c1 : 0 ≤ a ∧ a < σ 60 2
    · rw [if_pos c1, if_pos c1]
      have g := (f2 a.toNat (by omega) (by omega)).1
      rw [show ((a.toNat : Nat) : Int) = a by omega] at g
      exact g
    · rw [if_neg c1, if_neg c1]
  · rw [if_neg c, if_neg c]
    exact f1
theorem InvF_s0 : InvF s0 := by
  refine ⟨InvS_s0, ⟨by decide +kernel, fun j j6 hj => ?_⟩, fun h => ?_⟩
  · have e : s0 60 2 = 0 := by decide +kernel
    rw [e] at hj
    omega
  · have e : s0 143 6 = 0 := by decide +kernel
    exact absurd e h
end
section
/-! 73.ans0 -/
/-! THE ANSWERS alike -/
theorem ANe_keep {σ s : zS} (h : ANe σ) (e : ∀ a j, ((a = 39 ∧ j = 9) ∨ (a = 128) ∨ (a = 143 ∧ j = 27) ∨ a = 162) → s a j = σ a j) : ANe s := by
  refine ⟨by rw [e 39 9 (by omega), e 143 27 (by omega)]; exact h.1, fun j j8 hj => ?_⟩
  rw [e 39 9 (by omega)] at hj
  rw [e 128 _ (by omega), e 162 _ (by omega)]
  exact h.2 j j8 hj
end
section
/-! 74.ansA -/
/-! COMPONENT An: ANe is kept by every call that does not touch it (printed by wip/zc.py) -/
def KAn (a : Nat) (j : Int) : Prop := (a = 39 ∧ j = 9) ∨ (a = 128) ∨ (a = 143 ∧ j = 27) ∨ a = 162
def cFAn (F : Nat → Int → Bool) : Prop := ∀ j : Int, F 39 (9) = false ∧ F 128 j = false
theorem hcAn {F : Nat → Int → Bool} {σ : zS} {c : Option (Int × zS)} {P : Int → zS → Prop} (hc : zO c (fun v s => CI s ∧ fr F σ s ∧ P v s)) (f : cFAn F) : zP' c (fun _ s1 => ∀ a j, (KAn a j ∨ (143 ≤ a ∧ a < 168)) → s1 a j = σ a j) := (zP'.of hc).imp (fun v s p a j k => by
  have G := p.2.1
  rcases k with k | k
  · unfold KAn at k
    obtain ⟨h0, h1⟩ := f j
    rcases k with ⟨rfl, rfl⟩ | rfl | k
    · exact G _ _ (Or.inr h0)
    · exact G _ _ (Or.inr h1)
    · exact G _ _ (Or.inl (by omega))
  · exact G _ _ (Or.inl k))
theorem hpAn {σ : zS} {c : Option (Int × zS)} {P : Int → Prop} (hc : zOp c σ P) : zP' c (fun _ s1 => ∀ a j, (KAn a j ∨ (143 ≤ a ∧ a < 168)) → s1 a j = σ a j) := fun v s e => by
  obtain ⟨v0, e0, -⟩ := hc
  rw [e0] at e
  cases e
  exact fun _ _ _ => rfl
theorem hmAn {m : zS → Option (Int × zS)} (h : ∀ s, MI s → ∃ w, m s = some (w, s)) : ∀ s, MI s → zP' (m s) (fun _ s2 => ∀ a j, KAn a j → s2 a j = s a j) := fun s hs v t e => by
  obtain ⟨w, e0⟩ := h s hs
  rw [e0] at e
  cases e
  exact fun _ _ _ => rfl
def InvA (σ : zS) : Prop := InvF σ ∧ ANe σ
theorem liftAn {σ : zS} {c : Option (Int × zS)} {m : zS → Option (Int × zS)} {Q : Int → Int → zS → Prop} (I : InvA σ) (o : two c m (fun v w s => InvF s ∧ Q v w s)) (hc : zP' c (fun _ s1 => ∀ a j, (KAn a j ∨ (143 ≤ a ∧ a < 168)) → s1 a j = σ a j)) (hm : ∀ s, MI s → zP' (m s) (fun _ s2 => ∀ a j, KAn a j → s2 a j = s a j)) : two c m (fun v w s => InvA s ∧ Q v w s) := by
  obtain ⟨v, s1, e1, w, s2, e2, J, q⟩ := o
  have h1 := hc v s1 e1
  have M1 : MI s1 := MI_cls ((fun (s : zS) (h : InvF s) => h.1.1.1) σ I.1).1.2.1 (fun a j k1 k2 => h1 a j (Or.inr ⟨k1, k2⟩))
  have h2 := hm s1 M1 w s2 e2
  exact ⟨v, s1, e1, w, s2, e2, ⟨J, ANe_keep I.2 (fun a j k => (h2 a j k).trans (h1 a j (Or.inl k)))⟩, q⟩
theorem qa_put {a b c d : Int} {σ : zS} (hd : okL d) (I : InvA σ) : two (g_c_put a b c d σ) (g_m_put a b c d) (fun _ _ s => InvA s) := ft2 (liftAn I (tt2 (qf_put hd I.1)) (hcAn (g_c_put_sp ((fun (s : zS) (h : InvF s) => h.1.1.1) σ I.1).1.1) (fun _ => ⟨rfl, rfl⟩)) (fun s h => (f_put h).imp (fun _ t g a j k => g a j (by unfold KAn at k; omega) (by unfold KAn at k; omega) (by unfold KAn at k; omega) (by unfold KAn at k; omega) (by unfold KAn at k; omega) (by unfold KAn at k; omega) (by unfold KAn at k; omega) (by unfold KAn at k; omega) (by unfold KAn at k; omega))))
theorem qa_take {a : Int} {σ : zS} (I : InvA σ) : two (g_c_take a σ) (g_m_take a) (fun _ _ s => InvA s) := ft2 (liftAn I (tt2 (qf_take I.1)) (hcAn (g_c_take_sp ((fun (s : zS) (h : InvF s) => h.1.1.1) σ I.1).1.1) (fun _ => ⟨rfl, rfl⟩)) (fun s h => (f_take h).imp (fun _ t g a j k => g a j (by unfold KAn at k; omega) (by unfold KAn at k; omega) (by unfold KAn at k; omega) (by unfold KAn at k; omega) (by unfold KAn at k; omega) (by unfold KAn at k; omega) (by unfold KAn at k; omega) (by unfold KAn at k; omega) (by unfold KAn at k; omega))))
theorem qa_row {a b : Int} {σ : zS} (I : InvA σ) : two (g_c_row a b σ) (g_m_row a b) (fun v w s => InvA s ∧ v = w) := liftAn I (qf_row I.1) (hpAn (g_c_row_sp ((fun (s : zS) (h : InvF s) => h.1.1.1) σ I.1).1.1)) (hmAn (fun _ _ => m_row))
theorem qa_worth {a : Int} {σ : zS} (I : InvA σ) : two (g_c_worth a σ) (g_m_worth a) (fun v w s => InvA s ∧ v = w) := liftAn I (qf_worth I.1) (hpAn (g_c_worth_sp ((fun (s : zS) (h : InvF s) => h.1.1.1) σ I.1).1.1)) (hmAn (fun _ _ => m_worth))
theorem qa_feed {a : Int} {σ : zS} (I : InvA σ) : two (g_c_feed a σ) (g_m_feed a) (fun v w s => InvA s ∧ v = w) := liftAn I (qf_feed I.1) (hcAn (g_c_feed_sp ((fun (s : zS) (h : InvF s) => h.1.1.1) σ I.1).1.1) (fun _ => ⟨rfl, rfl⟩)) (fun s h => (f_feed h).imp (fun _ t g a j k => g a j (by unfold KAn at k; omega) (by unfold KAn at k; omega)))
theorem qa_clear {σ : zS} (I : InvA σ) : two (g_c_clear σ) g_m_clear (fun v w s => InvA s ∧ v = w) := liftAn I (qf_clear I.1) (hcAn (g_c_clear_sp ((fun (s : zS) (h : InvF s) => h.1.1.1) σ I.1).1.1) (fun _ => ⟨rfl, rfl⟩)) (fun s h => (f_clear h).imp (fun _ t g a j k => g a j (by unfold KAn at k; omega)))
theorem qa_settings {σ : zS} (I : InvA σ) : two (g_c_settings σ) g_m_settings (fun v w s => InvA s ∧ v = w) := liftAn I (qf_settings I.1) (hcAn (g_c_settings_sp ((fun (s : zS) (h : InvF s) => h.1.1.1) σ I.1).1.1) (fun _ => ⟨rfl, rfl⟩)) (fun s h => (f_settings5 h).imp (fun _ t g a j k => g a j (by unfold KAn at k; omega)))
theorem qa_setting {a : Int} {σ : zS} (I : InvA σ) : two (g_c_setting a σ) (g_m_setting a) (fun v w s => InvA s ∧ v = w) := liftAn I (qf_setting I.1) (hpAn (g_c_setting_sp ((fun (s : zS) (h : InvF s) => h.1.1.1) σ I.1).1.1)) (hmAn (fun _ _ => m_setting))
theorem qa_spell {σ : zS} (I : InvA σ) : two (g_c_spell σ) g_m_spell (fun _ _ s => InvA s) := ft2 (liftAn I (tt2 (qf_spell I.1)) (hcAn (g_c_spell_sp ((fun (s : zS) (h : InvF s) => h.1.1.1) σ I.1).1.1) (fun _ => ⟨rfl, rfl⟩)) (fun s h => (f_spell h).imp (fun _ t g a j k => g a j (by unfold KAn at k; omega) (by unfold KAn at k; omega))))
theorem qa_load {σ : zS} (I : InvA σ) : two (g_c_load σ) g_m_load (fun _ _ s => InvA s) := ft2 (liftAn I (tt2 (qf_load I.1)) (hcAn (g_c_load_sp ((fun (s : zS) (h : InvF s) => h.1.1.1) σ I.1).1.1) (fun _ => ⟨rfl, rfl⟩)) (fun s h => (f_load4 h).imp (fun _ t g a j k => g a j (by unfold KAn at k; omega))))
theorem qa_explain {a b c d : Int} {σ : zS} (I : InvA σ) : two (g_c_explain a b c d σ) (g_m_explain a b c d) (fun _ _ s => InvA s) := ft2 (liftAn I (tt2 (qf_explain I.1)) (hcAn (g_c_explain_sp ((fun (s : zS) (h : InvF s) => h.1.1.1) σ I.1).1.1) (fun _ => ⟨rfl, rfl⟩)) (fun s h => (f_explain h).imp (fun _ t g a j k => g a j (by unfold KAn at k; omega) (by unfold KAn at k; omega) (by unfold KAn at k; omega) (by unfold KAn at k; omega) (by unfold KAn at k; omega) (by unfold KAn at k; omega))))
theorem qa_paper {a : Int} {σ : zS} (I : InvA σ) : two (g_c_paper a σ) (g_m_paper a) (fun _ _ s => InvA s) := ft2 (liftAn I (tt2 (qf_paper I.1)) (hpAn (g_c_paper_sp ((fun (s : zS) (h : InvF s) => h.1.1.1) σ I.1).1.1)) (hmAn (fun _ h => m_paper h)))
theorem qa_query {a b c d e : Int} {σ : zS} (I : InvA σ) : two (g_c_query a b c d e σ) (g_m_query a b c d e) (fun v w s => InvA s ∧ v = w) := liftAn I (qf_query I.1) (hcAn (g_c_query_sp ((fun (s : zS) (h : InvF s) => h.1.1.1) σ I.1).1.1) (fun _ => ⟨rfl, rfl⟩)) (fun s h => (f_query h).imp (fun _ t g a j k => g a j (by unfold KAn at k; omega) (by unfold KAn at k; omega) (by unfold KAn at k; omega) (by unfold KAn at k; omega) (by unfold KAn at k; omega) (by unfold KAn at k; omega) (by unfold KAn at k; omega) (by unfold KAn at k; omega) (by unfold KAn at k; omega)))
theorem qa_find {a : Int} {σ : zS} (I : InvA σ) : two (g_c_find a σ) (g_m_find a) (fun v w s => InvA s ∧ v = w) := liftAn I (qf_find I.1) (hpAn (g_c_find_sp ((fun (s : zS) (h : InvF s) => h.1.1.1) σ I.1).1.1)) (hmAn (fun _ h => m_find h))
theorem qa_probe {a b c d : Int} {σ : zS} (I : InvA σ) : two (g_c_probe a b c d σ) (g_m_probe a b c d) (fun _ _ s => InvA s) := ft2 (liftAn I (tt2 (qf_probe I.1)) (hcAn (g_c_probe_sp ((fun (s : zS) (h : InvF s) => h.1.1.1) σ I.1).1.1) (fun _ => ⟨rfl, rfl⟩)) (fun s h => (f_probe h).imp (fun _ t g a j k => g a j (by unfold KAn at k; omega) (by unfold KAn at k; omega) (by unfold KAn at k; omega) (by unfold KAn at k; omega) (by unfold KAn at k; omega))))
theorem qa_piece {a b : Int} {σ : zS} (I : InvA σ) : two (g_c_piece a b σ) (g_m_piece a b) (fun _ _ s => InvA s) := ft2 (liftAn I (tt2 (qf_piece I.1)) (hpAn (g_c_piece_sp ((fun (s : zS) (h : InvF s) => h.1.1.1) σ I.1).1.1)) (hmAn (fun _ h => m_piece h)))
theorem qa_region {a b : Int} {σ : zS} (I : InvA σ) : two (g_c_region a b σ) (g_m_region_248 a b) (fun _ _ s => InvA s) := ft2 (liftAn I (tt2 (qf_region I.1)) (hpAn (g_c_region_sp ((fun (s : zS) (h : InvF s) => h.1.1.1) σ I.1).1.1)) (hmAn (fun _ h => m_region h)))
theorem qa_weight {a : Int} {σ : zS} (I : InvA σ) : two (g_c_weight a σ) (g_m_weight a) (fun _ _ s => InvA s) := ft2 (liftAn I (tt2 (qf_weight I.1)) (hpAn (g_c_weight_sp ((fun (s : zS) (h : InvF s) => h.1.1.1) σ I.1).1.1)) (hmAn (fun _ h => m_weight h)))
theorem qa_told {a : Int} {σ : zS} (I : InvA σ) : two (g_c_told a σ) (g_m_told a) (fun _ _ s => InvA s) := ft2 (liftAn I (tt2 (qf_told I.1)) (hpAn (g_c_told_sp ((fun (s : zS) (h : InvF s) => h.1.1.1) σ I.1).1.1)) (hmAn (fun _ h => m_told h)))
theorem qa_flush {σ : zS} (I : InvA σ) : two (g_c_flush σ) g_m_flush (fun _ _ s => InvA s) := ft2 (liftAn I (tt2 (qf_flush I.1)) (hcAn (g_c_flush_sp ((fun (s : zS) (h : InvF s) => h.1.1.1) σ I.1).1.1) (fun _ => ⟨rfl, rfl⟩)) (fun s h => (f_flush).imp (fun _ t g a j k => g a j (by unfold KAn at k; omega))))
theorem qa_keep {a : Int} {σ : zS} (I : InvA σ) : two (g_c_keep a σ) (g_m_keep a) (fun _ _ s => InvA s) := ft2 (liftAn I (tt2 (qf_keep I.1)) (hpAn (g_c_keep_sp ((fun (s : zS) (h : InvF s) => h.1.1.1) σ I.1).1.1)) (hmAn (fun _ h => m_keep h)))
theorem qa_trace {a b c d : Int} {σ : zS} (I : InvA σ) : two (g_c_trace a b c d σ) (g_m_trace a b c d) (fun v w s => InvA s ∧ v = w) := liftAn I (qf_trace I.1) (hcAn (g_c_trace_sp ((fun (s : zS) (h : InvF s) => h.1.1.1) σ I.1).1.1) (fun _ => ⟨rfl, rfl⟩)) (fun s h => (f_trace h).imp (fun _ t g a j k => g a j (by unfold KAn at k; omega)))
theorem qa_again {a b : Int} {σ : zS} (I : InvA σ) : two (g_c_again a b σ) (g_m_again a b) (fun _ _ s => InvA s) := ft2 (liftAn I (tt2 (qf_again I.1)) (hcAn (g_c_again_sp ((fun (s : zS) (h : InvF s) => h.1.1.1) σ I.1).1.1) (fun _ => ⟨rfl, rfl⟩)) (fun s h => (f_again h).imp (fun _ t g a j k => g a j (by unfold KAn at k; omega) (by unfold KAn at k; omega) (by unfold KAn at k; omega) (by unfold KAn at k; omega) (by unfold KAn at k; omega) (by unfold KAn at k; omega) (by unfold KAn at k; omega) (by unfold KAn at k; omega) (by unfold KAn at k; omega))))
theorem qa_least {a : Int} {σ : zS} (I : InvA σ) : two (g_c_least a σ) (g_m_least a) (fun _ _ s => InvA s) := ft2 (liftAn I (tt2 (qf_least I.1)) (hcAn (g_c_least_sp ((fun (s : zS) (h : InvF s) => h.1.1.1) σ I.1).1.1) (fun _ => ⟨rfl, rfl⟩)) (fun s h => (f_least h).imp (fun _ t g a j k => g a j (by unfold KAn at k; omega) (by unfold KAn at k; omega) (by unfold KAn at k; omega) (by unfold KAn at k; omega) (by unfold KAn at k; omega) (by unfold KAn at k; omega) (by unfold KAn at k; omega) (by unfold KAn at k; omega) (by unfold KAn at k; omega))))
theorem qa_watch {a b c d e : Int} {σ : zS} (I : InvA σ) : two (g_c_watch a b c d e σ) (g_m_watch a b c d e) (fun v w s => InvA s ∧ v = w) := liftAn I (qf_watch I.1) (hcAn (g_c_watch_sp ((fun (s : zS) (h : InvF s) => h.1.1.1) σ I.1).1.1) (fun _ => ⟨rfl, rfl⟩)) (fun s h => (f_watch h).imp (fun _ t g a j k => g a j (by unfold KAn at k; omega)))
theorem qa_value {a : Int} {σ : zS} (I : InvA σ) : two (g_c_value a σ) (g_m_value a) (fun v w s => InvA s ∧ v = w) := liftAn I (qf_value I.1) (hcAn (g_c_value_sp ((fun (s : zS) (h : InvF s) => h.1.1.1) σ I.1).1.1) (fun _ => ⟨rfl, rfl⟩)) (fun s h => (f_value h).imp (fun _ t g a j k => g a j (by unfold KAn at k; omega) (by unfold KAn at k; omega) (by unfold KAn at k; omega)))
theorem qa_changes {a : Int} {σ : zS} (I : InvA σ) : two (g_c_changes a σ) (g_m_changes a) (fun v w s => InvA s ∧ v = w) := liftAn I (qf_changes I.1) (hpAn (g_c_changes_sp ((fun (s : zS) (h : InvF s) => h.1.1.1) σ I.1).1.1)) (hmAn (fun _ h => m_changes h))
theorem qa_list {a b : Int} {σ : zS} (I : InvA σ) : two (g_c_list a b σ) (g_m_list a b) (fun v w s => InvA s ∧ v = w) := liftAn I (qf_list I.1) (hcAn (g_c_list_sp ((fun (s : zS) (h : InvF s) => h.1.1.1) σ I.1).1.1) (fun _ => ⟨rfl, rfl⟩)) (fun s h => (f_list h).imp (fun _ t g a j k => g a j (by unfold KAn at k; omega) (by unfold KAn at k; omega)))
theorem qa_set {a b c : Int} {σ : zS} (I : InvA σ) : two (g_c_set a b c σ) (g_m_set a b c) (fun v w s => InvA s ∧ v = w) := liftAn I (qf_set I.1) (hcAn (g_c_set_sp ((fun (s : zS) (h : InvF s) => h.1.1.1) σ I.1).1.1) (fun _ => ⟨rfl, rfl⟩)) (fun s h => (f_set h).imp (fun _ t g a j k => g a j (by unfold KAn at k; omega)))
theorem qa_get {a b : Int} {σ : zS} (I : InvA σ) : two (g_c_get a b σ) (g_m_get a b) (fun _ _ s => InvA s) := ft2 (liftAn I (tt2 (qf_get I.1)) (hpAn (g_c_get_sp ((fun (s : zS) (h : InvF s) => h.1.1.1) σ I.1).1.1)) (hmAn (fun _ h => m_get h)))
theorem qa_move {a b c d e : Int} {σ : zS} (hb : b < 2147483648) (hd : d < 2147483648) (I : InvA σ) : two (g_c_move a b c d e σ) (g_m_move a b c d e) (fun v w s => InvA s ∧ v = w) := liftAn I (qf_move hb hd I.1) (hcAn (g_c_move_sp ((fun (s : zS) (h : InvF s) => h.1.1.1) σ I.1).1.1) (fun _ => ⟨rfl, rfl⟩)) (fun s h => (f_move hb hd h).imp (fun _ t g a j k => g a j (by unfold KAn at k; omega)))
theorem qa_lay {a b : Int} {σ : zS} (hb : -2147483648 ≤ b ∧ b < 2147483648) (I : InvA σ) : two (g_c_lay a b σ) (g_m_lay a b) (fun _ _ s => InvA s) := ft2 (liftAn I (tt2 (qf_lay hb I.1)) (hcAn (g_c_lay_sp ((fun (s : zS) (h : InvF s) => h.1.1.1) σ I.1).1.1) (fun _ => ⟨rfl, rfl⟩)) (fun s h => (f_lay hb h).imp (fun _ t g a j k => g a j (by unfold KAn at k; omega))))
theorem qa_judge {a b : Int} {σ : zS} (hb : -2147483648 ≤ b ∧ b < 2147483648) (I : InvA σ) : two (g_c_judge a b σ) (g_m_judge a b) (fun _ _ s => InvA s) := ft2 (liftAn I (tt2 (qf_judge hb I.1)) (hpAn (g_c_judge_sp ((fun (s : zS) (h : InvF s) => h.1.1.1) σ I.1).1.1)) (hmAn (fun _ h => m_judge h hb)))
theorem qa_image {σ : zS} (I : InvA σ) : two (g_c_image σ) g_m_image (fun _ _ s => InvA s) := ft2 (liftAn I (tt2 (qf_image I.1)) (hcAn (g_c_image_sp ((fun (s : zS) (h : InvF s) => h.1.1.1) σ I.1).1.1) (fun _ => ⟨rfl, rfl⟩)) (fun s h => (f_image.imp (fun _ _ g => g.1)).imp (fun _ t g a j k => g a j (by unfold KAn at k; omega) (by unfold KAn at k; omega) (by unfold KAn at k; omega))))
theorem qa_undo {σ : zS} (I : InvA σ) : two (g_c_undo σ) g_m_undo (fun _ _ s => InvA s) := ft2 (liftAn I (tt2 (qf_undo I.1)) (hcAn (g_c_undo_sp ((fun (s : zS) (h : InvF s) => h.1.1.1) σ I.1).1.1) (fun _ => ⟨rfl, rfl⟩)) (fun s h => (f_undo.imp (fun _ _ g => g.1)).imp (fun _ t g a j k => g a j (by unfold KAn at k; omega) (by unfold KAn at k; omega))))
end
section
/-! 75.ans1 -/
/-! THE ANSWERS alike: the calls that touch them -/
theorem qa_run {σ : zS} (I : InvA σ) : two (g_c_run σ) g_m_run (fun v w s => InvA s ∧ v = w) := by
  obtain ⟨v, s1, e1, w, s2, e2, J, q⟩ := qf_run I.1
  refine ⟨v, s1, e1, w, s2, e2, ⟨J, ?_⟩, q⟩
  rcases (run_two I.1.1 e1 e2).2 with ⟨k1, -, k3, k⟩ | ⟨k, -⟩
  · refine ANe_keep I.2 (fun a j h => ?_)
    obtain ⟨k4, -, -, k7, -, -⟩ := k j
    rcases h with ⟨rfl, rfl⟩ | rfl | ⟨rfl, rfl⟩ | rfl
    · exact k1
    · exact k4
    · exact k3
    · exact k7
  · exact k
theorem qa_answer {a : Int} {σ : zS} (I : InvA σ) : two (g_c_answer a σ) (g_m_answer a) (fun v w s => InvA s ∧ v = w) := by
  have h2 := CI.cn I.1.1.1.1.1.1
  obtain ⟨f1, f2⟩ := I.2
  have hc : g_c_answer a σ = some (if 0 ≤ a ∧ a < σ 39 9 then σ 128 a else -9223372036854775808, σ) := by
    unfold g_c_answer
    by_cases c1 : a < 0
    · rw [if_pos c1, if_neg (by omega)]
    · rw [if_neg c1]
      try dsimp +instances only
      by_cases c3 : σ 39 9 ≤ a
      · rw [if_pos c3, if_neg (by omega)]
      · rw [if_neg c3, if_neg (show ¬ 8 ≤ a by omega), if_pos (show 0 ≤ a ∧ a < 8 by omega), if_pos (show 0 ≤ a ∧ a < σ 39 9 by omega)]
  have hm : g_m_answer a σ = some (if 0 ≤ a ∧ a < σ 143 27 then σ 162 a else -9223372036854775808, σ) := by
    unfold g_m_answer
    try dsimp +instances only
    rw [w32_id (x := σ 143 27 - 1) (by omega) (by omega)]
    by_cases c1 : 0 ≤ a ∧ a < σ 143 27
    · rw [s_isIn_t c1.1 (by omega)]
      rw [Option.bind_some]
      try dsimp +instances only
      rw [if_neg (show ¬ (1 : Int) = 0 by decide), if_pos (by omega), if_pos c1]
    · rw [s_isIn_f (by omega)]
      rw [Option.bind_some]
      try dsimp +instances only
      rw [if_pos rfl, if_neg c1]
  refine ⟨_, σ, hc, _, σ, hm, I, ?_⟩
  rw [← f1]
  by_cases c1 : 0 ≤ a ∧ a < σ 39 9
  · rw [if_pos c1, if_pos c1]
    have g := f2 a.toNat (by omega) (by omega)
    rw [show ((a.toNat : Nat) : Int) = a by omega] at g
    exact g
  · rw [if_neg c1, if_neg c1]
theorem InvA_s0 : InvA s0 := by
  refine ⟨InvF_s0, by decide +kernel, fun j j6 hj => ?_⟩
  have e : s0 39 9 = 0 := by decide +kernel
  rw [e] at hj
  omega
/-! the rows laid into a list: its answer -/
theorem w32_over {x : Int} (h1 : 2147483648 ≤ x) (h2 : x < 6442450944) : w32 x = x - 4294967296 := by
  unfold w32 Int.bmod
  simp only [Nat.reducePow]
  split <;> omega
theorem p_hasPlace {l i : Int} {σ : zS} (hl : 0 ≤ l ∧ l < 6) (h : σ 142 l ≤ 60) : g_li_hasPlace l i σ = some (if 0 ≤ i ∧ i < σ 142 l then 1 else 0, σ) := by
  unfold g_li_hasPlace g_li_isList
  try dsimp +instances only
  rw [if_neg (show ¬ l < 0 by omega), if_neg (show ¬ 6 ≤ l by omega)]
  rw [Option.bind_some]
  try dsimp +instances only
  rw [if_neg (show ¬ (1 : Int) = 0 by decide)]
  by_cases c1 : i < 0
  · rw [if_pos c1, if_neg (by omega)]
  · rw [if_neg c1, if_pos hl]
    by_cases c2 : σ 142 l ≤ i
    · rw [if_pos c2, if_neg (by omega)]
    · rw [if_neg c2, if_neg (by omega), if_pos (show 0 ≤ i ∧ i < σ 142 l by omega)]
theorem p_refusal {l : Int} {σ : zS} : g_li_refusal l σ = some (if 0 ≤ l ∧ l < 6 then (if 0 ≤ σ 142 l then 0 else -11) else -1, σ) := by
  unfold g_li_refusal g_li_isList
  by_cases c1 : l < 0
  · rw [if_pos c1, if_neg (show ¬ (0 ≤ l ∧ l < 6) by omega)]
    rfl
  · rw [if_neg c1]
    by_cases c2 : 6 ≤ l
    · rw [if_pos c2, if_neg (show ¬ (0 ≤ l ∧ l < 6) by omega)]
      rfl
    · rw [if_neg c2]
      rw [Option.bind_some]
      try dsimp +instances only
      rw [if_pos (show (1 : Int) ≠ 0 by decide), if_pos (show 0 ≤ l ∧ l < 6 by omega), if_pos (show 0 ≤ l ∧ l < 6 by omega)]
      by_cases c3 : 0 ≤ σ 142 l
      · rw [if_pos c3, if_pos c3]
      · rw [if_neg c3, if_neg c3]
/-- laying of the find, of either side -/
def layV (cnt len i k : Int) : Int := if cnt ≤ k then cnt else if 0 ≤ i ∧ i + cnt ≤ len then cnt else -13
def layC (cnt len i k : Int) (f g : Int → Int) (j : Int) : Int := if 0 ≤ i ∧ i + k ≤ j ∧ j < i + cnt ∧ j < len then f (j - i) else g j
theorem p_lay3 {l i : Int} (hl : 0 ≤ l ∧ l < 6) (hi : i < 2147483648) : ∀ (n k : Nat) (σ : zS), σ 142 l ≤ 60 → σ 60 2 ≤ 60 → k ≤ 60 → zP' (g_li_layFrom_L3 n l i (k : Int) σ) (fun v s => v = layV (σ 60 2) (σ 142 l) i (k : Int) ∧ (∀ a j, a ≠ 136 + l.toNat → s a j = σ a j) ∧ ∀ j, s (136 + l.toNat) j = layC (σ 60 2) (σ 142 l) i (k : Int) (σ 62) (σ (136 + l.toNat)) j)
  | 0, _, _, _, _, _ => zP'.no
  | n + 1, k, σ, h1, h2, hk => by
    unfold g_li_layFrom_L3 layV
    try dsimp +instances only
    by_cases c : σ 60 2 ≤ (k : Int)
    · rw [if_pos c, if_pos c]
      unfold g_li_layFrom_L62
      exact zP'.ret ⟨rfl, fun _ _ _ => rfl, fun j => by
        unfold layC
        rw [if_neg (by omega)]⟩
    · rw [if_neg c, if_neg c, if_neg (show ¬ 60 ≤ (k : Int) by omega)]
      by_cases c2 : i < 0
      · rw [if_pos c2, if_neg (show ¬ (0 ≤ i ∧ i + σ 60 2 ≤ σ 142 l) by omega)]
        exact zP'.ret ⟨rfl, fun _ _ _ => rfl, fun j => by
          unfold layC
          rw [if_neg (by omega)]⟩
      · rw [if_neg c2, p_hasPlace hl h1]
        rw [Option.bind_some]
        try dsimp +instances only
        by_cases c3 : i + (k : Int) < σ 142 l
        · have ew := w32_id (x := i + (k : Int)) (by omega) (by omega)
          have ek := w32_id (x := (k : Int) + 1) (by omega) (by omega)
          rw [ew, ek, if_pos (show 0 ≤ i + (k : Int) ∧ i + (k : Int) < σ 142 l by omega), if_pos (show (1 : Int) ≠ 0 by decide), if_pos hl, if_pos (show 0 ≤ (k : Int) ∧ (k : Int) < 60 by omega), if_pos (show 0 ≤ i + (k : Int) ∧ i + (k : Int) < 60 by omega), show (k : Int) + 1 = ((k + 1 : Nat) : Int) by omega]
          have z : ∀ a j, a ≠ 136 + l.toNat → zu σ (136 + l.toNat) (i + (k : Int)) (σ 62 (k : Int)) a j = σ a j := fun a j h => zu_a h
          have e62 : zu σ (136 + l.toNat) (i + (k : Int)) (σ 62 (k : Int)) 62 = σ 62 := funext (fun j => z 62 j (by omega))
          refine (p_lay3 hl hi n (k + 1) _ (by rw [z 142 l (by omega)]; exact h1) (by rw [z 60 2 (by omega)]; exact h2) (by omega)).imp (fun v s p => ?_)
          obtain ⟨p1, p2, p3⟩ := p
          rw [z 142 l (by omega), z 60 2 (by omega)] at p1 p3
          refine ⟨?_, fun a j h => (p2 a j h).trans (z a j h), fun j => ?_⟩
          · rw [p1]
            unfold layV
            by_cases c4 : σ 60 2 ≤ ((k + 1 : Nat) : Int)
            · rw [if_pos c4, if_pos (show 0 ≤ i ∧ i + σ 60 2 ≤ σ 142 l by omega)]
            · rw [if_neg c4]
          · rw [p3 j, e62]
            unfold layC
            by_cases cj : 0 ≤ i ∧ i + ((k + 1 : Nat) : Int) ≤ j ∧ j < i + σ 60 2 ∧ j < σ 142 l
            · rw [if_pos cj, if_pos (show 0 ≤ i ∧ i + (k : Int) ≤ j ∧ j < i + σ 60 2 ∧ j < σ 142 l by omega)]
            · rw [if_neg cj]
              by_cases ce : j = i + (k : Int)
              · rw [zu_e ce, if_pos (show 0 ≤ i ∧ i + (k : Int) ≤ j ∧ j < i + σ 60 2 ∧ j < σ 142 l by omega), show j - i = (k : Int) by omega]
              · rw [zu_i ce, if_neg (show ¬ (0 ≤ i ∧ i + (k : Int) ≤ j ∧ j < i + σ 60 2 ∧ j < σ 142 l) by omega)]
        · have hw : ¬ (0 ≤ w32 (i + (k : Int)) ∧ w32 (i + (k : Int)) < σ 142 l) := fun hh => by
            have cs : w32 (i + (k : Int)) = i + (k : Int) ∨ w32 (i + (k : Int)) < 0 := by
              by_cases co : i + (k : Int) < 2147483648
              · exact Or.inl (w32_id (by omega) co)
              · refine Or.inr ?_
                have e := w32_over (x := i + (k : Int)) (by omega) (by omega)
                omega
            omega
          rw [if_neg hw, if_neg (show ¬ (0 : Int) ≠ 0 by decide), if_neg (show ¬ (0 ≤ i ∧ i + σ 60 2 ≤ σ 142 l) by omega)]
          exact zP'.ret ⟨rfl, fun _ _ _ => rfl, fun j => by
            unfold layC
            rw [if_neg (by omega)]⟩
theorem t_lay15 {l i : Int} (hl : 0 ≤ l ∧ l < 6) (hi : i < 2147483648) : ∀ (n k : Nat) (σ : zS), -1 ≤ σ 166 l ∧ σ 166 l ≤ 60 → σ 144 8 ≤ 60 → k ≤ 60 → zP' (g_m_lay_L15 n l i (k : Int) σ) (fun v s => v = layV (σ 144 8) (σ 166 l) i (k : Int) ∧ (∀ a j, a ≠ 167 → s a j = σ a j) ∧ ∀ j, 0 ≤ j → j < 360 → s 167 j = if 60 * l ≤ j ∧ j < 60 * l + 60 then layC (σ 144 8) (σ 166 l) i (k : Int) (fun t => σ 147 (61 + t)) (fun t => σ 167 (60 * l + t)) (j - 60 * l) else σ 167 j)
  | 0, _, _, _, _, _ => zP'.no
  | n + 1, k, σ, h1, h2, hk => by
    unfold g_m_lay_L15 layV
    try dsimp +instances only
    have same : ∀ (hno : ∀ j, ¬ (0 ≤ i ∧ i + (k : Int) ≤ j ∧ j < i + σ 144 8 ∧ j < σ 166 l)) (j : Int), σ 167 j = if 60 * l ≤ j ∧ j < 60 * l + 60 then layC (σ 144 8) (σ 166 l) i (k : Int) (fun t => σ 147 (61 + t)) (fun t => σ 167 (60 * l + t)) (j - 60 * l) else σ 167 j := fun hno j => by
      by_cases cj : 60 * l ≤ j ∧ j < 60 * l + 60
      · rw [if_pos cj]
        unfold layC
        rw [if_neg (hno _)]
        try dsimp only
        rw [show 60 * l + (j - 60 * l) = j by omega]
      · rw [if_neg cj]
    by_cases c : σ 144 8 ≤ (k : Int)
    · rw [if_pos c, if_pos c]
      exact zP'.ret ⟨rfl, fun _ _ _ => rfl, fun j _ _ => same (fun j => by omega) j⟩
    · rw [if_neg c, if_neg c]
      by_cases c2 : i < 0
      · rw [if_pos c2, if_neg (show ¬ (0 ≤ i ∧ i + σ 144 8 ≤ σ 166 l) by omega)]
        exact zP'.ret ⟨rfl, fun _ _ _ => rfl, fun j _ _ => same (fun j => by omega) j⟩
      · rw [if_neg c2, if_pos hl, w32_id (x := σ 166 l - i) (by omega) (by omega)]
        by_cases c3 : (k : Int) < σ 166 l - i
        · have ek := w32_id (x := (k : Int) + 1) (by omega) (by omega)
          rw [if_pos c3, w32_id (x := 61 + (k : Int)) (by omega) (by omega), if_pos (show 0 ≤ 61 + (k : Int) ∧ 61 + (k : Int) < 361 by omega), w32_id (x := 60 * l) (by omega) (by omega), w32_id (x := 60 * l + i) (by omega) (by omega), w32_id (x := 60 * l + i + (k : Int)) (by omega) (by omega), if_pos (show 0 ≤ 60 * l + i + (k : Int) ∧ 60 * l + i + (k : Int) < 360 by omega), ek, show (k : Int) + 1 = ((k + 1 : Nat) : Int) by omega]
          have z : ∀ a j, a ≠ 167 → zu σ 167 (60 * l + i + (k : Int)) (σ 147 (61 + (k : Int))) a j = σ a j := fun a j h => zu_a h
          refine (t_lay15 hl hi n (k + 1) _ (by rw [z 166 l (by decide)]; exact h1) (by rw [z 144 8 (by decide)]; exact h2) (by omega)).imp (fun v s p => ?_)
          obtain ⟨p1, p2, p3⟩ := p
          rw [z 166 l (by decide), z 144 8 (by decide)] at p1 p3
          refine ⟨?_, fun a j h => (p2 a j h).trans (z a j h), fun j j0 j1 => ?_⟩
          · rw [p1]
            unfold layV
            by_cases c4 : σ 144 8 ≤ ((k + 1 : Nat) : Int)
            · rw [if_pos c4, if_pos (show 0 ≤ i ∧ i + σ 144 8 ≤ σ 166 l by omega)]
            · rw [if_neg c4]
          · rw [p3 j j0 j1]
            by_cases cl : 60 * l ≤ j ∧ j < 60 * l + 60
            · rw [if_pos cl, if_pos cl]
              unfold layC
              try dsimp only
              by_cases cj : 0 ≤ i ∧ i + ((k + 1 : Nat) : Int) ≤ j - 60 * l ∧ j - 60 * l < i + σ 144 8 ∧ j - 60 * l < σ 166 l
              · rw [if_pos cj, if_pos (show 0 ≤ i ∧ i + (k : Int) ≤ j - 60 * l ∧ j - 60 * l < i + σ 144 8 ∧ j - 60 * l < σ 166 l by omega), z 147 _ (by decide)]
              · rw [if_neg cj]
                by_cases ce : 60 * l + (j - 60 * l) = 60 * l + i + (k : Int)
                · rw [zu_e ce, if_pos (show 0 ≤ i ∧ i + (k : Int) ≤ j - 60 * l ∧ j - 60 * l < i + σ 144 8 ∧ j - 60 * l < σ 166 l by omega), show j - 60 * l - i = (k : Int) by omega]
                · rw [zu_i ce, if_neg (show ¬ (0 ≤ i ∧ i + (k : Int) ≤ j - 60 * l ∧ j - 60 * l < i + σ 144 8 ∧ j - 60 * l < σ 166 l) by omega)]
            · rw [if_neg cl, if_neg cl]
              exact zu_i (by omega)
        · rw [if_neg c3, if_neg (show ¬ (0 ≤ i ∧ i + σ 144 8 ≤ σ 166 l) by omega)]
          exact zP'.ret ⟨rfl, fun _ _ _ => rfl, fun j _ _ => same (fun j => by omega) j⟩
def layOk (L l : Int) : Prop := (0 ≤ l ∧ l < 6) ∧ 0 ≤ L
theorem p_layF {l i : Int} {σ : zS} (hi : i < 2147483648) (H : CI σ) : zP' (g_c_lay l i σ) (fun v s => (layOk (σ 142 l) l → v = layV (σ 60 2) (σ 142 l) i 0 ∧ (∀ a j, a ≠ 136 + l.toNat → s a j = σ a j) ∧ ∀ j, s (136 + l.toNat) j = layC (σ 60 2) (σ 142 l) i 0 (σ 62) (σ (136 + l.toNat)) j) ∧ (¬ layOk (σ 142 l) l → v = (if 0 ≤ l ∧ l < 6 then -11 else -1) ∧ s = σ)) := by
  have hn := CI.cl (j := l) H
  have h6 := CI.cf (a := 60) H (by omega)
  unfold g_c_lay layOk
  rw [p_refusal]
  rw [Option.bind_some]
  try dsimp +instances only
  by_cases c : 0 ≤ l ∧ l < 6
  · rw [if_pos c]
    by_cases c1 : 0 ≤ σ 142 l
    · rw [if_pos c1, if_pos rfl]
      unfold g_li_layFrom
      refine zP'.bind (p_lay3 c hi zK 0 σ hn.2 h6.2 (by decide)) (fun v s p => ?_)
      exact zP'.ret ⟨fun _ => p, fun h => absurd ⟨c, c1⟩ h⟩
    · rw [if_neg c1, if_neg (by decide)]
      exact zP'.ret ⟨fun h => absurd h.2 c1, fun _ => ⟨(if_pos c).symm, rfl⟩⟩
  · rw [if_neg c, if_neg (by decide)]
    exact zP'.ret ⟨fun h => absurd h.1 c, fun _ => ⟨(if_neg c).symm, rfl⟩⟩
theorem t_layF {l i : Int} {σ : zS} (hi : i < 2147483648) (h : MI σ) : zP' (g_m_lay l i σ) (fun v s => (layOk (σ 166 l) l → v = layV (σ 144 8) (σ 166 l) i 0 ∧ (∀ a j, a ≠ 167 → s a j = σ a j) ∧ ∀ j, 0 ≤ j → j < 360 → s 167 j = if 60 * l ≤ j ∧ j < 60 * l + 60 then layC (σ 144 8) (σ 166 l) i 0 (fun t => σ 147 (61 + t)) (fun t => σ 167 (60 * l + t)) (j - 60 * l) else σ 167 j) ∧ (¬ layOk (σ 166 l) l → v = (if 0 ≤ l ∧ l < 6 then -11 else -1) ∧ s = σ)) := by
  have h8 := h.2.1.2.2.1
  unfold g_m_lay layOk
  rw [m_wrong]
  rw [Option.bind_some]
  try dsimp +instances only
  by_cases c : 0 ≤ l ∧ l < 6
  · have hlen := h.2.2.1.len c
    rw [if_pos c]
    by_cases c1 : 0 ≤ σ 166 l
    · rw [if_pos c1, if_pos rfl]
      exact (t_lay15 c hi zK 0 σ hlen h8.2 (by decide)).imp (fun v s p => ⟨fun _ => p, fun h => absurd ⟨c, c1⟩ h⟩)
    · rw [if_neg c1, if_neg (by decide)]
      exact zP'.ret ⟨fun h => absurd h.2 c1, fun _ => ⟨(if_pos c).symm, rfl⟩⟩
  · rw [if_neg c, if_neg (by decide)]
    exact zP'.ret ⟨fun h => absurd h.1 c, fun _ => ⟨(if_neg c).symm, rfl⟩⟩
theorem qe_lay {l i : Int} {σ : zS} (hi : -2147483648 ≤ i ∧ i < 2147483648) (I : InvA σ) : two (g_c_lay l i σ) (g_m_lay l i) (fun v w s => InvA s ∧ v = w) := by
  obtain ⟨v, s1, e1, w, s2, e2, J⟩ := qa_lay (a := l) (b := i) hi I
  refine ⟨v, s1, e1, w, s2, e2, J, ?_⟩
  have I0 : Inv σ := I.1.1.1.1.1
  obtain ⟨p1, p2⟩ := p_layF hi.2 I0.1 v s1 e1
  obtain ⟨-, G1, -⟩ := zP'.of (g_c_lay_sp I0.1) v s1 e1
  have ref : ∀ a j, 143 ≤ a → a < 168 → s1 a j = σ a j := fun a j k1 k2 => G1 a j (Or.inl ⟨k1, k2⟩)
  have M1 : MI s1 := MI_cls I0.2.1 ref
  obtain ⟨t1, t2⟩ := t_layF hi.2 M1 w s2 e2
  rw [ref 166 l (by decide) (by decide), ref 144 8 (by decide) (by decide)] at t1
  rw [ref 166 l (by decide) (by decide)] at t2
  have el : 0 ≤ l ∧ l < 6 → σ 142 l = σ 166 l := fun c => I0.2.2.2 l c.1 c.2
  by_cases c : layOk (σ 142 l) l
  · have c' : layOk (σ 166 l) l := by
      rw [← el c.1]
      exact c
    rw [(p1 c).1, (t1 c').1, el c.1, I.1.2.1.1]
  · have c' : ¬ layOk (σ 166 l) l := fun h => c (by
      unfold layOk at *
      rw [el h.1]
      exact h)
    rw [(p2 c).1, (t2 c').1]
end
section
/-! 90.main -/
/-! THE LAW: its loop keeps what stands between the calls (printed by wip/zw.py) -/
set_option maxHeartbeats 4000000 in
theorem z_loop {xl : Nat} {xs : Nat → Int32} (hxl : xl ≤ 3072) (hx : ∀ X : Int32, -2147483648 ≤ X.toInt ∧ X.toInt < 2147483648) : ∀ (n : Nat) (x3 : Int) (σ : zS), InvA σ → 0 ≤ x3 → x3 ≤ (xl : Int) → (xl : Int) - x3 < (n : Int) → zO (g_jRangeAnswersLaw_law_L18 xl xs n x3 σ) (fun v _ => v = 1)
  | 0, _, _, _, _, _, _ => by exfalso; omega
  | n + 1, x3, σ, I, h1, h2, h3 => by
    unfold g_jRangeAnswersLaw_law_L18
    have w0 := w32_id (x := (xl : Int) - 6) (by omega) (by omega)
    refine zO.ite (fun _ => zO.ret rfl) (fun c0 => ?_)
    try dsimp +instances only
    refine zO.gd (by omega) ?_
    try dsimp +instances only
    have g1 : 0 ≤ w32 (x3 + 1) ∧ w32 (x3 + 1) < (xl : Int) := by rw [w32_id (x := x3 + 1) (by omega) (by omega)]; omega
    have g2 : 0 ≤ w32 (x3 + 2) ∧ w32 (x3 + 2) < (xl : Int) := by rw [w32_id (x := x3 + 2) (by omega) (by omega)]; omega
    have g3 : 0 ≤ w32 (x3 + 3) ∧ w32 (x3 + 3) < (xl : Int) := by rw [w32_id (x := x3 + 3) (by omega) (by omega)]; omega
    have g4 : 0 ≤ w32 (x3 + 4) ∧ w32 (x3 + 4) < (xl : Int) := by rw [w32_id (x := x3 + 4) (by omega) (by omega)]; omega
    have g5 : 0 ≤ w32 (x3 + 5) ∧ w32 (x3 + 5) < (xl : Int) := by rw [w32_id (x := x3 + 5) (by omega) (by omega)]; omega
    have w6 := w32_id (x := x3 + 6) (by omega) (by omega)
    have k1 : 0 ≤ x3 + 6 := by omega
    have k2 : x3 + 6 ≤ (xl : Int) := by omega
    have k3 : (xl : Int) - (x3 + 6) < (n : Int) := by omega
    clear w0 c0 h1 h2 h3
    refine zO.ite (fun c => ?_) (fun c => ?_)
    · clear c
      try dsimp +instances only
      refine zO.gd g1 ?_
      try dsimp +instances only
      refine zO.gd g2 ?_
      try dsimp +instances only
      refine zO.gd g3 ?_
      try dsimp +instances only
      refine zO.gd g4 ?_
      try dsimp +instances only
      refine zO.gd g5 ?_
      try dsimp +instances only
      refine zO.bind (qa_put (lOr_ok _ _) I) (fun v s1 p => ?_)
      try dsimp +instances only
      refine zO.gd g1 ?_
      try dsimp +instances only
      refine zO.gd g2 ?_
      try dsimp +instances only
      refine zO.gd g3 ?_
      try dsimp +instances only
      refine zO.gd g4 ?_
      try dsimp +instances only
      refine zO.gd g5 ?_
      try dsimp +instances only
      refine zO.bind p (fun w s2 q => ?_)
      try dsimp +instances only
      unfold g_jRangeAnswersLaw_law_L1367
      rw [w6]
      exact z_loop hxl hx n (x3 + 6) s2 q k1 k2 k3
    · clear c
      try dsimp +instances only
      refine zO.ite (fun c => ?_) (fun c => ?_)
      · clear c
        try dsimp +instances only
        refine zO.gd g1 ?_
        try dsimp +instances only
        refine zO.bind (qa_take I) (fun v s1 p => ?_)
        try dsimp +instances only
        refine zO.gd g1 ?_
        try dsimp +instances only
        refine zO.bind p (fun w s2 q => ?_)
        try dsimp +instances only
        unfold g_jRangeAnswersLaw_law_L1367
        rw [w6]
        exact z_loop hxl hx n (x3 + 6) s2 q k1 k2 k3
      · clear c
        try dsimp +instances only
        refine zO.ite (fun c => ?_) (fun c => ?_)
        · clear c
          try dsimp +instances only
          refine zO.gd g1 ?_
          try dsimp +instances only
          refine zO.gd g2 ?_
          try dsimp +instances only
          refine zO.bind (qa_row I) (fun v s1 p => ?_)
          try dsimp +instances only
          refine zO.gd g1 ?_
          try dsimp +instances only
          refine zO.gd g2 ?_
          try dsimp +instances only
          refine zO.bind p (fun w s2 q => ?_)
          try dsimp +instances only
          unfold g_jRangeAnswersLaw_law_L1367
          rw [w6]
          exact z_loop hxl hx n (x3 + 6) s2 q.1 k1 k2 k3
        · clear c
          try dsimp +instances only
          refine zO.ite (fun c => ?_) (fun c => ?_)
          · clear c
            try dsimp +instances only
            refine zO.gd g1 ?_
            try dsimp +instances only
            refine zO.bind (qa_worth I) (fun v s1 p => ?_)
            try dsimp +instances only
            refine zO.gd g1 ?_
            try dsimp +instances only
            refine zO.bind p (fun w s2 q => ?_)
            try dsimp +instances only
            unfold g_jRangeAnswersLaw_law_L1367
            rw [w6]
            exact z_loop hxl hx n (x3 + 6) s2 q.1 k1 k2 k3
          · clear c
            try dsimp +instances only
            refine zO.ite (fun c => ?_) (fun c => ?_)
            · clear c
              try dsimp +instances only
              refine zO.gd g1 ?_
              try dsimp +instances only
              refine zO.bind (qa_feed I) (fun v s1 p => ?_)
              try dsimp +instances only
              refine zO.gd g1 ?_
              try dsimp +instances only
              refine zO.bind p (fun w s2 q => ?_)
              try dsimp +instances only
              unfold g_jRangeAnswersLaw_law_L1367
              rw [w6]
              exact z_loop hxl hx n (x3 + 6) s2 q.1 k1 k2 k3
            · clear c
              try dsimp +instances only
              refine zO.ite (fun c => ?_) (fun c => ?_)
              · clear c
                try dsimp +instances only
                refine zO.bind (qa_clear I) (fun v s1 p => ?_)
                try dsimp +instances only
                refine zO.bind p (fun w s2 q => ?_)
                try dsimp +instances only
                unfold g_jRangeAnswersLaw_law_L1367
                rw [w6]
                exact z_loop hxl hx n (x3 + 6) s2 q.1 k1 k2 k3
              · clear c
                try dsimp +instances only
                refine zO.ite (fun c => ?_) (fun c => ?_)
                · clear c
                  try dsimp +instances only
                  refine zO.bind (qa_settings I) (fun v s1 p => ?_)
                  try dsimp +instances only
                  refine zO.bind p (fun w s2 q => ?_)
                  try dsimp +instances only
                  unfold g_jRangeAnswersLaw_law_L1367
                  rw [w6]
                  exact z_loop hxl hx n (x3 + 6) s2 q.1 k1 k2 k3
                · clear c
                  try dsimp +instances only
                  refine zO.ite (fun c => ?_) (fun c => ?_)
                  · clear c
                    try dsimp +instances only
                    refine zO.gd g1 ?_
                    try dsimp +instances only
                    refine zO.bind (qa_setting I) (fun v s1 p => ?_)
                    try dsimp +instances only
                    refine zO.gd g1 ?_
                    try dsimp +instances only
                    refine zO.bind p (fun w s2 q => ?_)
                    try dsimp +instances only
                    unfold g_jRangeAnswersLaw_law_L1367
                    rw [w6]
                    exact z_loop hxl hx n (x3 + 6) s2 q.1 k1 k2 k3
                  · clear c
                    try dsimp +instances only
                    refine zO.ite (fun c => ?_) (fun c => ?_)
                    · clear c
                      try dsimp +instances only
                      refine zO.bind (qa_run I) (fun v s1 p => ?_)
                      try dsimp +instances only
                      refine zO.bind p (fun w s2 q => ?_)
                      try dsimp +instances only
                      unfold g_jRangeAnswersLaw_law_L1367
                      rw [w6]
                      exact z_loop hxl hx n (x3 + 6) s2 q.1 k1 k2 k3
                    · clear c
                      try dsimp +instances only
                      refine zO.ite (fun c => ?_) (fun c => ?_)
                      · clear c
                        try dsimp +instances only
                        refine zO.gd g1 ?_
                        try dsimp +instances only
                        refine zO.bind (qa_answer I) (fun v s1 p => ?_)
                        try dsimp +instances only
                        refine zO.gd g1 ?_
                        try dsimp +instances only
                        refine zO.bind p (fun w s2 q => ?_)
                        try dsimp +instances only
                        unfold g_jRangeAnswersLaw_law_L1367
                        rw [w6]
                        exact z_loop hxl hx n (x3 + 6) s2 q.1 k1 k2 k3
                      · clear c
                        try dsimp +instances only
                        refine zO.ite (fun c => ?_) (fun c => ?_)
                        · clear c
                          try dsimp +instances only
                          refine zO.bind (qa_spell I) (fun v s1 p => ?_)
                          try dsimp +instances only
                          refine zO.bind p (fun w s2 q => ?_)
                          try dsimp +instances only
                          unfold g_jRangeAnswersLaw_law_L1367
                          rw [w6]
                          exact z_loop hxl hx n (x3 + 6) s2 q k1 k2 k3
                        · clear c
                          try dsimp +instances only
                          refine zO.ite (fun c => ?_) (fun c => ?_)
                          · clear c
                            try dsimp +instances only
                            refine zO.bind (qa_load I) (fun v s1 p => ?_)
                            try dsimp +instances only
                            refine zO.bind p (fun w s2 q => ?_)
                            try dsimp +instances only
                            unfold g_jRangeAnswersLaw_law_L1367
                            rw [w6]
                            exact z_loop hxl hx n (x3 + 6) s2 q k1 k2 k3
                          · clear c
                            try dsimp +instances only
                            refine zO.ite (fun c => ?_) (fun c => ?_)
                            · clear c
                              try dsimp +instances only
                              refine zO.gd g1 ?_
                              try dsimp +instances only
                              refine zO.gd g2 ?_
                              try dsimp +instances only
                              refine zO.gd g3 ?_
                              try dsimp +instances only
                              refine zO.gd g4 ?_
                              try dsimp +instances only
                              refine zO.bind (qa_explain I) (fun v s1 p => ?_)
                              try dsimp +instances only
                              refine zO.gd g1 ?_
                              try dsimp +instances only
                              refine zO.gd g2 ?_
                              try dsimp +instances only
                              refine zO.gd g3 ?_
                              try dsimp +instances only
                              refine zO.gd g4 ?_
                              try dsimp +instances only
                              refine zO.bind p (fun w s2 q => ?_)
                              try dsimp +instances only
                              unfold g_jRangeAnswersLaw_law_L1367
                              rw [w6]
                              exact z_loop hxl hx n (x3 + 6) s2 q k1 k2 k3
                            · clear c
                              try dsimp +instances only
                              refine zO.ite (fun c => ?_) (fun c => ?_)
                              · clear c
                                try dsimp +instances only
                                refine zO.gd g1 ?_
                                try dsimp +instances only
                                refine zO.bind (qa_paper I) (fun v s1 p => ?_)
                                try dsimp +instances only
                                refine zO.gd g1 ?_
                                try dsimp +instances only
                                refine zO.bind p (fun w s2 q => ?_)
                                try dsimp +instances only
                                unfold g_jRangeAnswersLaw_law_L1367
                                rw [w6]
                                exact z_loop hxl hx n (x3 + 6) s2 q k1 k2 k3
                              · clear c
                                try dsimp +instances only
                                refine zO.ite (fun c => ?_) (fun c => ?_)
                                · clear c
                                  try dsimp +instances only
                                  refine zO.gd g1 ?_
                                  try dsimp +instances only
                                  refine zO.gd g2 ?_
                                  try dsimp +instances only
                                  refine zO.gd g3 ?_
                                  try dsimp +instances only
                                  refine zO.gd g4 ?_
                                  try dsimp +instances only
                                  refine zO.gd g5 ?_
                                  try dsimp +instances only
                                  refine zO.bind (qa_query I) (fun v s1 p => ?_)
                                  try dsimp +instances only
                                  refine zO.gd g1 ?_
                                  try dsimp +instances only
                                  refine zO.gd g2 ?_
                                  try dsimp +instances only
                                  refine zO.gd g3 ?_
                                  try dsimp +instances only
                                  refine zO.gd g4 ?_
                                  try dsimp +instances only
                                  refine zO.gd g5 ?_
                                  try dsimp +instances only
                                  refine zO.bind p (fun w s2 q => ?_)
                                  try dsimp +instances only
                                  unfold g_jRangeAnswersLaw_law_L1367
                                  rw [w6]
                                  exact z_loop hxl hx n (x3 + 6) s2 q.1 k1 k2 k3
                                · clear c
                                  try dsimp +instances only
                                  refine zO.ite (fun c => ?_) (fun c => ?_)
                                  · clear c
                                    try dsimp +instances only
                                    refine zO.gd g1 ?_
                                    try dsimp +instances only
                                    refine zO.bind (qa_find I) (fun v s1 p => ?_)
                                    try dsimp +instances only
                                    refine zO.gd g1 ?_
                                    try dsimp +instances only
                                    refine zO.bind p (fun w s2 q => ?_)
                                    try dsimp +instances only
                                    unfold g_jRangeAnswersLaw_law_L1367
                                    rw [w6]
                                    exact z_loop hxl hx n (x3 + 6) s2 q.1 k1 k2 k3
                                  · clear c
                                    try dsimp +instances only
                                    refine zO.ite (fun c => ?_) (fun c => ?_)
                                    · clear c
                                      try dsimp +instances only
                                      refine zO.gd g1 ?_
                                      try dsimp +instances only
                                      refine zO.gd g2 ?_
                                      try dsimp +instances only
                                      refine zO.gd g3 ?_
                                      try dsimp +instances only
                                      refine zO.gd g4 ?_
                                      try dsimp +instances only
                                      refine zO.bind (qa_probe I) (fun v s1 p => ?_)
                                      try dsimp +instances only
                                      refine zO.gd g1 ?_
                                      try dsimp +instances only
                                      refine zO.gd g2 ?_
                                      try dsimp +instances only
                                      refine zO.gd g3 ?_
                                      try dsimp +instances only
                                      refine zO.gd g4 ?_
                                      try dsimp +instances only
                                      refine zO.bind p (fun w s2 q => ?_)
                                      try dsimp +instances only
                                      unfold g_jRangeAnswersLaw_law_L1367
                                      rw [w6]
                                      exact z_loop hxl hx n (x3 + 6) s2 q k1 k2 k3
                                    · clear c
                                      try dsimp +instances only
                                      refine zO.ite (fun c => ?_) (fun c => ?_)
                                      · clear c
                                        try dsimp +instances only
                                        refine zO.gd g1 ?_
                                        try dsimp +instances only
                                        refine zO.gd g2 ?_
                                        try dsimp +instances only
                                        refine zO.bind (qa_piece I) (fun v s1 p => ?_)
                                        try dsimp +instances only
                                        refine zO.gd g1 ?_
                                        try dsimp +instances only
                                        refine zO.gd g2 ?_
                                        try dsimp +instances only
                                        refine zO.bind p (fun w s2 q => ?_)
                                        try dsimp +instances only
                                        unfold g_jRangeAnswersLaw_law_L1367
                                        rw [w6]
                                        exact z_loop hxl hx n (x3 + 6) s2 q k1 k2 k3
                                      · clear c
                                        try dsimp +instances only
                                        refine zO.ite (fun c => ?_) (fun c => ?_)
                                        · clear c
                                          try dsimp +instances only
                                          refine zO.gd g1 ?_
                                          try dsimp +instances only
                                          refine zO.gd g2 ?_
                                          try dsimp +instances only
                                          refine zO.bind (qa_region I) (fun v s1 p => ?_)
                                          try dsimp +instances only
                                          refine zO.gd g1 ?_
                                          try dsimp +instances only
                                          refine zO.gd g2 ?_
                                          try dsimp +instances only
                                          refine zO.bind p (fun w s2 q => ?_)
                                          try dsimp +instances only
                                          unfold g_jRangeAnswersLaw_law_L1367
                                          rw [w6]
                                          exact z_loop hxl hx n (x3 + 6) s2 q k1 k2 k3
                                        · clear c
                                          try dsimp +instances only
                                          refine zO.ite (fun c => ?_) (fun c => ?_)
                                          · clear c
                                            try dsimp +instances only
                                            refine zO.gd g1 ?_
                                            try dsimp +instances only
                                            refine zO.bind (qa_weight I) (fun v s1 p => ?_)
                                            try dsimp +instances only
                                            refine zO.gd g1 ?_
                                            try dsimp +instances only
                                            refine zO.bind p (fun w s2 q => ?_)
                                            try dsimp +instances only
                                            unfold g_jRangeAnswersLaw_law_L1367
                                            rw [w6]
                                            exact z_loop hxl hx n (x3 + 6) s2 q k1 k2 k3
                                          · clear c
                                            try dsimp +instances only
                                            refine zO.ite (fun c => ?_) (fun c => ?_)
                                            · clear c
                                              try dsimp +instances only
                                              refine zO.gd g1 ?_
                                              try dsimp +instances only
                                              refine zO.bind (qa_told I) (fun v s1 p => ?_)
                                              try dsimp +instances only
                                              refine zO.gd g1 ?_
                                              try dsimp +instances only
                                              refine zO.bind p (fun w s2 q => ?_)
                                              try dsimp +instances only
                                              unfold g_jRangeAnswersLaw_law_L1367
                                              rw [w6]
                                              exact z_loop hxl hx n (x3 + 6) s2 q k1 k2 k3
                                            · clear c
                                              try dsimp +instances only
                                              refine zO.ite (fun c => ?_) (fun c => ?_)
                                              · clear c
                                                try dsimp +instances only
                                                refine zO.bind (qa_flush I) (fun v s1 p => ?_)
                                                try dsimp +instances only
                                                refine zO.bind p (fun w s2 q => ?_)
                                                try dsimp +instances only
                                                unfold g_jRangeAnswersLaw_law_L1367
                                                rw [w6]
                                                exact z_loop hxl hx n (x3 + 6) s2 q k1 k2 k3
                                              · clear c
                                                try dsimp +instances only
                                                refine zO.ite (fun c => ?_) (fun c => ?_)
                                                · clear c
                                                  try dsimp +instances only
                                                  refine zO.gd g1 ?_
                                                  try dsimp +instances only
                                                  refine zO.bind (qa_keep I) (fun v s1 p => ?_)
                                                  try dsimp +instances only
                                                  refine zO.gd g1 ?_
                                                  try dsimp +instances only
                                                  refine zO.bind p (fun w s2 q => ?_)
                                                  try dsimp +instances only
                                                  unfold g_jRangeAnswersLaw_law_L1367
                                                  rw [w6]
                                                  exact z_loop hxl hx n (x3 + 6) s2 q k1 k2 k3
                                                · clear c
                                                  try dsimp +instances only
                                                  refine zO.ite (fun c => ?_) (fun c => ?_)
                                                  · clear c
                                                    try dsimp +instances only
                                                    refine zO.gd g1 ?_
                                                    try dsimp +instances only
                                                    refine zO.gd g2 ?_
                                                    try dsimp +instances only
                                                    refine zO.gd g3 ?_
                                                    try dsimp +instances only
                                                    refine zO.gd g4 ?_
                                                    try dsimp +instances only
                                                    refine zO.bind (qa_trace I) (fun v s1 p => ?_)
                                                    try dsimp +instances only
                                                    refine zO.gd g1 ?_
                                                    try dsimp +instances only
                                                    refine zO.gd g2 ?_
                                                    try dsimp +instances only
                                                    refine zO.gd g3 ?_
                                                    try dsimp +instances only
                                                    refine zO.gd g4 ?_
                                                    try dsimp +instances only
                                                    refine zO.bind p (fun w s2 q => ?_)
                                                    try dsimp +instances only
                                                    unfold g_jRangeAnswersLaw_law_L1367
                                                    rw [w6]
                                                    exact z_loop hxl hx n (x3 + 6) s2 q.1 k1 k2 k3
                                                  · clear c
                                                    try dsimp +instances only
                                                    refine zO.ite (fun c => ?_) (fun c => ?_)
                                                    · clear c
                                                      try dsimp +instances only
                                                      refine zO.gd g1 ?_
                                                      try dsimp +instances only
                                                      refine zO.gd g2 ?_
                                                      try dsimp +instances only
                                                      refine zO.bind (qa_again I) (fun v s1 p => ?_)
                                                      try dsimp +instances only
                                                      refine zO.gd g1 ?_
                                                      try dsimp +instances only
                                                      refine zO.gd g2 ?_
                                                      try dsimp +instances only
                                                      refine zO.bind p (fun w s2 q => ?_)
                                                      try dsimp +instances only
                                                      unfold g_jRangeAnswersLaw_law_L1367
                                                      rw [w6]
                                                      exact z_loop hxl hx n (x3 + 6) s2 q k1 k2 k3
                                                    · clear c
                                                      try dsimp +instances only
                                                      refine zO.ite (fun c => ?_) (fun c => ?_)
                                                      · clear c
                                                        try dsimp +instances only
                                                        refine zO.gd g1 ?_
                                                        try dsimp +instances only
                                                        refine zO.bind (qa_least I) (fun v s1 p => ?_)
                                                        try dsimp +instances only
                                                        refine zO.gd g1 ?_
                                                        try dsimp +instances only
                                                        refine zO.bind p (fun w s2 q => ?_)
                                                        try dsimp +instances only
                                                        unfold g_jRangeAnswersLaw_law_L1367
                                                        rw [w6]
                                                        exact z_loop hxl hx n (x3 + 6) s2 q k1 k2 k3
                                                      · clear c
                                                        try dsimp +instances only
                                                        refine zO.ite (fun c => ?_) (fun c => ?_)
                                                        · clear c
                                                          try dsimp +instances only
                                                          refine zO.gd g1 ?_
                                                          try dsimp +instances only
                                                          refine zO.gd g2 ?_
                                                          try dsimp +instances only
                                                          refine zO.gd g3 ?_
                                                          try dsimp +instances only
                                                          refine zO.gd g4 ?_
                                                          try dsimp +instances only
                                                          refine zO.gd g5 ?_
                                                          try dsimp +instances only
                                                          refine zO.bind (qa_watch I) (fun v s1 p => ?_)
                                                          try dsimp +instances only
                                                          refine zO.gd g1 ?_
                                                          try dsimp +instances only
                                                          refine zO.gd g2 ?_
                                                          try dsimp +instances only
                                                          refine zO.gd g3 ?_
                                                          try dsimp +instances only
                                                          refine zO.gd g4 ?_
                                                          try dsimp +instances only
                                                          refine zO.gd g5 ?_
                                                          try dsimp +instances only
                                                          refine zO.bind p (fun w s2 q => ?_)
                                                          try dsimp +instances only
                                                          unfold g_jRangeAnswersLaw_law_L1367
                                                          rw [w6]
                                                          exact z_loop hxl hx n (x3 + 6) s2 q.1 k1 k2 k3
                                                        · clear c
                                                          try dsimp +instances only
                                                          refine zO.ite (fun c => ?_) (fun c => ?_)
                                                          · clear c
                                                            try dsimp +instances only
                                                            refine zO.gd g1 ?_
                                                            try dsimp +instances only
                                                            refine zO.bind (qa_value I) (fun v s1 p => ?_)
                                                            try dsimp +instances only
                                                            refine zO.gd g1 ?_
                                                            try dsimp +instances only
                                                            refine zO.bind p (fun w s2 q => ?_)
                                                            try dsimp +instances only
                                                            unfold g_jRangeAnswersLaw_law_L1367
                                                            rw [w6]
                                                            exact z_loop hxl hx n (x3 + 6) s2 q.1 k1 k2 k3
                                                          · clear c
                                                            try dsimp +instances only
                                                            refine zO.ite (fun c => ?_) (fun c => ?_)
                                                            · clear c
                                                              try dsimp +instances only
                                                              refine zO.gd g1 ?_
                                                              try dsimp +instances only
                                                              refine zO.bind (qa_changes I) (fun v s1 p => ?_)
                                                              try dsimp +instances only
                                                              refine zO.gd g1 ?_
                                                              try dsimp +instances only
                                                              refine zO.bind p (fun w s2 q => ?_)
                                                              try dsimp +instances only
                                                              unfold g_jRangeAnswersLaw_law_L1367
                                                              rw [w6]
                                                              exact z_loop hxl hx n (x3 + 6) s2 q.1 k1 k2 k3
                                                            · clear c
                                                              try dsimp +instances only
                                                              refine zO.ite (fun c => ?_) (fun c => ?_)
                                                              · clear c
                                                                try dsimp +instances only
                                                                refine zO.gd g1 ?_
                                                                try dsimp +instances only
                                                                refine zO.gd g2 ?_
                                                                try dsimp +instances only
                                                                refine zO.bind (qa_list I) (fun v s1 p => ?_)
                                                                try dsimp +instances only
                                                                refine zO.gd g1 ?_
                                                                try dsimp +instances only
                                                                refine zO.gd g2 ?_
                                                                try dsimp +instances only
                                                                refine zO.bind p (fun w s2 q => ?_)
                                                                try dsimp +instances only
                                                                unfold g_jRangeAnswersLaw_law_L1367
                                                                rw [w6]
                                                                exact z_loop hxl hx n (x3 + 6) s2 q.1 k1 k2 k3
                                                              · clear c
                                                                try dsimp +instances only
                                                                refine zO.ite (fun c => ?_) (fun c => ?_)
                                                                · clear c
                                                                  try dsimp +instances only
                                                                  refine zO.gd g1 ?_
                                                                  try dsimp +instances only
                                                                  refine zO.gd g2 ?_
                                                                  try dsimp +instances only
                                                                  refine zO.gd g3 ?_
                                                                  try dsimp +instances only
                                                                  refine zO.gd g4 ?_
                                                                  try dsimp +instances only
                                                                  refine zO.bind (qa_set I) (fun v s1 p => ?_)
                                                                  try dsimp +instances only
                                                                  refine zO.gd g1 ?_
                                                                  try dsimp +instances only
                                                                  refine zO.gd g2 ?_
                                                                  try dsimp +instances only
                                                                  refine zO.gd g3 ?_
                                                                  try dsimp +instances only
                                                                  refine zO.gd g4 ?_
                                                                  try dsimp +instances only
                                                                  refine zO.bind p (fun w s2 q => ?_)
                                                                  try dsimp +instances only
                                                                  unfold g_jRangeAnswersLaw_law_L1367
                                                                  rw [w6]
                                                                  exact z_loop hxl hx n (x3 + 6) s2 q.1 k1 k2 k3
                                                                · clear c
                                                                  try dsimp +instances only
                                                                  refine zO.ite (fun c => ?_) (fun c => ?_)
                                                                  · clear c
                                                                    try dsimp +instances only
                                                                    refine zO.gd g1 ?_
                                                                    try dsimp +instances only
                                                                    refine zO.gd g2 ?_
                                                                    try dsimp +instances only
                                                                    refine zO.bind (qa_get I) (fun v s1 p => ?_)
                                                                    try dsimp +instances only
                                                                    refine zO.gd g1 ?_
                                                                    try dsimp +instances only
                                                                    refine zO.gd g2 ?_
                                                                    try dsimp +instances only
                                                                    refine zO.bind p (fun w s2 q => ?_)
                                                                    try dsimp +instances only
                                                                    unfold g_jRangeAnswersLaw_law_L1367
                                                                    rw [w6]
                                                                    exact z_loop hxl hx n (x3 + 6) s2 q k1 k2 k3
                                                                  · clear c
                                                                    try dsimp +instances only
                                                                    refine zO.ite (fun c => ?_) (fun c => ?_)
                                                                    · clear c
                                                                      try dsimp +instances only
                                                                      refine zO.gd g1 ?_
                                                                      try dsimp +instances only
                                                                      refine zO.gd g2 ?_
                                                                      try dsimp +instances only
                                                                      refine zO.gd g3 ?_
                                                                      try dsimp +instances only
                                                                      refine zO.gd g4 ?_
                                                                      try dsimp +instances only
                                                                      refine zO.gd g5 ?_
                                                                      try dsimp +instances only
                                                                      refine zO.bind (qa_move (hx _).2 (hx _).2 I) (fun v s1 p => ?_)
                                                                      try dsimp +instances only
                                                                      refine zO.gd g1 ?_
                                                                      try dsimp +instances only
                                                                      refine zO.gd g2 ?_
                                                                      try dsimp +instances only
                                                                      refine zO.gd g3 ?_
                                                                      try dsimp +instances only
                                                                      refine zO.gd g4 ?_
                                                                      try dsimp +instances only
                                                                      refine zO.gd g5 ?_
                                                                      try dsimp +instances only
                                                                      refine zO.bind p (fun w s2 q => ?_)
                                                                      try dsimp +instances only
                                                                      unfold g_jRangeAnswersLaw_law_L1367
                                                                      rw [w6]
                                                                      exact z_loop hxl hx n (x3 + 6) s2 q.1 k1 k2 k3
                                                                    · clear c
                                                                      try dsimp +instances only
                                                                      refine zO.ite (fun c => ?_) (fun c => ?_)
                                                                      · clear c
                                                                        try dsimp +instances only
                                                                        refine zO.gd g1 ?_
                                                                        try dsimp +instances only
                                                                        refine zO.gd g2 ?_
                                                                        try dsimp +instances only
                                                                        refine zO.bind (qe_lay (hx _) I) (fun v s1 p => ?_)
                                                                        try dsimp +instances only
                                                                        refine zO.gd g1 ?_
                                                                        try dsimp +instances only
                                                                        refine zO.gd g2 ?_
                                                                        try dsimp +instances only
                                                                        refine zO.bind p (fun w s2 q => ?_)
                                                                        try dsimp +instances only
                                                                        refine zO.ite (fun _ => ?_) (fun c => absurd q.2 c)
                                                                        try dsimp +instances only
                                                                        unfold g_jRangeAnswersLaw_law_L1367
                                                                        rw [w6]
                                                                        exact z_loop hxl hx n (x3 + 6) s2 q.1 k1 k2 k3
                                                                      · clear c
                                                                        try dsimp +instances only
                                                                        refine zO.ite (fun c => ?_) (fun c => ?_)
                                                                        · clear c
                                                                          try dsimp +instances only
                                                                          refine zO.gd g1 ?_
                                                                          try dsimp +instances only
                                                                          refine zO.gd g2 ?_
                                                                          try dsimp +instances only
                                                                          refine zO.bind (qa_judge (hx _) I) (fun v s1 p => ?_)
                                                                          try dsimp +instances only
                                                                          refine zO.gd g1 ?_
                                                                          try dsimp +instances only
                                                                          refine zO.gd g2 ?_
                                                                          try dsimp +instances only
                                                                          refine zO.bind p (fun w s2 q => ?_)
                                                                          try dsimp +instances only
                                                                          unfold g_jRangeAnswersLaw_law_L1367
                                                                          rw [w6]
                                                                          exact z_loop hxl hx n (x3 + 6) s2 q k1 k2 k3
                                                                        · clear c
                                                                          try dsimp +instances only
                                                                          refine zO.ite (fun c => ?_) (fun c => ?_)
                                                                          · clear c
                                                                            try dsimp +instances only
                                                                            refine zO.bind (qa_image I) (fun v s1 p => ?_)
                                                                            try dsimp +instances only
                                                                            refine zO.bind p (fun w s2 q => ?_)
                                                                            try dsimp +instances only
                                                                            unfold g_jRangeAnswersLaw_law_L1367
                                                                            rw [w6]
                                                                            exact z_loop hxl hx n (x3 + 6) s2 q k1 k2 k3
                                                                          · clear c
                                                                            try dsimp +instances only
                                                                            refine zO.ite (fun c => ?_) (fun c => ?_)
                                                                            · clear c
                                                                              try dsimp +instances only
                                                                              refine zO.bind (qa_undo I) (fun v s1 p => ?_)
                                                                              try dsimp +instances only
                                                                              refine zO.bind p (fun w s2 q => ?_)
                                                                              try dsimp +instances only
                                                                              unfold g_jRangeAnswersLaw_law_L1367
                                                                              rw [w6]
                                                                              exact z_loop hxl hx n (x3 + 6) s2 q k1 k2 k3
                                                                            · clear c
                                                                              try dsimp +instances only
                                                                              unfold g_jRangeAnswersLaw_law_L1367
                                                                              rw [w6]
                                                                              exact z_loop hxl hx n (x3 + 6) σ I k1 k2 k3
theorem z_main : z_goal 3072 := z_fin (by decide) (fun xl xs hxl => by
  obtain ⟨v, s, e, rfl⟩ := z_loop (xs := xs) hxl (fun X => ⟨Int32.le_toInt X, Int32.toInt_lt X⟩) zK 0 s0 InvA_s0 (by omega) (by omega) (by show _ < (1000000 : Int); omega)
  exact ⟨s, e⟩)
end
