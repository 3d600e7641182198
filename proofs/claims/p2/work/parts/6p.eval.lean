/-! E OF THE REFERENCE: for which rows it holds -/
theorem m_num84V {lo hi x : Int} {σ : zS} : zP' (g_m_isNumber_L84 lo hi x σ) (fun _ s => fr3 σ s ∧ s 143 21 = σ 143 21 ∧ s 143 23 = σ 143 23 ∧ (lo ≤ σ 143 23 ∧ σ 143 23 ≤ hi → s 143 22 = σ 143 22)) := by
  have fl : zP' (g_m_fails x σ) (fun b s => fr3 σ s ∧ s 143 21 = σ 143 21 ∧ s 143 23 = σ 143 23) := by
    unfold g_m_fails
    exact zP'.ite (fun _ => zP'.ret ⟨fr3.refl σ, rfl, rfl⟩) (fun _ => zP'.ret ⟨fr3.u (by omega), zu_i (by decide), zu_i (by decide)⟩)
  have tail : zP' ((g_m_fails x σ).bind fun o_99 => if o_99.1 = 0 then some ((0 : Int), o_99.2) else some ((1 : Int), o_99.2)) (fun _ s => fr3 σ s ∧ s 143 21 = σ 143 21 ∧ s 143 23 = σ 143 23) := zP'.bind fl (fun b s p => zP'.ite (fun _ => zP'.ret p) (fun _ => zP'.ret p))
  unfold g_m_isNumber_L84
  try dsimp +instances only
  by_cases c : lo ≤ σ 143 23 ∧ σ 143 23 ≤ hi
  · rw [s_isIn_t c.1 c.2]
    rw [Option.bind_some]
    try dsimp +instances only
    rw [if_pos (by decide)]
    exact zP'.ret ⟨fr3.refl σ, rfl, rfl, fun _ => rfl⟩
  · rw [s_isIn_f (by omega)]
    rw [Option.bind_some]
    try dsimp +instances only
    rw [if_neg (by decide)]
    exact tail.imp (fun _ s k => ⟨k.1, k.2.1, k.2.2, fun h => absurd h c⟩)
theorem m_num33V {w lo hi x : Int} (hw : w ≤ 9) : ∀ (n k d : Nat) (v p : Int) (σ : zS), w.toNat = k + d → tpP σ → σ 143 21 = p → σ 143 23 = v → 0 ≤ v → (v + 1) * 10 ^ d ≤ 1000000000 → zP' (g_m_isNumber_L33 n w lo hi x (k : Int) σ) (fun _ s => fr3 σ s ∧ s 143 21 = (numF (mT σ) (σ 143 20) d p v).2 ∧ s 143 23 = (numF (mT σ) (σ 143 20) d p v).1 ∧ (lo ≤ (numF (mT σ) (σ 143 20) d p v).1 ∧ (numF (mT σ) (σ 143 20) d p v).1 ≤ hi → s 143 22 = σ 143 22))
  | 0, _, _, _, _, _, _, _, _, _, _, _ => zP'.no
  | n + 1, k, d, v, p, σ, hk, h, hp, hv, hv0, hb => by
    have h1 := h.1
    have h2 := h.2.1
    have fin : numF (mT σ) (σ 143 20) d p v = (v, p) → zP' (g_m_isNumber_L84 lo hi x σ) (fun _ s => fr3 σ s ∧ s 143 21 = (numF (mT σ) (σ 143 20) d p v).2 ∧ s 143 23 = (numF (mT σ) (σ 143 20) d p v).1 ∧ (lo ≤ (numF (mT σ) (σ 143 20) d p v).1 ∧ (numF (mT σ) (σ 143 20) d p v).1 ≤ hi → s 143 22 = σ 143 22)) := fun e => by
      rw [e]
      exact m_num84V.imp (fun _ s q => ⟨q.1, q.2.1.trans hp, q.2.2.1.trans hv, fun k => q.2.2.2 (by rw [hv]; exact k)⟩)
    unfold g_m_isNumber_L33
    by_cases c : w ≤ (k : Int)
    · rw [if_pos c]
      exact fin (by rw [show d = 0 by omega]; rfl)
    · rw [if_neg c]
      obtain ⟨m, rfl⟩ : ∃ m, d = m + 1 := ⟨d - 1, by omega⟩
      rw [s_here h.i]
      rw [Option.bind_some]
      try dsimp +instances only
      rw [s_isFigure]
      rw [Option.bind_some]
      try dsimp +instances only
      have hH := hereC_mT h
      rw [hp] at hH
      by_cases cf : p < σ 143 20 ∧ 48 ≤ mT σ p ∧ mT σ p ≤ 57
      · have hh : hereC σ = mT σ p := by rw [hH, if_pos cf.1]
        rw [hh, if_pos cf.2, if_neg (by decide), s_here h.i, hh]
        rw [Option.bind_some]
        try dsimp +instances only
        have hstep : numF (mT σ) (σ 143 20) (m + 1) p v = numF (mT σ) (σ 143 20) m (p + 1) (10 * v + mT σ p - 48) := if_pos cf
        have hpow1 : (1 : Int) ≤ 10 ^ m := by
          have : (0 : Int) < 10 ^ m := Int.pow_pos (by decide)
          omega
        have hv10 : (10 * v + 9 + 1) * 10 ^ m ≤ 1000000000 := by
          have e : (10 * v + 9 + 1) * (10 : Int) ^ m = (v + 1) * 10 ^ (m + 1) := by
            rw [Int.pow_succ, Int.mul_comm (10 ^ m) 10, ← Int.mul_assoc]
            congr 1
            omega
          rw [e]
          exact hb
        have hle : 10 * v + 9 + 1 ≤ (10 * v + 9 + 1) * 10 ^ m := by
          have := Int.mul_le_mul_of_nonneg_left hpow1 (show 0 ≤ 10 * v + 9 + 1 by omega)
          omega
        rw [hv, w32_id (x := 10 * v) (by omega) (by omega), w32_id (x := 10 * v + mT σ p) (by omega) (by omega), w32_id (x := 10 * v + mT σ p - 48) (by omega) (by omega), zu_i (by decide), hp, w32_id (x := p + 1) (by omega) (by omega), w32_id (x := (k : Int) + 1) (by omega) (by omega), show (k : Int) + 1 = ((k + 1 : Nat) : Int) by omega]
        generalize hz : zu (zu σ 143 23 (10 * v + mT σ p - 48)) 143 21 (p + 1) = s1
        have f1 : fr3 σ s1 := fun a j hh => by rw [← hz, zu_c (by omega), zu_c (by omega)]
        have q21 : s1 143 21 = p + 1 := by rw [← hz]; exact zu_e rfl
        have q23 : s1 143 23 = 10 * v + mT σ p - 48 := by rw [← hz, zu_i (by decide)]; exact zu_e rfl
        have q20 : s1 143 20 = σ 143 20 := f1 143 20 (Or.inr (by decide))
        have q22 : s1 143 22 = σ 143 22 := by rw [← hz, zu_i (by decide), zu_i (by decide)]
        have hmul : (10 * v + mT σ p - 48 + 1) * 10 ^ m ≤ 1000000000 := Int.le_trans (Int.mul_le_mul_of_nonneg_right (show 10 * v + mT σ p - 48 + 1 ≤ 10 * v + 9 + 1 by omega) (by omega)) hv10
        refine (m_num33V hw n (k + 1) m (10 * v + mT σ p - 48) (p + 1) s1 (by omega) (h.f f1 (by rw [q21]; omega)) q21 q23 (by omega) hmul).imp (fun _ s q => ?_)
        rw [mT_f f1, q20, ← hstep, q22] at q
        exact ⟨f1.trans q.1, q.2⟩
      · have hn : ¬ (48 ≤ hereC σ ∧ hereC σ ≤ 57) := fun hh => by
          rw [hH] at hh
          by_cases cp : p < σ 143 20
          · rw [if_pos cp] at hh
            exact cf ⟨cp, hh⟩
          · rw [if_neg cp] at hh
            exact absurd hh (by omega)
        rw [if_neg hn, if_pos rfl]
        exact fin (if_neg cf)
theorem m_numV {lo hi : Int} {σ : zS} (h : tpP σ) : zP' (g_m_isNumber 9 lo hi σ) (fun _ s => fr3 σ s ∧ s 143 21 = (numF (mT σ) (σ 143 20) 9 (σ 143 21) 0).2 ∧ s 143 23 = (numF (mT σ) (σ 143 20) 9 (σ 143 21) 0).1 ∧ ((numF (mT σ) (σ 143 20) 9 (σ 143 21) 0).2 ≠ σ 143 21 ∧ lo ≤ (numF (mT σ) (σ 143 20) 9 (σ 143 21) 0).1 ∧ (numF (mT σ) (σ 143 20) 9 (σ 143 21) 0).1 ≤ hi → s 143 22 = σ 143 22)) := by
  generalize hz : zu σ 143 23 0 = s1
  have f1 : fr3 σ s1 := fun a j hh => by rw [← hz, zu_c (by omega)]
  have q21 : s1 143 21 = σ 143 21 := by rw [← hz, zu_i (by decide)]
  have q20 : s1 143 20 = σ 143 20 := f1 143 20 (Or.inr (by decide))
  have q23 : s1 143 23 = 0 := by rw [← hz]; exact zu_e rfl
  have q22 : s1 143 22 = σ 143 22 := by rw [← hz, zu_i (by decide)]
  have h2 := h.2.1
  have t1 : tpP s1 := h.f f1 (by rw [q21]; exact h2)
  unfold g_m_isNumber
  try dsimp +instances only
  rw [hz, s_here t1.i]
  rw [Option.bind_some]
  try dsimp +instances only
  rw [s_isFigure]
  rw [Option.bind_some]
  try dsimp +instances only
  have hH := hereC_mT t1
  rw [q21, q20, mT_f f1] at hH
  by_cases cf : σ 143 21 < σ 143 20 ∧ 48 ≤ mT σ (σ 143 21) ∧ mT σ (σ 143 21) ≤ 57
  · have hh : hereC s1 = mT σ (σ 143 21) := by rw [hH, if_pos cf.1]
    rw [hh, if_pos cf.2, if_pos (by decide)]
    refine (m_num33V (w := 9) (by decide) zK 0 9 0 (σ 143 21) s1 (by decide) t1 q21 q23 (by decide) (by decide)).imp (fun _ s q => ?_)
    rw [mT_f f1, q20, q22] at q
    exact ⟨f1.trans q.1, q.2.1, q.2.2.1, fun k => q.2.2.2 k.2⟩
  · have hn : ¬ (48 ≤ hereC s1 ∧ hereC s1 ≤ 57) := fun hh => by
      rw [hH] at hh
      by_cases cp : σ 143 21 < σ 143 20
      · rw [if_pos cp] at hh
        exact cf ⟨cp, hh⟩
      · rw [if_neg cp] at hh
        exact absurd hh (by omega)
    have e : numF (mT σ) (σ 143 20) 9 (σ 143 21) 0 = (0, σ 143 21) := if_neg cf
    rw [if_neg hn, if_neg (by decide), e]
    unfold g_m_fails
    try dsimp +instances only
    have fl : ∀ s : zS, fr3 σ s ∧ s 143 21 = σ 143 21 ∧ s 143 23 = 0 → zP' (if (0 : Int) = 0 ∨ (0 : Int) = 1 then some ((0 : Int), s) else none) (fun _ s => fr3 σ s ∧ s 143 21 = (0, σ 143 21).2 ∧ s 143 23 = ((0 : Int), σ 143 21).1 ∧ (((0 : Int), σ 143 21).2 ≠ σ 143 21 ∧ lo ≤ ((0 : Int), σ 143 21).1 ∧ ((0 : Int), σ 143 21).1 ≤ hi → s 143 22 = σ 143 22)) := fun s k => zP'.gd (fun _ => zP'.ret ⟨k.1, k.2.1, k.2.2, fun x => absurd rfl x.1⟩)
    by_cases c0 : 0 ≤ s1 143 22
    · rw [if_pos c0]
      rw [Option.bind_some]
      exact fl s1 ⟨f1, q21, q23⟩
    · rw [if_neg c0]
      rw [Option.bind_some]
      exact fl (zu s1 143 22 (s1 143 21)) ⟨f1.trans (fr3.u (by omega)), (zu_i (by decide)).trans q21, (zu_i (by decide)).trans q23⟩
/-! tests -/
def mev (σ : zS) (l r : Int) : Int := if l = 0 then σ 147 (1 + r) else if l = 1 then σ 144 (21 + 3 * r) else if l = 2 then σ 144 (22 + 3 * r) else r
theorem m_202 {rec : Nat → Int → zS → Option (Int × zS)} {y x5 c v : Int} {σ : zS} (hc : (c = 0 ∧ x5 = 60) ∨ (c = 1 ∧ x5 = 61) ∨ (c = 2 ∧ x5 = 62)) : g_m_holdsFactor_L202 rec y x5 v σ = some (bI (cmpB c y v), σ) := by
  unfold g_m_holdsFactor_L202 cmpB
  rcases hc with ⟨rfl, rfl⟩ | ⟨rfl, rfl⟩ | ⟨rfl, rfl⟩
  · rw [if_neg (by decide), if_pos rfl]
    by_cases k : y < v
    · rw [if_neg (fun h => lCmp_0.mp h k), decide_eq_true k]
      rfl
    · rw [if_pos (lCmp_0.mpr k), decide_eq_false k]
      rfl
  · rw [if_pos (by decide), if_pos (by decide), if_neg (show ¬ (1 : Int) = 0 by decide), if_pos (show (1 : Int) = 1 from rfl)]
    by_cases k : y = v
    · rw [if_neg (fun h => h (lCmp_eq.mpr k)), decide_eq_true k]
      rfl
    · rw [if_pos (fun h => k (lCmp_eq.mp h)), decide_eq_false k]
      rfl
  · rw [if_pos (by decide), if_neg (by decide), if_neg (show ¬ (2 : Int) = 0 by decide), if_neg (show ¬ (2 : Int) = 1 by decide)]
    by_cases k : v < y
    · rw [if_neg (fun h => lCmp_gt.mp h k), decide_eq_true k]
      rfl
    · rw [if_pos (lCmp_gt.mpr k), decide_eq_false k]
      rfl
def evQ (σ : zS) (v : Bool) (p : Int) (b : Int) (s : zS) : Prop := (fr3 σ s ∧ s 143 22 = σ 143 22) ∧ b = bI v ∧ s 143 21 = p
theorem f3.tr {σ s t : zS} (h1 : fr3 σ s ∧ s 143 22 = σ 143 22) (h2 : fr3 s t ∧ t 143 22 = s 143 22) : fr3 σ t ∧ t 143 22 = σ 143 22 := ⟨h1.1.trans h2.1, h2.2.trans h1.2⟩
theorem m_120 {rec : Nat → Int → zS → Option (Int × zS)} {y l : Int} {x : (Int × Int × Int) × Int} {σ : zS} (h : tpP σ) (e : tstC l (mT σ) (σ 143 20) (σ 143 21) = .inr x) : zP' (g_m_holdsFactor_L120 rec y σ) (evQ σ (cmpB x.1.2.1 y x.1.2.2) x.2) := by
  have h1 := h.1
  have h2 := h.2.1
  unfold tstC at e
  cases e1 : cmpR (mT σ) (σ 143 20) (σ 143 21) with
  | inl q =>
    rw [e1] at e
    cases e
  | inr z =>
    rw [e1] at e
    dsimp only at e
    obtain ⟨k1, k2, k3⟩ := cmpR_ok (v := z.1) (p' := z.2) e1
    obtain ⟨ew, f, t, s22, s21, sT, s20⟩ := mk_st h k1
    have hh : hereC σ = mT σ (σ 143 21) := by rw [hereC_mT h, if_pos k1]
    unfold g_m_holdsFactor_L120
    rw [s_here h.i]
    rw [Option.bind_some]
    try dsimp +instances only
    rw [ew]
    generalize zu σ 143 21 (σ 143 21 + 1) = s1 at f t s22 s21 sT s20
    rw [s_here t.i]
    rw [Option.bind_some]
    try dsimp +instances only
    cases e2 : tstN (mT σ) (σ 143 20) z.2 with
    | inl q =>
      rw [e2] at e
      cases e
    | inr u =>
      rw [e2] at e
      dsimp only [tstV] at e
      cases e
      try dsimp only
      have hc : (z.1 = 0 ∧ hereC σ = 60) ∨ (z.1 = 1 ∧ hereC σ = 61) ∨ (z.1 = 2 ∧ hereC σ = 62) := by
        rw [hh]
        exact k3
      have eN : ∀ p0, p0 = (if negB (mT σ) (σ 143 20) z.2 = true then z.2 + 1 else z.2) → numF (mT σ) (σ 143 20) 9 p0 0 = u ∧ u.2 ≠ p0 := fun p0 h0 => by
        unfold tstN numR at e2
        rw [← h0] at e2
        split at e2
        · rename_i cc
          have k := Sum.inr.inj e2
          rw [k] at cc
          exact ⟨k, cc.1⟩
        · cases e2
      have bu : 0 ≤ u.1 ∧ u.1 ≤ 999999999 := by
        have k := numR_ok (v := u.1) (p' := u.2) (show numR 9 0 999999999 (mT σ) (σ 143 20) _ = _ from e2)
        exact ⟨k.1, k.2.1⟩
      have eH : hereC s1 = 45 ↔ negB (mT σ) (σ 143 20) z.2 = true := by
        rw [hereC_is t (by decide), sT, s20, s21, ← k2]
        unfold negB
        rw [decide_eq_true_iff]
      have fin : ∀ (s2 : zS), (fr3 σ s2 ∧ s2 143 22 = σ 143 22) → tpP s2 → s2 143 21 = (if negB (mT σ) (σ 143 20) z.2 = true then z.2 + 1 else z.2) → ∀ x6 : Int, (x6 = 0 ↔ negB (mT σ) (σ 143 20) z.2 = false) → zP' ((g_m_isNumber 9 0 999999999 s2).bind fun o_179 => if x6 = 0 then g_m_holdsFactor_L202 rec y (hereC σ) (o_179.2 143 23) o_179.2 else g_m_holdsFactor_L202 rec y (hereC σ) (w32 (-(o_179.2 143 23))) o_179.2) (evQ σ (cmpB z.1 y (if negB (mT σ) (σ 143 20) z.2 = true then -u.1 else u.1)) u.2) := fun s2 i1 t2 ip x6 ix => by
        refine zP'.bind (m_numV t2) (fun b s3 p3 => ?_)
        obtain ⟨j1, j2, j3, j4⟩ := p3
        have L2 : s2 143 20 = σ 143 20 := i1.1 143 20 (Or.inr (by decide))
        rw [mT_f i1.1, L2, (eN _ ip).1] at j2 j3 j4
        have j4 := j4 ⟨(eN _ ip).2, bu⟩
        try dsimp +instances only
        rw [j3]
        refine zP'.ite (fun c => ?_) (fun c => ?_)
        · rw [m_202 hc, ix.mp c, if_neg (by decide)]
          exact zP'.ret ⟨f3.tr i1 ⟨j1, j4⟩, rfl, j2⟩
        · have hn : negB (mT σ) (σ 143 20) z.2 = true := by
            cases hb : negB (mT σ) (σ 143 20) z.2 with
            | true => rfl
            | false => exact absurd (ix.mpr hb) c
          rw [m_202 hc, hn, if_pos rfl, w32_id (x := -u.1) (by omega) (by omega)]
          exact zP'.ret ⟨f3.tr i1 ⟨j1, j4⟩, rfl, j2⟩
      by_cases c45 : hereC s1 = 45
      · have hn := eH.mp c45
        have hp1 := (negB_t hn).1
        rw [if_neg (fun k => k c45)]
        unfold g_m_holdsFactor_L151
        try dsimp +instances only
        rw [if_neg (by decide)]
        unfold g_m_holdsFactor_L168
        try dsimp +instances only
        rw [w32_id (x := s1 143 21 + 1) (by omega) (by omega)]
        have e21 : zu s1 143 21 (s1 143 21 + 1) 143 21 = z.2 + 1 := by rw [zu_e rfl, s21, k2]
        have f2 : fr3 s1 (zu s1 143 21 (s1 143 21 + 1)) := fr3.u (Or.inl rfl)
        exact fin _ ⟨f.trans f2, (zu_i (by decide)).trans s22⟩ (t.f f2 (by rw [e21]; omega)) (by rw [e21, hn, if_pos rfl]) 1 ⟨fun k => absurd k (by decide), fun k => by rw [hn] at k; cases k⟩
      · have hn : negB (mT σ) (σ 143 20) z.2 = false := Bool.eq_false_iff.mpr (fun k => c45 (eH.mpr k))
        rw [if_pos c45]
        unfold g_m_holdsFactor_L151
        try dsimp +instances only
        rw [if_pos rfl]
        unfold g_m_holdsFactor_L168
        try dsimp +instances only
        rw [w32_id (x := s1 143 21 + 0) (by omega) (by omega)]
        have e21 : zu s1 143 21 (s1 143 21 + 0) 143 21 = z.2 := by rw [zu_e rfl, s21, k2, Int.add_zero]
        have f2 : fr3 s1 (zu s1 143 21 (s1 143 21 + 0)) := fr3.u (Or.inl rfl)
        exact fin _ ⟨f.trans f2, (zu_i (by decide)).trans s22⟩ (t.f f2 (by rw [e21]; omega)) (by rw [e21, hn]; rfl) 0 ⟨fun _ => hn, fun _ => rfl⟩
theorem m_factT {rec : Nat → Int → zS → Option (Int × zS)} {r : Int} {x : (Int × Int × Int) × Int} {σ : zS} (h : tpP σ) (hr : 0 ≤ r ∧ r < 60) (e : tstP (mT σ) (σ 143 20) (σ 143 21) = .inr x) : zP' (g_m_holdsFactor rec r σ) (evQ σ (cmpB x.1.2.1 (mev σ x.1.1 r) x.1.2.2) x.2) := by
  unfold tstP at e
  cases e1 : ltrR (mT σ) (σ 143 20) (σ 143 21) with
  | inl q =>
    rw [e1] at e
    cases e
  | inr z =>
    rw [e1] at e
    dsimp only at e
    obtain ⟨k1, k2, k3⟩ := ltrR_ok (v := z.1) (p' := z.2) e1
    obtain ⟨ew, f, t, s22, s21, sT, s20⟩ := mk_st h k1
    have hh : hereC σ = mT σ (σ 143 21) := by rw [hereC_mT h, if_pos k1]
    unfold g_m_holdsFactor
    rw [s_here h.i]
    rw [Option.bind_some]
    try dsimp +instances only
    rw [ew]
    have e144 : ∀ j, zu σ 143 21 (σ 143 21 + 1) 144 j = σ 144 j := fun j => zu_a (by decide)
    have e147 : ∀ j, zu σ 143 21 (σ 143 21 + 1) 147 j = σ 147 j := fun j => zu_a (by decide)
    generalize zu σ 143 21 (σ 143 21 + 1) = s1 at f t s22 s21 sT s20 e144 e147
    rw [← sT, ← s20, k2, ← s21] at e
    have hl : x.1.1 = z.1 := by
      unfold tstC at e
      cases e2 : cmpR (mT s1) (s1 143 20) (s1 143 21) with
      | inl q =>
        rw [e2] at e
        cases e
      | inr y =>
        rw [e2] at e
        dsimp only at e
        cases e3 : tstN (mT s1) (s1 143 20) y.2 with
        | inl q =>
          rw [e3] at e
          cases e
        | inr u =>
          rw [e3] at e
          dsimp only [tstV] at e
          cases e
          rfl
    have R : ∀ y, y = mev σ x.1.1 r → zP' (g_m_holdsFactor_L120 rec y s1) (evQ σ (cmpB x.1.2.1 (mev σ x.1.1 r) x.1.2.2) x.2) := fun y hy => (m_120 (y := y) t e).imp (fun b s p => by
      obtain ⟨p1, p2, p3⟩ := p
      rw [hy] at p2
      exact ⟨f3.tr ⟨f, s22⟩ p1, p2, p3⟩)
    rw [hl] at R ⊢
    unfold mev at R ⊢
    rcases k3 with ⟨q1, q2⟩ | ⟨q1, q2⟩ | ⟨q1, q2⟩ | ⟨q1, q2⟩
    · have e0 : hereC σ = 119 := hh.trans q2
      rw [if_pos (by omega), if_pos (by omega), if_neg (by omega), w32_id (x := 1 + r) (by omega) (by omega), if_pos (by omega), e147]
      exact R _ (by rw [if_pos q1])
    · have e0 : hereC σ = 120 := hh.trans q2
      rw [if_pos (by omega), if_pos (by omega), if_pos (by omega), if_neg (by omega), s_rowAt (by omega) (by omega)]
      rw [Option.bind_some]
      try dsimp +instances only
      rw [w32_id (x := 20 + 3 * r + 1) (by omega) (by omega), if_pos (by omega), e144]
      exact R _ (by rw [if_neg (by omega), if_pos q1, show 20 + 3 * r + 1 = 21 + 3 * r by omega])
    · have e0 : hereC σ = 121 := hh.trans q2
      rw [if_pos (by omega), if_pos (by omega), if_pos (by omega), if_pos (by omega), if_neg (by omega), s_rowAt (by omega) (by omega)]
      rw [Option.bind_some]
      try dsimp +instances only
      rw [w32_id (x := 20 + 3 * r + 2) (by omega) (by omega), if_pos (by omega), e144]
      exact R _ (by rw [if_neg (by omega), if_neg (by omega), if_pos q1, show 20 + 3 * r + 2 = 22 + 3 * r by omega])
    · have e0 : hereC σ = 114 := hh.trans q2
      rw [if_pos (by omega), if_pos (by omega), if_pos (by omega), if_pos (by omega), if_pos (by omega)]
      exact R _ (by rw [if_neg (by omega), if_neg (by omega), if_neg (by omega)])
/-! the whole of E -/
theorem mev_f {σ s : zS} (f : fr3 σ s) (l r : Int) : mev s l r = mev σ l r := by
  unfold mev
  rw [f 147 _ (Or.inl (by decide)), f 144 _ (Or.inl (by decide)), f 144 _ (Or.inl (by decide))]
theorem iOr_bb {x y : Bool} : iOr (bI x) (bI y) = bI (x || y) := by
  cases x <;> cases y <;> decide +kernel
theorem iAnd_bb {x y : Bool} : iAnd (bI x) (bI y) = bI (x && y) := by
  cases x <;> cases y <;> decide +kernel
theorem bI_01 (x : Bool) : bI x = 0 ∨ bI x = 1 := by
  cases x
  · exact Or.inl rfl
  · exact Or.inr rfl
def v_all (ev : Int → Int → Int) (r : Int) (m : Nat) : Prop :=
  (∀ (n : Nat) (d : Int) (T : Int → Bool) (x : (Int → Bool) × Int) (σ : zS), tpP σ → (∀ l, mev σ l r = ev l r) → eP ev (mT σ) (σ 143 20) m 0 d (σ 143 21) T = .inr x → zP' (g_grp231 n 231 r σ) (evQ σ (x.1 r) x.2)) ∧
  (∀ (n : Nat) (d : Int) (T : Int → Bool) (x : (Int → Bool) × Int) (σ : zS), tpP σ → (∀ l, mev σ l r = ev l r) → eP ev (mT σ) (σ 143 20) m 1 d (σ 143 21) T = .inr x → zP' (g_grp231 n 232 r σ) (evQ σ (x.1 r) x.2)) ∧
  (∀ (n : Nat) (d : Int) (T : Int → Bool) (x : (Int → Bool) × Int) (σ : zS), tpP σ → (∀ l, mev σ l r = ev l r) → eP ev (mT σ) (σ 143 20) m 2 d (σ 143 21) T = .inr x → zP' (g_grp231 n 233 r σ) (evQ σ (x.1 r) x.2)) ∧
  (∀ (n w : Nat) (d : Int) (T : Int → Bool) (x : (Int → Bool) × Int) (σ : zS), tpP σ → (∀ l, mev σ l r = ev l r) → eP ev (mT σ) (σ 143 20) m 3 d (σ 143 21) T = .inr x → zP' (g_m_doesHold_L6 (g_grp231 n) w r (bI (T r)) σ) (evQ σ (x.1 r) x.2)) ∧
  (∀ (n w : Nat) (d : Int) (T : Int → Bool) (x : (Int → Bool) × Int) (σ : zS), tpP σ → (∀ l, mev σ l r = ev l r) → eP ev (mT σ) (σ 143 20) m 4 d (σ 143 21) T = .inr x → zP' (g_m_holdsBoth_L6 (g_grp231 n) w r (bI (T r)) σ) (evQ σ (x.1 r) x.2))
theorem exSeq_ok {k : Int → (Int → Bool) → zEx} {r : zEx} {x : (Int → Bool) × Int} (h : exSeq k r = .inr x) : ∃ y, r = .inr y ∧ k y.2 y.1 = .inr x := by
  cases r with
  | inl q => cases h
  | inr y => exact ⟨y, rfl, h⟩
theorem m_eval {ev : Int → Int → Int} {r : Int} (hr : 0 ≤ r ∧ r < 60) : ∀ m : Nat, v_all ev r m
  | 0 => ⟨fun n d T x σ h _ e => (by cases e), fun n d T x σ h _ e => (by cases e), fun n d T x σ h _ e => (by cases e), fun n w d T x σ h _ e => (by cases e), fun n w d T x σ h _ e => (by cases e)⟩
  | m + 1 => by
    obtain ⟨A0, A1, A2, A3, A4⟩ := m_eval (ev := ev) hr m
    have bd : ∀ (k : Nat) (d p : Int) (T : Int → Bool) (f : Int → Int) (L : Int), k ≤ 4 → p ≤ L → ∀ x, eP ev f L m k d p T = .inr x → p ≤ x.2 ∧ x.2 ≤ L := fun k d p T f L hk h x e => by
      have b := (eP_bd (ev := ev) (f := f) m k d p T hk h).2 x e
      exact ⟨b.1, b.2.1⟩
    refine ⟨fun n d T x σ h he e => ?_, fun n d T x σ h he e => ?_, fun n d T x σ h he e => ?_, fun n w d T x σ h he e => ?_, fun n w d T x σ h he e => ?_⟩
    · cases n with
      | zero => exact zP'.no
      | succ n =>
        have h2 := h.2.1
        rw [eP_0] at e
        obtain ⟨y, e1, e2⟩ := exSeq_ok e
        rw [grp231_231]
        unfold g_m_doesHold
        refine zP'.bind (A1 n d T y σ h he e1) (fun b s p => ?_)
        obtain ⟨ff, p2, p3⟩ := p
        have f := ff.1
        have b1 := bd 1 d _ T _ _ (by decide) h2.2 y e1
        have L1 : s 143 20 = σ 143 20 := f 143 20 (Or.inr (by decide))
        try dsimp +instances only
        rw [p2]
        refine (A3 n zK d y.1 x s (h.f f (by omega)) (fun l => (mev_f f l r).trans (he l)) (by rw [mT_f f, L1, p3]; exact e2)).imp (fun b t q => ⟨f3.tr ff q.1, q.2⟩)
    · cases n with
      | zero => exact zP'.no
      | succ n =>
        have h2 := h.2.1
        rw [eP_1] at e
        obtain ⟨y, e1, e2⟩ := exSeq_ok e
        rw [grp231_232]
        unfold g_m_holdsBoth
        refine zP'.bind (A2 n d T y σ h he e1) (fun b s p => ?_)
        obtain ⟨ff, p2, p3⟩ := p
        have f := ff.1
        have b1 := bd 2 d _ T _ _ (by decide) h2.2 y e1
        have L1 : s 143 20 = σ 143 20 := f 143 20 (Or.inr (by decide))
        try dsimp +instances only
        rw [p2]
        refine (A4 n zK d y.1 x s (h.f f (by omega)) (fun l => (mev_f f l r).trans (he l)) (by rw [mT_f f, L1, p3]; exact e2)).imp (fun b t q => ⟨f3.tr ff q.1, q.2⟩)
    · cases n with
      | zero => exact zP'.no
      | succ n =>
        have h2 := h.2.1
        rw [eP_2] at e
        rw [grp231_233]
        by_cases c33 : d < 4 ∧ σ 143 21 < σ 143 20 ∧ mT σ (σ 143 21) = 33
        · rw [if_pos c33] at e
          have hh : hereC σ = 33 := (hereC_is h (by decide)).mpr c33.2
          obtain ⟨ew, f, t, s22, s21, sT, s20⟩ := mk_st h c33.2.1
          cases e1 : eP ev (mT σ) (σ 143 20) m 2 (d + 1) (σ 143 21 + 1) T with
          | inl q =>
            rw [e1] at e
            cases e
          | inr y =>
            rw [e1] at e
            cases e
            unfold g_m_holdsFactor
            rw [s_here h.i]
            rw [Option.bind_some]
            try dsimp +instances only
            rw [ew, if_neg (fun k => k hh)]
            generalize zu σ 143 21 (σ 143 21 + 1) = s1 at f t s22 s21 sT s20
            refine zP'.bind (A2 n (d + 1) T y s1 t (fun l => (mev_f f l r).trans (he l)) (by rw [sT, s20, s21]; exact e1)) (fun b s p => ?_)
            obtain ⟨p1, p2, p3⟩ := p
            try dsimp +instances only
            rw [p2]
            cases hb : y.1 r with
            | true =>
              rw [if_pos (by decide)]
              exact zP'.ret ⟨f3.tr ⟨f, s22⟩ p1, rfl, p3⟩
            | false =>
              rw [if_neg (by decide)]
              exact zP'.ret ⟨f3.tr ⟨f, s22⟩ p1, rfl, p3⟩
        · rw [if_neg c33] at e
          by_cases c40 : d < 4 ∧ σ 143 21 < σ 143 20 ∧ mT σ (σ 143 21) = 40
          · rw [if_pos c40] at e
            have hh : hereC σ = 40 := (hereC_is h (by decide)).mpr c40.2
            obtain ⟨ew, f, t, s22, s21, sT, s20⟩ := mk_st h c40.2.1
            cases e1 : eP ev (mT σ) (σ 143 20) m 0 (d + 1) (σ 143 21 + 1) T with
            | inl q =>
              rw [e1] at e
              cases e
            | inr y =>
              rw [e1] at e
              have b1 := bd 0 (d + 1) (σ 143 21 + 1) T _ _ (by decide) (by omega) y e1
              unfold exPar at e
              dsimp only at e
              cases e3 : sgnR 41 (mT σ) (σ 143 20) y.2 with
              | inl q =>
                rw [e3] at e
                cases e
              | inr z =>
                rw [e3] at e
                cases e
                have k := sgnR_ok (v := z.1) (p' := z.2) e3
                unfold g_m_holdsFactor
                rw [s_here h.i]
                rw [Option.bind_some]
                try dsimp +instances only
                rw [ew, if_pos (by omega), if_neg (fun k => k hh)]
                generalize zu σ 143 21 (σ 143 21 + 1) = s1 at f t s22 s21 sT s20
                refine zP'.bind (A0 n (d + 1) T y s1 t (fun l => (mev_f f l r).trans (he l)) (by rw [sT, s20, s21]; exact e1)) (fun b s p => ?_)
                obtain ⟨p1, p2, p3⟩ := p
                have h1 := h.1
                try dsimp +instances only
                rw [p2, p3, w32_id (x := y.2 + 1) (by omega) (by omega)]
                refine b01 ⟨f3.tr (f3.tr ⟨f, s22⟩ p1) ⟨fr3.u (Or.inl rfl), zu_i (by decide)⟩, rfl, ?_⟩
                rw [zu_e rfl]
                exact k.2.1.symm
          · rw [if_neg c40] at e
            cases e1 : tstP (mT σ) (σ 143 20) (σ 143 21) with
            | inl q =>
              rw [e1] at e
              cases e
            | inr y =>
              rw [e1] at e
              cases e
              refine (m_factT h hr e1).imp (fun b s p => ?_)
              obtain ⟨p1, p2, p3⟩ := p
              rw [he] at p2
              exact ⟨p1, p2, p3⟩
    · cases w with
      | zero => exact zP'.no
      | succ w =>
        have h2 := h.2.1
        rw [eP_3] at e
        unfold g_m_doesHold_L6
        rw [s_here h.i]
        rw [Option.bind_some]
        try dsimp +instances only
        by_cases c : σ 143 21 < σ 143 20 ∧ mT σ (σ 143 21) = 124
        · rw [if_pos c] at e
          have hh : hereC σ = 124 := (hereC_is h (by decide)).mpr c
          obtain ⟨ew, f, t, s22, s21, sT, s20⟩ := mk_st h c.1
          obtain ⟨y, e1, e2⟩ := exSeq_ok e
          have b1 := bd 1 d (σ 143 21 + 1) T _ _ (by decide) (by omega) y e1
          rw [if_neg (fun k => k hh), ew]
          generalize zu σ 143 21 (σ 143 21 + 1) = s1 at f t s22 s21 sT s20
          refine zP'.bind (A1 n d T y s1 t (fun l => (mev_f f l r).trans (he l)) (by rw [sT, s20, s21]; exact e1)) (fun b s p => ?_)
          obtain ⟨pp, p2, p3⟩ := p
          have p1 := pp.1
          have fp := f.trans p1
          have ff := f3.tr ⟨f, s22⟩ pp
          have L1 : s 143 20 = σ 143 20 := fp 143 20 (Or.inr (by decide))
          try dsimp +instances only
          rw [p2, iOr_bb]
          exact (A3 n w d (fun r => T r || y.1 r) x s (h.f fp (by omega)) (fun l => (mev_f fp l r).trans (he l)) (by rw [mT_f fp, L1, p3]; exact e2)).imp (fun b t q => ⟨f3.tr ff q.1, q.2⟩)
        · rw [if_neg c] at e
          cases e
          have hh : ¬ hereC σ = 124 := fun k => c ((hereC_is h (by decide)).mp k)
          rw [if_pos hh, if_pos (bI_01 _)]
          exact zP'.ret ⟨⟨fr3.refl σ, rfl⟩, rfl, rfl⟩
    · cases w with
      | zero => exact zP'.no
      | succ w =>
        have h2 := h.2.1
        rw [eP_4] at e
        unfold g_m_holdsBoth_L6
        rw [s_here h.i]
        rw [Option.bind_some]
        try dsimp +instances only
        by_cases c : σ 143 21 < σ 143 20 ∧ mT σ (σ 143 21) = 38
        · rw [if_pos c] at e
          have hh : hereC σ = 38 := (hereC_is h (by decide)).mpr c
          obtain ⟨ew, f, t, s22, s21, sT, s20⟩ := mk_st h c.1
          obtain ⟨y, e1, e2⟩ := exSeq_ok e
          have b1 := bd 2 d (σ 143 21 + 1) T _ _ (by decide) (by omega) y e1
          rw [if_neg (fun k => k hh), ew]
          generalize zu σ 143 21 (σ 143 21 + 1) = s1 at f t s22 s21 sT s20
          refine zP'.bind (A2 n d T y s1 t (fun l => (mev_f f l r).trans (he l)) (by rw [sT, s20, s21]; exact e1)) (fun b s p => ?_)
          obtain ⟨pp, p2, p3⟩ := p
          have p1 := pp.1
          have fp := f.trans p1
          have ff := f3.tr ⟨f, s22⟩ pp
          have L1 : s 143 20 = σ 143 20 := fp 143 20 (Or.inr (by decide))
          try dsimp +instances only
          rw [p2, iAnd_bb]
          exact (A4 n w d (fun r => T r && y.1 r) x s (h.f fp (by omega)) (fun l => (mev_f fp l r).trans (he l)) (by rw [mT_f fp, L1, p3]; exact e2)).imp (fun b t q => ⟨f3.tr ff q.1, q.2⟩)
        · rw [if_neg c] at e
          cases e
          have hh : ¬ hereC σ = 38 := fun k => c ((hereC_is h (by decide)).mp k)
          rw [if_pos hh, if_pos (bI_01 _)]
          exact zP'.ret ⟨⟨fr3.refl σ, rfl⟩, rfl, rfl⟩
