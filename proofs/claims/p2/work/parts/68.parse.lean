/-! READING THE TAPE, told once for both sides: numbers and signs -/
def numF (f : Int → Int) (L : Int) : Nat → Int → Int → Int × Int
  | 0, p, v => (v, p)
  | w + 1, p, v => if p < L ∧ 48 ≤ f p ∧ f p ≤ 57 then numF f L w (p + 1) (10 * v + f p - 48) else (v, p)
/-- the class's tape: its length, its place; sound: no fault yet -/
def tpI (σ : zS) : Prop := (0 ≤ σ 120 1 ∧ σ 120 1 ≤ 160) ∧ (0 ≤ σ 120 2 ∧ σ 120 2 ≤ 160) ∧ ∀ j : Int, 0 ≤ j → j < σ 120 1 → 1 ≤ σ 121 j ∧ σ 121 j ≤ 127
def tpH (σ : zS) : Int := if σ 120 2 < σ 120 1 then σ 121 (σ 120 2) else 0
theorem p_here {σ : zS} (h : tpI σ) (hs : σ 120 3 = -1) : g_ta_here σ = some (tpH σ, σ) := by
  obtain ⟨h1, h2, h3⟩ := h
  unfold g_ta_here tpH
  try dsimp +instances only
  rw [if_neg (by omega), if_neg (by omega)]
  by_cases c : σ 120 1 ≤ σ 120 2
  · rw [if_pos c, if_neg (by omega)]
  · rw [if_neg c, if_neg (by omega), if_pos (by omega), if_pos (by omega)]
theorem p_here0 {σ : zS} (hs : σ 120 3 ≠ -1) : g_ta_here σ = some (0, σ) := by
  unfold g_ta_here
  try dsimp +instances only
  rw [if_pos hs]
theorem p_blame {x : Int} {σ : zS} : g_ta_blame x σ = some ((), if σ 120 3 = -1 then zu σ 120 3 x else σ) := by
  unfold g_ta_blame
  try dsimp +instances only
  by_cases c : σ 120 3 = -1
  · rw [if_neg (fun h => h c), if_pos c]
  · rw [if_pos c, if_neg c]
/-- only the place and the fault may change -/
def frTa (σ s : zS) : Prop := ∀ a j, (a ≠ 120 ∨ (j ≠ 2 ∧ j ≠ 3)) → s a j = σ a j
theorem frTa.refl (σ : zS) : frTa σ σ := fun _ _ _ => rfl
theorem frTa.trans {σ s t : zS} (h1 : frTa σ s) (h2 : frTa s t) : frTa σ t := fun a j k => (h2 a j k).trans (h1 a j k)
theorem frTa.u {σ : zS} {i v : Int} (h : i = 2 ∨ i = 3) : frTa σ (zu σ 120 i v) := fun a j k => zu_c (by omega)
theorem p_wants {x : Int} {σ : zS} (h : tpI σ) (hs : σ 120 3 = -1) (hx : 1 ≤ x) : zP' (g_ta_wants x σ) (fun _ s => frTa σ s ∧ (tpH σ = x → s 120 2 = σ 120 2 + 1 ∧ s 120 3 = -1) ∧ (tpH σ ≠ x → s 120 3 = σ 120 2)) := by
  unfold g_ta_wants
  rw [p_here h hs]
  rw [Option.bind_some]
  try dsimp +instances only
  by_cases c : tpH σ ≠ x
  · rw [if_pos c, p_blame, if_pos hs]
    rw [Option.bind_some]
    try dsimp +instances only
    exact zP'.ret ⟨frTa.u (Or.inr rfl), fun e => absurd e c, fun _ => zu_e rfl⟩
  · rw [if_neg c, w32_id (x := σ 120 2 + 1) (by have := h.2.1; omega) (by have := h.2.1; omega)]
    refine zP'.ret ⟨frTa.u (Or.inl rfl), fun _ => ⟨zu_e rfl, (zu_i (by decide)).trans hs⟩, fun e => absurd e c⟩
theorem p_num12 {w lo hi x4 : Int} : ∀ (n k : Nat) (v p : Int) (σ : zS), tpI σ → σ 120 3 = -1 → σ 120 2 = p → (k : Int) ≤ w → w ≤ 9 → 0 ≤ v → v < 1000000000 → (v + 1) * 10 ^ (w.toNat - k) ≤ 1000000000 → zP' (g_ta_number_L12 n w lo hi x4 v (k : Int) σ) (fun r s => frTa σ s ∧ r = (numF (σ 121) (σ 120 1) (w.toNat - k) p v).1 ∧ (((numF (σ 121) (σ 120 1) (w.toNat - k) p v).2 ≠ x4 ∧ lo ≤ r ∧ r ≤ hi → s 120 2 = (numF (σ 121) (σ 120 1) (w.toNat - k) p v).2 ∧ s 120 3 = -1) ∧ (¬ ((numF (σ 121) (σ 120 1) (w.toNat - k) p v).2 ≠ x4 ∧ lo ≤ r ∧ r ≤ hi) → s 120 3 = x4)))
  | 0, _, _, _, _, _, _, _, _, _, _, _, _ => zP'.no
  | n + 1, k, v, p, σ, h, hs, hp, hk, hw, hv, hv2, hb => by
    have fin : numF (σ 121) (σ 120 1) (w.toNat - k) p v = (v, p) → zP' (g_ta_number_L67 lo hi x4 v σ) (fun r s => frTa σ s ∧ r = (numF (σ 121) (σ 120 1) (w.toNat - k) p v).1 ∧ (((numF (σ 121) (σ 120 1) (w.toNat - k) p v).2 ≠ x4 ∧ lo ≤ r ∧ r ≤ hi → s 120 2 = (numF (σ 121) (σ 120 1) (w.toNat - k) p v).2 ∧ s 120 3 = -1) ∧ (¬ ((numF (σ 121) (σ 120 1) (w.toNat - k) p v).2 ≠ x4 ∧ lo ≤ r ∧ r ≤ hi) → s 120 3 = x4))) := fun e => by
      rw [e]
      have bad : ¬ (p ≠ x4 ∧ lo ≤ v ∧ v ≤ hi) → zP' (g_ta_number_L88 x4 v σ) (fun r s => frTa σ s ∧ r = v ∧ ((p ≠ x4 ∧ lo ≤ r ∧ r ≤ hi → s 120 2 = p ∧ s 120 3 = -1) ∧ (¬ (p ≠ x4 ∧ lo ≤ r ∧ r ≤ hi) → s 120 3 = x4))) := fun hn => by
        unfold g_ta_number_L88
        rw [p_blame, if_pos hs]
        rw [Option.bind_some]
        try dsimp +instances only
        exact zP'.ret ⟨frTa.u (Or.inr rfl), rfl, fun e => absurd e hn, fun _ => zu_e rfl⟩
      unfold g_ta_number_L67
      try dsimp +instances only
      rw [hp]
      refine zP'.ite (fun c => bad (fun h => h.1 c)) (fun c => zP'.ite (fun c2 => bad (fun h => by omega)) (fun c2 => zP'.ite (fun c3 => zP'.ret ⟨frTa.refl σ, rfl, fun _ => ⟨hp, hs⟩, fun hn => absurd ⟨c, by omega, c3⟩ hn⟩) (fun c3 => bad (fun h => c3 h.2.2))))
    unfold g_ta_number_L12
    refine zP'.ite (fun c => fin (by rw [show w.toNat - k = 0 by omega]; rfl)) (fun c => ?_)
    obtain ⟨m, hm⟩ : ∃ m, w.toNat - k = m + 1 := ⟨w.toNat - k - 1, by omega⟩
    have hm2 : w.toNat - (k + 1) = m := by omega
    rw [p_here h hs]
    rw [Option.bind_some]
    try dsimp +instances only
    have hstop : ¬ (p < σ 120 1 ∧ 48 ≤ σ 121 p ∧ σ 121 p ≤ 57) → numF (σ 121) (σ 120 1) (w.toNat - k) p v = (v, p) := fun hn => by
      rw [hm]
      exact if_neg hn
    have hH : tpH σ = if p < σ 120 1 then σ 121 p else 0 := by
      unfold tpH
      rw [hp]
    refine zP'.ite (fun c1 => fin (hstop (fun hn => by rw [hH, if_pos hn.1] at c1; omega))) (fun c1 => ?_)
    rw [p_here h hs]
    rw [Option.bind_some]
    try dsimp +instances only
    refine zP'.ite (fun c2 => fin (hstop (fun hn => by rw [hH, if_pos hn.1] at c2; omega))) (fun c2 => ?_)
    rw [p_here h hs]
    rw [Option.bind_some]
    try dsimp +instances only
    have hpl : p < σ 120 1 := by
      by_cases cp : p < σ 120 1
      · exact cp
      · rw [hH, if_neg cp] at c1
        exact absurd c1 (by omega)
    rw [hH, if_pos hpl] at c1 c2 ⊢
    have hstep : numF (σ 121) (σ 120 1) (w.toNat - k) p v = numF (σ 121) (σ 120 1) m (p + 1) (10 * v + σ 121 p - 48) := by
      rw [hm]
      exact if_pos ⟨hpl, by omega, by omega⟩
    have h2 := h.1
    have h3 := h.2.1
    have hpow : (v + 1) * 10 ^ (m + 1) ≤ 1000000000 := by rw [← hm]; exact hb
    have hpow1 : (1 : Int) ≤ 10 ^ m := by
      have : (0 : Int) < 10 ^ m := Int.pow_pos (by decide)
      omega
    have hv10 : (10 * v + 9 + 1) * 10 ^ m ≤ 1000000000 := by
      have e : (10 * v + 9 + 1) * (10 : Int) ^ m = (v + 1) * 10 ^ (m + 1) := by
        rw [Int.pow_succ, Int.mul_comm (10 ^ m) 10, ← Int.mul_assoc]
        congr 1
        omega
      rw [e]
      exact hpow
    have hle : 10 * v + 9 + 1 ≤ (10 * v + 9 + 1) * 10 ^ m := by
      have := Int.mul_le_mul_of_nonneg_left hpow1 (show 0 ≤ 10 * v + 9 + 1 by omega)
      omega
    rw [w32_id (x := v * 10) (by omega) (by omega), w32_id (x := v * 10 + σ 121 p) (by omega) (by omega), w32_id (x := v * 10 + σ 121 p - 48) (by omega) (by omega), w32_id (x := σ 120 2 + 1) (by omega) (by omega), w32_id (x := (k : Int) + 1) (by omega) (by omega), hp, show (k : Int) + 1 = ((k + 1 : Nat) : Int) by omega, show v * 10 + σ 121 p - 48 = 10 * v + σ 121 p - 48 by omega]
    generalize hz : zu σ 120 2 (p + 1) = s1
    have q : ∀ a j, (a ≠ 120 ∨ j ≠ 2) → s1 a j = σ a j := fun a j hh => by rw [← hz]; exact zu_c hh
    have q121 : s1 121 = σ 121 := funext (fun j => q 121 j (Or.inl (by decide)))
    have q1 : s1 120 1 = σ 120 1 := q 120 1 (Or.inr (by decide))
    have q2 : s1 120 2 = p + 1 := by rw [← hz]; exact zu_e rfl
    have hmul : (10 * v + σ 121 p - 48 + 1) * 10 ^ m ≤ 1000000000 := Int.le_trans (Int.mul_le_mul_of_nonneg_right (show 10 * v + σ 121 p - 48 + 1 ≤ 10 * v + 9 + 1 by omega) (by omega)) hv10
    have IH := p_num12 (w := w) (lo := lo) (hi := hi) (x4 := x4) n (k + 1) (10 * v + σ 121 p - 48) (p + 1) s1 ⟨by rw [q1]; exact h2, by rw [q2]; omega, by rw [q1, q121]; exact h.2.2⟩ (by rw [q 120 3 (Or.inr (by decide))]; exact hs) q2 (by omega) hw (by omega) (by omega) (by rw [hm2]; exact hmul)
    rw [hm2, q121, q1, ← hstep] at IH
    exact IH.imp (fun r s pp => ⟨fun a j kk => (pp.1 a j kk).trans (q a j (by omega)), pp.2⟩)
theorem p_number {w lo hi : Int} {σ : zS} (h : tpI σ) (hs : σ 120 3 = -1) (hw : 0 ≤ w ∧ w ≤ 9) : zP' (g_ta_number w lo hi σ) (fun r s => frTa σ s ∧ r = (numF (σ 121) (σ 120 1) w.toNat (σ 120 2) 0).1 ∧ (((numF (σ 121) (σ 120 1) w.toNat (σ 120 2) 0).2 ≠ σ 120 2 ∧ lo ≤ r ∧ r ≤ hi → s 120 2 = (numF (σ 121) (σ 120 1) w.toNat (σ 120 2) 0).2 ∧ s 120 3 = -1) ∧ (¬ ((numF (σ 121) (σ 120 1) w.toNat (σ 120 2) 0).2 ≠ σ 120 2 ∧ lo ≤ r ∧ r ≤ hi) → s 120 3 = σ 120 2))) := by
  have hp : ∀ w : Fin 10, ((0 : Int) + 1) * 10 ^ (w.val - 0) ≤ 1000000000 := by decide
  have hp := hp ⟨w.toNat, by omega⟩
  exact p_num12 zK 0 0 (σ 120 2) σ h hs rfl (by omega) hw.2 (by omega) (by omega) hp
/-! the reference -/
theorem t_num84 {lo hi x : Int} {σ : zS} (hs : σ 143 22 < 0) : ∃ b s, g_m_isNumber_L84 lo hi x σ = some (b, s) ∧ fr3 σ s ∧ (lo ≤ σ 143 23 ∧ σ 143 23 ≤ hi → b = 1 ∧ s = σ) ∧ (¬ (lo ≤ σ 143 23 ∧ σ 143 23 ≤ hi) → b = 0 ∧ s 143 22 = x) := by
  unfold g_m_isNumber_L84
  try dsimp +instances only
  by_cases c : lo ≤ σ 143 23 ∧ σ 143 23 ≤ hi
  · rw [s_isIn_t c.1 c.2]
    rw [Option.bind_some]
    try dsimp +instances only
    rw [if_pos (by decide)]
    exact ⟨1, σ, rfl, fr3.refl σ, fun _ => ⟨rfl, rfl⟩, fun h => absurd c h⟩
  · rw [s_isIn_f (by omega)]
    rw [Option.bind_some]
    try dsimp +instances only
    rw [if_neg (by decide)]
    unfold g_m_fails
    try dsimp +instances only
    rw [if_neg (by omega)]
    rw [Option.bind_some]
    try dsimp +instances only
    rw [if_pos rfl]
    exact ⟨0, _, rfl, fr3.u (by omega), fun h => absurd h c, fun _ => ⟨rfl, zu_e rfl⟩⟩
theorem t_num33 {w lo hi x : Int} (hw : w ≤ 9) : ∀ (d k n : Nat) (v p : Int) (σ : zS), w.toNat = k + d → d < n → pI σ → σ 143 22 < 0 → σ 143 21 = p → σ 143 23 = v → 0 ≤ v → (v + 1) * 10 ^ d ≤ 1000000000 → (∀ j : Int, 0 ≤ j → j < σ 143 20 → 1 ≤ σ 159 j ∧ σ 159 j ≤ 127) → ∃ b s, g_m_isNumber_L33 n w lo hi x (k : Int) σ = some (b, s) ∧ fr3 σ s ∧ (lo ≤ (numF (σ 159) (σ 143 20) d p v).1 ∧ (numF (σ 159) (σ 143 20) d p v).1 ≤ hi → b = 1 ∧ s 143 21 = (numF (σ 159) (σ 143 20) d p v).2 ∧ s 143 23 = (numF (σ 159) (σ 143 20) d p v).1 ∧ s 143 22 = σ 143 22) ∧ (¬ (lo ≤ (numF (σ 159) (σ 143 20) d p v).1 ∧ (numF (σ 159) (σ 143 20) d p v).1 ≤ hi) → b = 0 ∧ s 143 22 = x)
  | _, _, 0, _, _, _, _, h, _, _, _, _, _, _, _ => absurd h (Nat.not_lt_zero _)
  | d, k, n + 1, v, p, σ, hk, hn, hI, hs, hp, hv, hv0, hb, hbt => by
    have fin : numF (σ 159) (σ 143 20) d p v = (v, p) → ∃ b s, g_m_isNumber_L84 lo hi x σ = some (b, s) ∧ fr3 σ s ∧ (lo ≤ (numF (σ 159) (σ 143 20) d p v).1 ∧ (numF (σ 159) (σ 143 20) d p v).1 ≤ hi → b = 1 ∧ s 143 21 = (numF (σ 159) (σ 143 20) d p v).2 ∧ s 143 23 = (numF (σ 159) (σ 143 20) d p v).1 ∧ s 143 22 = σ 143 22) ∧ (¬ (lo ≤ (numF (σ 159) (σ 143 20) d p v).1 ∧ (numF (σ 159) (σ 143 20) d p v).1 ≤ hi) → b = 0 ∧ s 143 22 = x) := fun e => by
      rw [e]
      obtain ⟨b, s, g1, g2, g3, g4⟩ := t_num84 (lo := lo) (hi := hi) (x := x) hs
      rw [hv] at g3 g4
      refine ⟨b, s, g1, g2, fun c => ?_, g4⟩
      obtain ⟨e1, e2⟩ := g3 c
      rw [e2]
      exact ⟨e1, hp, hv, rfl⟩
    unfold g_m_isNumber_L33
    by_cases c : w ≤ (k : Int)
    · rw [if_pos c]
      exact fin (by rw [show d = 0 by omega]; rfl)
    · rw [if_neg c]
      obtain ⟨m, rfl⟩ : ∃ m, d = m + 1 := ⟨d - 1, by omega⟩
      rw [s_here hI]
      rw [Option.bind_some]
      try dsimp +instances only
      rw [s_isFigure]
      rw [Option.bind_some]
      try dsimp +instances only
      have hH : hereC σ = if σ 143 20 ≤ p then -1 else σ 159 p := by
        unfold hereC
        rw [hp]
      by_cases cf : p < σ 143 20 ∧ 48 ≤ σ 159 p ∧ σ 159 p ≤ 57
      · have hh : hereC σ = σ 159 p := by rw [hH, if_neg (by omega)]
        rw [hh, if_pos cf.2, if_neg (by decide), s_here hI, hh]
        rw [Option.bind_some]
        try dsimp +instances only
        have hstep : numF (σ 159) (σ 143 20) (m + 1) p v = numF (σ 159) (σ 143 20) m (p + 1) (10 * v + σ 159 p - 48) := if_pos cf
        have hpow1 : (1 : Int) ≤ 10 ^ m := by
          have : (0 : Int) < 10 ^ m := Int.pow_pos (by decide)
          omega
        have hv10 : (10 * v + 9 + 1) * 10 ^ m ≤ 1000000000 := by
          have e : (10 * v + 9 + 1) * (10 : Int) ^ m = (v + 1) * 10 ^ (m + 1) := by
            rw [Int.pow_succ, Int.mul_comm (10 ^ m) 10, ← Int.mul_assoc]
            congr 1
            omega
          rw [e]
          exact hb
        have hle : 10 * v + 9 + 1 ≤ (10 * v + 9 + 1) * 10 ^ m := by
          have := Int.mul_le_mul_of_nonneg_left hpow1 (show 0 ≤ 10 * v + 9 + 1 by omega)
          omega
        have hI' := hI
        unfold pI at hI'
        rw [hv, w32_id (x := 10 * v) (by omega) (by omega), w32_id (x := 10 * v + σ 159 p) (by omega) (by omega), w32_id (x := 10 * v + σ 159 p - 48) (by omega) (by omega), zu_i (by decide), hp, w32_id (x := p + 1) (by omega) (by omega), w32_id (x := (k : Int) + 1) (by omega) (by omega), show (k : Int) + 1 = ((k + 1 : Nat) : Int) by omega]
        generalize hz : zu (zu σ 143 23 (10 * v + σ 159 p - 48)) 143 21 (p + 1) = s1
        have q : ∀ a j, (a ≠ 143 ∨ (j ≠ 21 ∧ j ≠ 23)) → s1 a j = σ a j := fun a j hh => by rw [← hz, zu_c (by omega), zu_c (by omega)]
        have q159 : s1 159 = σ 159 := funext (fun j => q 159 j (Or.inl (by decide)))
        have q20 : s1 143 20 = σ 143 20 := q 143 20 (Or.inr (by decide))
        have q22 : s1 143 22 = σ 143 22 := q 143 22 (Or.inr (by decide))
        have q21 : s1 143 21 = p + 1 := by rw [← hz]; exact zu_e rfl
        have q23 : s1 143 23 = 10 * v + σ 159 p - 48 := by rw [← hz, zu_i (by decide)]; exact zu_e rfl
        have hmul : (10 * v + σ 159 p - 48 + 1) * 10 ^ m ≤ 1000000000 := Int.le_trans (Int.mul_le_mul_of_nonneg_right (show 10 * v + σ 159 p - 48 + 1 ≤ 10 * v + 9 + 1 by omega) (by omega)) hv10
        obtain ⟨b, s, g1, g2, g3, g4⟩ := t_num33 (w := w) (lo := lo) (hi := hi) (x := x) hw m (k + 1) n (10 * v + σ 159 p - 48) (p + 1) s1 (by omega) (by omega) (by unfold pI; rw [q20, q21]; omega) (by rw [q22]; exact hs) q21 q23 (by omega) hmul (by rw [q20, q159]; exact hbt)
        rw [q159, q20, ← hstep, q22] at g3
        rw [q159, q20, ← hstep] at g4
        exact ⟨b, s, g1, fun a j kk => (g2 a j kk).trans (q a j (by omega)), g3, g4⟩
      · have hn : ¬ (48 ≤ hereC σ ∧ hereC σ ≤ 57) := fun h => by
          rw [hH] at h
          by_cases cp : σ 143 20 ≤ p
          · rw [if_pos cp] at h
            exact absurd h (by omega)
          · rw [if_neg cp] at h
            exact cf ⟨by omega, h⟩
        rw [if_neg hn, if_pos rfl]
        exact fin (if_neg cf)
/-! behind a fault the class reads nothing more -/
theorem p_blame0 {x : Int} {σ : zS} (hs : σ 120 3 ≠ -1) : g_ta_blame x σ = some ((), σ) := by
  rw [p_blame, if_neg hs]
theorem p_wants0 {x : Int} {σ : zS} (hs : σ 120 3 ≠ -1) (hx : x ≠ 0) : g_ta_wants x σ = some ((), σ) := by
  unfold g_ta_wants
  rw [p_here0 hs]
  rw [Option.bind_some]
  try dsimp +instances only
  rw [if_pos (Ne.symm hx), p_blame0 hs]
  rfl
theorem p_takes0 {x : Int} {σ : zS} (hs : σ 120 3 ≠ -1) (hx : x ≠ 0) : g_ta_takes x σ = some (0, σ) := by
  unfold g_ta_takes
  rw [p_here0 hs]
  rw [Option.bind_some]
  try dsimp +instances only
  rw [if_neg (Ne.symm hx)]
theorem p_another0 {x : Int} {σ : zS} (hs : σ 120 3 ≠ -1) : g_ta_another x σ = some (0, σ) := by
  have e : g_ta_another_L15 σ = some (0, σ) := by
    unfold g_ta_another_L15
    rw [p_here0 hs]
    rw [Option.bind_some]
    try dsimp +instances only
    rw [if_pos rfl]
  unfold g_ta_another
  by_cases c : x = 0
  · rw [if_pos c]; exact e
  · rw [if_neg c, p_takes0 hs (by decide)]
    rw [Option.bind_some]
    try dsimp +instances only
    rw [if_pos rfl]
    exact e
theorem p_number0 {w lo hi : Int} {σ : zS} (hs : σ 120 3 ≠ -1) (hw : 0 < w) : zP' (g_ta_number w lo hi σ) (fun _ s => s = σ) := by
  have e : ∀ v, g_ta_number_L67 lo hi (σ 120 2) v σ = some (v, σ) := fun v => by
    unfold g_ta_number_L67 g_ta_number_L88
    try dsimp +instances only
    rw [if_pos rfl, p_blame0 hs]
    rfl
  unfold g_ta_number
  show zP' (g_ta_number_L12 (999999 + 1) w lo hi (σ 120 2) 0 0 σ) _
  unfold g_ta_number_L12
  rw [if_neg (by omega), p_here0 hs]
  rw [Option.bind_some]
  try dsimp +instances only
  rw [if_pos (by decide), e]
  exact zP'.ret rfl
/-! the reference's number and sign, from their heads -/
theorem numF_le {f : Int → Int} {L : Int} : ∀ (w : Nat) (p v : Int), p ≤ (numF f L w p v).2
  | 0, p, v => Int.le_refl p
  | w + 1, p, v => by
    show p ≤ (if p < L ∧ 48 ≤ f p ∧ f p ≤ 57 then numF f L w (p + 1) (10 * v + f p - 48) else (v, p)).2
    split
    · have := numF_le (f := f) (L := L) w (p + 1) (10 * v + f p - 48)
      omega
    · exact Int.le_refl p
def tpR (σ : zS) : Prop := ∀ j : Int, 0 ≤ j → j < σ 143 20 → 1 ≤ σ 159 j ∧ σ 159 j ≤ 127
theorem t_number {w lo hi : Int} {σ : zS} (hI : pI σ) (hs : σ 143 22 < 0) (hw : 1 ≤ w ∧ w ≤ 9) (hbt : tpR σ) : ∃ b s, g_m_isNumber w lo hi σ = some (b, s) ∧ fr3 σ s ∧ ((numF (σ 159) (σ 143 20) w.toNat (σ 143 21) 0).2 ≠ σ 143 21 ∧ lo ≤ (numF (σ 159) (σ 143 20) w.toNat (σ 143 21) 0).1 ∧ (numF (σ 159) (σ 143 20) w.toNat (σ 143 21) 0).1 ≤ hi → b = 1 ∧ s 143 21 = (numF (σ 159) (σ 143 20) w.toNat (σ 143 21) 0).2 ∧ s 143 23 = (numF (σ 159) (σ 143 20) w.toNat (σ 143 21) 0).1 ∧ s 143 22 = σ 143 22) ∧ (¬ ((numF (σ 159) (σ 143 20) w.toNat (σ 143 21) 0).2 ≠ σ 143 21 ∧ lo ≤ (numF (σ 159) (σ 143 20) w.toNat (σ 143 21) 0).1 ∧ (numF (σ 159) (σ 143 20) w.toNat (σ 143 21) 0).1 ≤ hi) → b = 0 ∧ s 143 22 = σ 143 21) := by
  obtain ⟨m, hm⟩ : ∃ m, w.toNat = m + 1 := ⟨w.toNat - 1, by omega⟩
  generalize hz : zu σ 143 23 0 = s1
  have q : ∀ a j, (a ≠ 143 ∨ j ≠ 23) → s1 a j = σ a j := fun a j hh => by rw [← hz]; exact zu_c hh
  have q159 : s1 159 = σ 159 := funext (fun j => q 159 j (Or.inl (by decide)))
  have q20 : s1 143 20 = σ 143 20 := q 143 20 (Or.inr (by decide))
  have q21 : s1 143 21 = σ 143 21 := q 143 21 (Or.inr (by decide))
  have q22 : s1 143 22 = σ 143 22 := q 143 22 (Or.inr (by decide))
  have hI1 : pI s1 := by
    unfold pI at hI ⊢
    rw [q20, q21]
    exact hI
  have f1 : fr3 σ s1 := fun a j k => q a j (by omega)
  unfold g_m_isNumber
  try dsimp +instances only
  rw [hz, s_here hI1]
  rw [Option.bind_some]
  try dsimp +instances only
  rw [s_isFigure]
  rw [Option.bind_some]
  try dsimp +instances only
  have hH : hereC s1 = if σ 143 20 ≤ σ 143 21 then -1 else σ 159 (σ 143 21) := by
    unfold hereC
    rw [q20, q21, q159]
  by_cases cf : σ 143 21 < σ 143 20 ∧ 48 ≤ σ 159 (σ 143 21) ∧ σ 159 (σ 143 21) ≤ 57
  · have hh : hereC s1 = σ 159 (σ 143 21) := by rw [hH, if_neg (by omega)]
    rw [hh, if_pos cf.2, if_pos (by decide)]
    have hp : ∀ w : Fin 10, ((0 : Int) + 1) * 10 ^ w.val ≤ 1000000000 := by decide
    obtain ⟨b, s, g1, g2, g3, g4⟩ := t_num33 (w := w) (lo := lo) (hi := hi) (x := σ 143 21) hw.2 w.toNat 0 zK 0 (σ 143 21) s1 (by omega) (by show _ < 1000000; omega) hI1 (by rw [q22]; exact hs) q21 (by rw [← hz]; exact zu_e rfl) (by omega) (hp ⟨w.toNat, by omega⟩) (by rw [q20, q159]; exact hbt)
    rw [q159, q20, q22] at g3
    rw [q159, q20] at g4
    have hne : (numF (σ 159) (σ 143 20) w.toNat (σ 143 21) 0).2 ≠ σ 143 21 := by
      rw [hm]
      have e : numF (σ 159) (σ 143 20) (m + 1) (σ 143 21) 0 = numF (σ 159) (σ 143 20) m (σ 143 21 + 1) (10 * 0 + σ 159 (σ 143 21) - 48) := if_pos cf
      rw [e]
      have := numF_le (f := σ 159) (L := σ 143 20) m (σ 143 21 + 1) (10 * 0 + σ 159 (σ 143 21) - 48)
      omega
    exact ⟨b, s, g1, f1.trans g2, fun h => g3 h.2, fun h => g4 (fun h2 => h ⟨hne, h2⟩)⟩
  · have hn : ¬ (48 ≤ hereC s1 ∧ hereC s1 ≤ 57) := fun h => by
      rw [hH] at h
      by_cases cp : σ 143 20 ≤ σ 143 21
      · rw [if_pos cp] at h
        exact absurd h (by omega)
      · rw [if_neg cp] at h
        exact cf ⟨by omega, h⟩
    have e : numF (σ 159) (σ 143 20) w.toNat (σ 143 21) 0 = (0, σ 143 21) := by
      rw [hm]
      exact if_neg cf
    rw [if_neg hn, if_neg (by decide), e]
    unfold g_m_fails
    try dsimp +instances only
    rw [q22, if_neg (by omega)]
    rw [Option.bind_some]
    try dsimp +instances only
    rw [if_pos (Or.inl rfl), q21]
    exact ⟨0, _, rfl, f1.trans (fr3.u (by omega)), fun h => absurd rfl h.1, fun _ => ⟨rfl, zu_e rfl⟩⟩
theorem t_isSign {x : Int} {σ : zS} (hI : pI σ) (hs : σ 143 22 < 0) (hx : 1 ≤ x) : ∃ b s, g_m_isSign x σ = some (b, s) ∧ fr3 σ s ∧ (hereC σ = x → b = 1 ∧ s 143 21 = σ 143 21 + 1 ∧ s 143 22 = σ 143 22) ∧ (hereC σ ≠ x → b = 0 ∧ s 143 22 = σ 143 21) := by
  unfold g_m_isSign
  rw [s_here hI]
  rw [Option.bind_some]
  try dsimp +instances only
  by_cases c : hereC σ = x
  · have hp := hereC_lt c (by omega)
    have hI' := hI
    unfold pI at hI'
    rw [if_pos c, w32_id (x := σ 143 21 + 1) (by omega) (by omega)]
    exact ⟨1, _, rfl, fr3.u (by omega), fun _ => ⟨rfl, zu_e rfl, zu_i (by decide)⟩, fun h => absurd c h⟩
  · rw [if_neg c]
    unfold g_m_fails
    try dsimp +instances only
    rw [if_neg (by omega)]
    rw [Option.bind_some]
    try dsimp +instances only
    rw [if_pos (Or.inl rfl)]
    exact ⟨0, _, rfl, fr3.u (by omega), fun h => absurd h c, fun _ => ⟨rfl, zu_e rfl⟩⟩
theorem p_takes {x : Int} {σ : zS} (h : tpI σ) (hs : σ 120 3 = -1) (hx : 1 ≤ x) : g_ta_takes x σ = some (if tpH σ = x then 1 else 0, if tpH σ = x then zu σ 120 2 (σ 120 2 + 1) else σ) := by
  unfold g_ta_takes
  rw [p_here h hs]
  rw [Option.bind_some]
  try dsimp +instances only
  by_cases c : tpH σ = x
  · rw [if_pos c, if_pos c, if_pos c, w32_id (x := σ 120 2 + 1) (by have := h.2.1; omega) (by have := h.2.1; omega)]
  · rw [if_neg c, if_neg c, if_neg c]
