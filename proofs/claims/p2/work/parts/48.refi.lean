/-! THE REFERENCE over the typed memory: words; the settings' line -/
def charC (a : Nat) (j : Int) : Int := w16 (iAnd (zs0 (a + 18) j) 255)
def spC (a : Nat) : Nat → Nat
  | 0 => 0
  | n + 1 => spC a n + if charC a (n : Int) = 32 then 1 else 0
theorem spC_mono {a n : Nat} : ∀ d : Nat, spC a n ≤ spC a (n + d)
  | 0 => Nat.le_refl _
  | d + 1 => Nat.le_trans (spC_mono d) (Nat.le_add_right _ _)
theorem s_charAt {a : Nat} {j : Int} {σ : zS} (h : 0 ≤ j ∧ j < zLI (a + 18)) : g_jString_charAt a j σ = some (charC a j, σ) := by
  have e : g_jString_isLatin1 a σ = some (1, σ) := by
    unfold g_jString_isLatin1
    rw [if_neg (by decide), if_neg (by decide)]
  have q : 0 ≤ charC a j ∧ charC a j < 65536 := by
    unfold charC w16
    omega
  have e2 : g_jStringLatin1_charAt (a + 18) j σ = some (charC a j, σ) := by
    unfold g_jStringLatin1_charAt
    rw [if_pos h, if_pos h]
    exact if_pos q
  unfold g_jString_charAt
  rw [e]
  rw [Option.bind_some]
  try dsimp only
  rw [if_neg (by decide), e2]
  rw [Option.bind_some]
  try dsimp only
  exact if_pos q
theorem s_length {a : Nat} {σ : zS} (h : iShr (zLI (a + 18)) 0 = zLI (a + 18)) : g_jString_length a σ = some (zLI (a + 18), σ) := by
  have e : g_jString_coder a σ = some (0, σ) := by
    unfold g_jString_coder
    rw [if_neg (by decide)]
  unfold g_jString_length
  rw [e]
  rw [Option.bind_some]
  try dsimp only
  rw [h]
theorem s_wordEnd5 {σ : zS} (h : pI σ) : ∀ (d k n : Nat), (k : Int) + d = 160 → d < n → ∃ e, g_m_wordEnd_L5 n (k : Int) σ = some (e, σ) ∧ (k : Int) ≤ e ∧ (e ≤ (k : Int) ∨ e ≤ σ 143 20)
  | _, _, 0, _, h => absurd h (Nat.not_lt_zero _)
  | 0, k, n + 1, hk, _ => by
    unfold pI at h
    unfold g_m_wordEnd_L5
    refine ⟨(k : Int), if_pos ?_, by omega, by omega⟩
    show σ 143 20 ≤ (k : Int)
    omega
  | d + 1, k, n + 1, hk, hn => by
    have hh := h
    unfold pI at hh
    unfold g_m_wordEnd_L5
    by_cases c : σ 143 20 ≤ (k : Int)
    · exact ⟨(k : Int), if_pos c, by omega, by omega⟩
    · show ∃ e, (if σ 143 20 ≤ (k : Int) then _ else _) = _ ∧ _
      rw [if_neg c, if_pos (by omega)]
      dsimp only
      by_cases c2 : 97 ≤ σ 159 (k : Int) ∧ σ 159 (k : Int) ≤ 122
      · rw [s_isIn_t c2.1 c2.2]
        rw [Option.bind_some]
        try dsimp only
        rw [if_neg (by decide), w32_id (x := (k : Int) + 1) (by omega) (by omega)]
        obtain ⟨e, e1, e2, e3⟩ := s_wordEnd5 h d (k + 1) n (by omega) (by omega)
        rw [show ((k + 1 : Nat) : Int) = (k : Int) + 1 by omega] at e1
        exact ⟨e, e1, by omega, by omega⟩
      · rw [s_isIn_f (by omega)]
        rw [Option.bind_some]
        try dsimp only
        rw [if_pos rfl]
        exact ⟨(k : Int), rfl, by omega, by omega⟩
theorem s_wordEnd {σ : zS} (h : pI σ) (h2 : σ 143 21 ≤ 160) : ∃ e, g_m_wordEnd σ = some (e, σ) ∧ σ 143 21 ≤ e ∧ (e ≤ σ 143 21 ∨ e ≤ σ 143 20) := by
  have hh := h
  unfold pI at hh
  obtain ⟨k, hk⟩ : ∃ k : Nat, σ 143 21 = (k : Int) := ⟨(σ 143 21).toNat, by omega⟩
  unfold g_m_wordEnd
  rw [hk]
  exact s_wordEnd5 h (160 - k) k zK (by omega) (by show _ < 1000000; omega)
theorem s_word22 {a L : Nat} {g : Int → Int → Int → zS → Option (Int × zS)} {x2 x3 : Int} {x4 : Nat} {σ : zS} (hL : zLI (a + 18) = (L : Int)) (hl : iShr (zLI (a + 18)) 0 = zLI (a + 18)) (hL2 : L ≤ 100) : ∀ (d k n : Nat), x4 + k + d = L → d < n → ∃ k' : Nat, g_m_word_L22 a g n x2 x3 (x4 : Int) (k : Int) σ = g_m_word_L54 a g x2 x3 (x4 : Int) (k' : Int) σ ∧ k ≤ k' ∧ x4 + k' ≤ L ∧ (x4 + k' = L ∨ charC a ((x4 + k' : Nat) : Int) = 32)
  | _, _, 0, _, h => absurd h (Nat.not_lt_zero _)
  | 0, k, n + 1, hk, _ => by
    refine ⟨k, ?_, Nat.le_refl _, by omega, Or.inl (by omega)⟩
    unfold g_m_word_L22
    rw [s_length hl]
    rw [Option.bind_some]
    try dsimp only
    rw [hL, w32_id (x := (x4 : Int) + (k : Int)) (by omega) (by omega), if_pos (by omega)]
  | d + 1, k, n + 1, hk, hn => by
    unfold g_m_word_L22
    rw [s_length hl]
    rw [Option.bind_some]
    try dsimp only
    rw [w32_id (x := (x4 : Int) + (k : Int)) (by omega) (by omega), if_neg (by omega), s_charAt (by omega)]
    rw [Option.bind_some]
    try dsimp only
    by_cases c : charC a ((x4 : Int) + (k : Int)) = 32
    · rw [if_pos c]
      exact ⟨k, rfl, Nat.le_refl _, by omega, Or.inr (by rw [show ((x4 + k : Nat) : Int) = (x4 : Int) + (k : Int) by omega]; exact c)⟩
    · rw [if_neg c, w32_id (x := (k : Int) + 1) (by omega) (by omega)]
      obtain ⟨k', e1, e2, e3, e4⟩ := s_word22 (g := g) (x2 := x2) (x3 := x3) (x4 := x4) (σ := σ) hL hl hL2 d (k + 1) n (by omega) (by omega)
      rw [show ((k + 1 : Nat) : Int) = (k : Int) + 1 by omega] at e1
      exact ⟨k', e1, by omega, e3, e4⟩
theorem s_word75 {a L : Nat} {g : Int → Int → Int → zS → Option (Int × zS)} {x2 x3 : Int} {x4 x5 : Nat} {σ : zS} (hL : zLI (a + 18) = (L : Int)) (hL2 : L ≤ 100) (h4 : x4 + x5 ≤ L) (h : pI σ) (h5 : σ 143 21 ≤ 160) (hx3 : 0 ≤ x3 ∧ x3 ≤ 1000) : ∀ (d k n : Nat) (f : Int), k + d = x5 → d < n → (f = 0 ∨ σ 143 21 + (x5 : Int) ≤ 160) → g_m_word_L75 a g n x2 x3 (x4 : Int) (x5 : Int) f (k : Int) σ = g x2 (x3 + 1) ((x4 + x5 + 1 : Nat) : Int) σ ∨ g_m_word_L75 a g n x2 x3 (x4 : Int) (x5 : Int) f (k : Int) σ = some (x3, zu σ 143 21 x2)
  | _, _, 0, _, _, h, _ => absurd h (Nat.not_lt_zero _)
  | d, k, n + 1, f, hk, hn, hf => by
    have hh := h
    unfold pI at hh
    have l124 : g_m_word_L124 a g x2 x3 (x4 : Int) (x5 : Int) f σ = g x2 (x3 + 1) ((x4 + x5 + 1 : Nat) : Int) σ ∨ g_m_word_L124 a g x2 x3 (x4 : Int) (x5 : Int) f σ = some (x3, zu σ 143 21 x2) := by
      unfold g_m_word_L124
      by_cases c : f = 0
      · rw [if_pos c, w32_id (x := x3 + 1) (by omega) (by omega), w32_id (x := (x5 : Int) + 1) (by omega) (by omega), w32_id (x := (x4 : Int) + ((x5 : Int) + 1)) (by omega) (by omega), show (x4 : Int) + ((x5 : Int) + 1) = ((x4 + x5 + 1 : Nat) : Int) by omega]
        exact Or.inl rfl
      · rw [if_neg c]
        exact Or.inr rfl
    unfold g_m_word_L75
    by_cases c : (x5 : Int) ≤ (k : Int)
    · rw [if_pos c]; exact l124
    · rw [if_neg c]
      by_cases c2 : f = 0
      · rw [if_pos c2]; exact l124
      · rw [if_neg c2, w32_id (x := (x4 : Int) + (k : Int)) (by omega) (by omega), s_charAt (by omega)]
        rw [Option.bind_some]
        try dsimp only
        rw [w32_id (x := σ 143 21 + (k : Int)) (by omega) (by omega), if_pos (by omega)]
        cases d with
        | zero => omega
        | succ d =>
          split
          · unfold g_m_word_L116
            rw [w32_id (x := (k : Int) + 1) (by omega) (by omega), show (k : Int) + 1 = ((k + 1 : Nat) : Int) by omega]
            exact s_word75 hL hL2 h4 h h5 hx3 d (k + 1) n 0 (by omega) (by omega) (Or.inl rfl)
          · unfold g_m_word_L116
            rw [w32_id (x := (k : Int) + 1) (by omega) (by omega), show (k : Int) + 1 = ((k + 1 : Nat) : Int) by omega]
            exact s_word75 hL hL2 h4 h h5 hx3 d (k + 1) n 1 (by omega) (by omega) (by omega)
theorem s_word54 {a L : Nat} {g : Int → Int → Int → zS → Option (Int × zS)} {x2 x3 : Int} {x4 x5 : Nat} {σ : zS} (hL : zLI (a + 18) = (L : Int)) (hL2 : L ≤ 100) (h4 : x4 + x5 ≤ L) (h : pI σ) (h5 : σ 143 21 ≤ 160) (hx3 : 0 ≤ x3 ∧ x3 ≤ 1000) (hx2 : σ 143 21 ≤ x2) (hx2b : x2 ≤ 160) : g_m_word_L54 a g x2 x3 (x4 : Int) (x5 : Int) σ = g x2 (x3 + 1) ((x4 + x5 + 1 : Nat) : Int) σ ∨ g_m_word_L54 a g x2 x3 (x4 : Int) (x5 : Int) σ = some (x3, zu σ 143 21 x2) := by
  have hh := h
  unfold pI at hh
  unfold g_m_word_L54
  dsimp only
  rw [w32_id (x := x2 - σ 143 21) (by omega) (by omega)]
  unfold g_m_word_L70
  by_cases c : (x5 : Int) ≠ x2 - σ 143 21
  · rw [if_pos c]
    exact s_word75 hL hL2 h4 h h5 hx3 x5 0 zK 0 (by omega) (by show _ < 1000000; omega) (Or.inl rfl)
  · rw [if_neg c]
    exact s_word75 hL hL2 h4 h h5 hx3 x5 0 zK 1 (by omega) (by show _ < 1000000; omega) (by omega)
theorem s_word10 {a L : Nat} {x2 : Int} {σ : zS} (hL : zLI (a + 18) = (L : Int)) (hl : iShr (zLI (a + 18)) 0 = zLI (a + 18)) (hL2 : L ≤ 100) (h : pI σ) (h5 : σ 143 21 ≤ 160) (hx2 : σ 143 21 ≤ x2) (hx2b : x2 ≤ 160) (hx2c : x2 ≤ σ 143 21 ∨ x2 ≤ σ 143 20) : ∀ (d x4 n : Nat) (x3 : Nat), L ≤ x4 + d → x4 ≤ L + 1 → d < n → (x4 ≤ L → x3 ≤ spC a x4) → x3 ≤ x4 → ∃ v s, g_m_word_L10 a n x2 (x3 : Int) (x4 : Int) σ = some (v, s) ∧ fr3 σ s ∧ pO σ s (if v < 0 then 0 else 1) ∧ -1 ≤ v ∧ v ≤ (spC a L : Int)
  | _, _, 0, _, _, _, h, _, _ => absurd h (Nat.not_lt_zero _)
  | d, x4, n + 1, x3, hd, h4, hn, hs, h34 => by
    have hh := h
    unfold pI at hh
    unfold g_m_word_L10
    rw [s_length hl]
    rw [Option.bind_some]
    try dsimp only
    by_cases c : zLI (a + 18) ≤ (x4 : Int)
    · rw [if_pos c]
      obtain ⟨s, e1, e2, e3⟩ := s_failsO h
      rw [e1]
      rw [Option.bind_some]
      try dsimp only
      exact ⟨-1, s, rfl, e3, e2, by omega, by omega⟩
    · rw [if_neg c]
      obtain ⟨k', e1, e2, e3, e4⟩ := s_word22 (g := g_m_word_L10 a n) (x2 := x2) (x3 := (x3 : Int)) (x4 := x4) (σ := σ) hL hl hL2 (L - x4) 0 zK (by omega) (by show _ < 1000000; omega)
      rw [show ((0 : Nat) : Int) = 0 from rfl] at e1
      rw [e1]
      rcases s_word54 (a := a) (L := L) (g := g_m_word_L10 a n) (x2 := x2) (x3 := (x3 : Int)) (x4 := x4) (x5 := k') (σ := σ) hL hL2 e3 h h5 (by omega) hx2 hx2b with e5 | e5
      · cases d with
        | zero => omega
        | succ d =>
          rw [e5, show (x3 : Int) + 1 = ((x3 + 1 : Nat) : Int) by omega]
          refine s_word10 hL hl hL2 h h5 hx2 hx2b hx2c d (x4 + k' + 1) n (x3 + 1) (by omega) (by omega) (by omega) (fun hq => ?_) (by omega)
          have q1 := hs (by omega)
          have q2 := spC_mono (a := a) (n := x4) k'
          show x3 + 1 ≤ spC a (x4 + k') + (if charC a ((x4 + k' : Nat) : Int) = 32 then 1 else 0)
          rw [if_pos (by rcases e4 with e4 | e4; · omega
                         · exact e4)]
          omega
      · rw [e5]
        refine ⟨(x3 : Int), _, rfl, fr3.u (by omega), ?_, by omega, ?_⟩
        · rw [if_neg (by omega)]
          unfold pO
          rw [zu_i (by omega), zu_e rfl, zu_i (by omega)]
          omega
        · have q1 := hs (by omega)
          have q2 := spC_mono (a := a) (n := x4) (L - x4)
          rw [show x4 + (L - x4) = L by omega] at q2
          omega
theorem s_word {a L : Nat} {σ : zS} (hL : zLI (a + 18) = (L : Int)) (hl : iShr (zLI (a + 18)) 0 = zLI (a + 18)) (hL2 : L ≤ 100) (h : pI σ) (h5 : σ 143 21 ≤ 160) : ∃ v s, g_m_word a σ = some (v, s) ∧ fr3 σ s ∧ pO σ s (if v < 0 then 0 else 1) ∧ -1 ≤ v ∧ v ≤ (spC a L : Int) := by
  have hh := h
  unfold pI at hh
  unfold g_m_word
  obtain ⟨e, e1, e2, e3⟩ := s_wordEnd h h5
  rw [e1]
  rw [Option.bind_some]
  try dsimp only
  exact s_word10 hL hl hL2 h h5 e2 (by omega) e3 L 0 zK 0 (by omega) (by omega) (by show _ < 1000000; omega) (fun _ => Nat.zero_le _) (Nat.le_refl _)
theorem s_word11 {σ : zS} (h : pI σ) (h5 : σ 143 21 ≤ 160) : ∃ v s, g_m_word 11 σ = some (v, s) ∧ fr3 σ s ∧ pO σ s (if v < 0 then 0 else 1) ∧ -1 ≤ v ∧ v ≤ 6 := by
  obtain ⟨v, s, e1, e2, e3, e4, e5⟩ := s_word (a := 11) (L := 39) (by decide +kernel) (by decide +kernel) (by omega) h h5
  have q : spC 11 39 = 6 := by decide +kernel
  exact ⟨v, s, e1, e2, e3, e4, by omega⟩
theorem s_word12 {σ : zS} (h : pI σ) (h5 : σ 143 21 ≤ 160) : ∃ v s, g_m_word 12 σ = some (v, s) ∧ fr3 σ s ∧ pO σ s (if v < 0 then 0 else 1) := by
  obtain ⟨v, s, e1, e2, e3, e4, e5⟩ := s_word (a := 12) (L := 14) (by decide +kernel) (by decide +kernel) (by omega) h h5
  exact ⟨v, s, e1, e2, e3⟩
theorem s_word13 {σ : zS} (h : pI σ) (h5 : σ 143 21 ≤ 160) : ∃ v s, g_m_word 13 σ = some (v, s) ∧ fr3 σ s ∧ pO σ s (if v < 0 then 0 else 1) := by
  obtain ⟨v, s, e1, e2, e3, e4, e5⟩ := s_word (a := 13) (L := 6) (by decide +kernel) (by decide +kernel) (by omega) h h5
  exact ⟨v, s, e1, e2, e3⟩
theorem s_word14 {σ : zS} (h : pI σ) (h5 : σ 143 21 ≤ 160) : ∃ v s, g_m_word 14 σ = some (v, s) ∧ fr3 σ s ∧ pO σ s (if v < 0 then 0 else 1) := by
  obtain ⟨v, s, e1, e2, e3, e4, e5⟩ := s_word (a := 14) (L := 36) (by decide +kernel) (by decide +kernel) (by omega) h h5
  exact ⟨v, s, e1, e2, e3⟩
theorem s_word15 {σ : zS} (h : pI σ) (h5 : σ 143 21 ≤ 160) : ∃ v s, g_m_word 15 σ = some (v, s) ∧ fr3 σ s ∧ pO σ s (if v < 0 then 0 else 1) := by
  obtain ⟨v, s, e1, e2, e3, e4, e5⟩ := s_word (a := 15) (L := 2) (by decide +kernel) (by decide +kernel) (by omega) h h5
  exact ⟨v, s, e1, e2, e3⟩
