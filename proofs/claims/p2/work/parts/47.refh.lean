/-! THE REFERENCE over the typed memory: reading the tape: signs, numbers, words; the test of a query, valued -/
def fr3 (σ s : zS) : Prop := ∀ a j, (a ≠ 143 ∨ (j ≠ 21 ∧ j ≠ 22 ∧ j ≠ 23)) → s a j = σ a j
theorem fr3.refl (σ : zS) : fr3 σ σ := fun _ _ _ => rfl
theorem fr3.trans {σ s t : zS} (h1 : fr3 σ s) (h2 : fr3 s t) : fr3 σ t := fun a j k => (h2 a j k).trans (h1 a j k)
theorem fr3.u {σ : zS} {i v : Int} (h : i = 21 ∨ i = 22 ∨ i = 23) : fr3 σ (zu σ 143 i v) := fun a j k => zu_c (by omega)
/-- the tape's length and the place on it -/
def pI (σ : zS) : Prop := 0 ≤ σ 143 20 ∧ σ 143 20 ≤ 160 ∧ 0 ≤ σ 143 21
/-- what reading a piece of the tape does to them -/
def pO (σ s : zS) (b : Int) : Prop := (b = 0 ∨ b = 1) ∧ s 143 20 = σ 143 20 ∧ σ 143 21 ≤ s 143 21 ∧ (s 143 21 ≤ σ 143 21 ∨ s 143 21 ≤ σ 143 20) ∧ (0 ≤ σ 143 22 → 0 ≤ s 143 22) ∧ (b = 0 → 0 ≤ s 143 22)
def hereC (σ : zS) : Int := if σ 143 20 ≤ σ 143 21 then -1 else σ 159 (σ 143 21)
theorem s_here {σ : zS} (h : pI σ) : g_m_here σ = some (hereC σ, σ) := by
  unfold pI at h
  unfold g_m_here hereC
  by_cases c : σ 143 20 ≤ σ 143 21
  · rw [if_pos c, if_pos c]
  · rw [if_neg c]
    rw [if_neg c]
    exact if_pos (show 0 ≤ σ 143 21 ∧ σ 143 21 < 160 by omega)
theorem hereC_lt {σ : zS} {x : Int} (h : hereC σ = x) (hx : x ≠ -1) : σ 143 21 < σ 143 20 := by
  unfold hereC at h
  by_cases c : σ 143 20 ≤ σ 143 21
  · rw [if_pos c] at h; omega
  · omega
theorem s_fails {x : Int} {σ : zS} (hx : 0 ≤ x) : ∃ s, g_m_fails x σ = some (0, s) ∧ 0 ≤ s 143 22 ∧ ∀ a j, (a ≠ 143 ∨ j ≠ 22) → s a j = σ a j := by
  unfold g_m_fails
  by_cases c : 0 ≤ σ 143 22
  · exact ⟨σ, if_pos c, c, fun _ _ _ => rfl⟩
  · exact ⟨_, if_neg c, by rw [zu_e rfl]; exact hx, fun a j hh => zu_c hh⟩
theorem s_failsO {σ : zS} (h : pI σ) : ∃ s, g_m_fails (σ 143 21) σ = some (0, s) ∧ pO σ s 0 ∧ fr3 σ s := by
  obtain ⟨s, e1, e2, e3⟩ := s_fails (x := σ 143 21) (σ := σ) h.2.2
  have q0 := e3 143 20 (by omega)
  have q1 := e3 143 21 (by omega)
  exact ⟨s, e1, ⟨Or.inl rfl, by omega, by omega, by omega, fun _ => e2, fun _ => e2⟩, fun a j hh => e3 a j (by omega)⟩
theorem pI_of {σ s : zS} {b : Int} (h : pI σ) (o : pO σ s b) : pI s := by
  unfold pI pO at *
  omega
theorem pO_trans {σ s t : zS} {b c : Int} (h1 : pO σ s b) (h2 : pO s t c) : pO σ t c := by
  unfold pO at *
  omega
theorem pI_u {σ : zS} {i v : Int} (h : pI σ) (hi : i = 22 ∨ i = 23) : pI (zu σ 143 i v) := by
  unfold pI at *
  rw [zu_i (by omega), zu_i (by omega)]
  exact h
theorem pO_u {σ : zS} {v : Int} : pO σ (zu σ 143 23 v) 1 := by
  unfold pO
  rw [zu_i (by omega), zu_i (by omega), zu_i (by omega)]
  omega
/-- one place on -/
theorem pO_s {σ : zS} (h : pI σ) (hp : σ 143 21 < σ 143 20) : w32 (σ 143 21 + 1) = σ 143 21 + 1 ∧ pI (zu σ 143 21 (σ 143 21 + 1)) ∧ pO σ (zu σ 143 21 (σ 143 21 + 1)) 1 := by
  unfold pI at h
  refine ⟨w32_id (by omega) (by omega), ?_, ?_⟩
  · unfold pI
    rw [zu_i (by omega), zu_e rfl]
    omega
  · unfold pO
    rw [zu_i (by omega), zu_e rfl, zu_i (by omega)]
    omega
theorem s_isSign {x : Int} {σ : zS} (h : pI σ) (hx : x ≠ -1) : ∃ b s, g_m_isSign x σ = some (b, s) ∧ pO σ s b ∧ fr3 σ s := by
  unfold g_m_isSign
  rw [s_here h]
  rw [Option.bind_some]
  try dsimp only
  by_cases c : hereC σ = x
  · obtain ⟨q1, q2, q3⟩ := pO_s h (hereC_lt c hx)
    rw [if_pos c, q1]
    exact ⟨1, _, rfl, q3, fr3.u (by omega)⟩
  · rw [if_neg c]
    obtain ⟨s, e1, e2, e3⟩ := s_failsO h
    rw [e1]
    rw [Option.bind_some]
    try dsimp only
    rw [if_pos (Or.inl rfl)]
    exact ⟨0, s, rfl, e2, e3⟩
theorem s_isFigure {v : Int} {σ : zS} : g_m_isFigure v σ = some (if 48 ≤ v ∧ v ≤ 57 then 1 else 0, σ) := by
  unfold g_m_isFigure
  by_cases c : 48 ≤ v ∧ v ≤ 57
  · rw [s_isIn_t c.1 c.2, if_pos c]
    rw [Option.bind_some]
    try dsimp only
    rw [if_pos (Or.inr rfl)]
  · rw [s_isIn_f (by omega), if_neg c]
    rw [Option.bind_some]
    try dsimp only
    rw [if_pos (Or.inl rfl)]
theorem s_num84 {lo hi x : Int} {σ : zS} (hx : 0 ≤ x) : ∃ b s, g_m_isNumber_L84 lo hi x σ = some (b, s) ∧ pO σ s b ∧ fr3 σ s ∧ (b = 1 → lo ≤ s 143 23 ∧ s 143 23 ≤ hi) := by
  unfold g_m_isNumber_L84
  show ∃ b s, (g_m_isIn (σ 143 23) lo hi σ).bind _ = _ ∧ _
  by_cases c : lo ≤ σ 143 23 ∧ σ 143 23 ≤ hi
  · rw [s_isIn_t c.1 c.2]
    rw [Option.bind_some]
    try dsimp only
    rw [if_pos (by decide)]
    refine ⟨1, σ, rfl, ?_, fr3.refl σ, fun _ => c⟩
    unfold pO
    omega
  · rw [s_isIn_f (by omega)]
    rw [Option.bind_some]
    try dsimp only
    rw [if_neg (by decide)]
    obtain ⟨s, e1, e2, e3⟩ := s_fails (x := x) (σ := σ) hx
    rw [e1]
    rw [Option.bind_some]
    try dsimp only
    rw [if_pos rfl]
    have q0 := e3 143 20 (by omega)
    have q1 := e3 143 21 (by omega)
    refine ⟨0, s, rfl, ?_, fun a j hh => e3 a j (by omega), fun hh => absurd hh (by decide)⟩
    unfold pO
    omega
theorem s_num33 {w lo hi x : Int} (hx : 0 ≤ x) (hw : w ≤ 100) : ∀ (d k n : Nat) (σ : zS), w ≤ (k : Int) + d → (k : Int) ≤ 100 → d < n → pI σ → ∃ b s, g_m_isNumber_L33 n w lo hi x (k : Int) σ = some (b, s) ∧ pO σ s b ∧ fr3 σ s ∧ (b = 1 → lo ≤ s 143 23 ∧ s 143 23 ≤ hi)
  | _, _, 0, _, _, _, h, _ => absurd h (Nat.not_lt_zero _)
  | d, k, n + 1, σ, hk, hk2, hn, hp => by
    unfold g_m_isNumber_L33
    by_cases c : w ≤ (k : Int)
    · rw [if_pos c]; exact s_num84 hx
    · rw [if_neg c, s_here hp]
      rw [Option.bind_some]
      try dsimp only
      rw [s_isFigure]
      rw [Option.bind_some]
      try dsimp only
      by_cases c2 : 48 ≤ hereC σ ∧ hereC σ ≤ 57
      · rw [if_pos c2, if_neg (by decide), s_here hp]
        rw [Option.bind_some]
        try dsimp only
        cases d with
        | zero => omega
        | succ d =>
          generalize hv : w32 (w32 (w32 (10 * σ 143 23) + hereC σ) - 48) = v
          have hp1 := pI_u (v := v) hp (Or.inr rfl)
          have hlt : zu σ 143 23 v 143 21 < zu σ 143 23 v 143 20 := by
            rw [zu_i (by omega), zu_i (by omega)]
            exact hereC_lt rfl (by omega)
          obtain ⟨q1, q2, q3⟩ := pO_s hp1 hlt
          rw [q1, w32_id (x := (k : Int) + 1) (by omega) (by omega)]
          obtain ⟨b, s, e1, e2, e3, e4⟩ := s_num33 hx hw d (k + 1) n _ (by omega) (by omega) (by omega) q2
          rw [show ((k + 1 : Nat) : Int) = (k : Int) + 1 by omega] at e1
          exact ⟨b, s, e1, pO_trans (pO_trans pO_u q3) e2, ((fr3.u (by omega)).trans (fr3.u (by omega))).trans e3, e4⟩
      · rw [if_neg c2, if_pos rfl]
        exact s_num84 hx
theorem s_number {w lo hi : Int} {σ : zS} (h : pI σ) (hw : w ≤ 100) : ∃ b s, g_m_isNumber w lo hi σ = some (b, s) ∧ pO σ s b ∧ fr3 σ s ∧ (b = 1 → lo ≤ s 143 23 ∧ s 143 23 ≤ hi) := by
  unfold g_m_isNumber
  have hp1 := pI_u (v := 0) h (Or.inr rfl)
  dsimp only
  rw [s_here hp1]
  rw [Option.bind_some]
  try dsimp only
  rw [s_isFigure]
  rw [Option.bind_some]
  try dsimp only
  by_cases c2 : 48 ≤ hereC (zu σ 143 23 0) ∧ hereC (zu σ 143 23 0) ≤ 57
  · rw [if_pos c2, if_pos (by decide)]
    obtain ⟨b, s, e1, e2, e3, e4⟩ := s_num33 (w := w) (lo := lo) (hi := hi) h.2.2 hw 100 0 zK _ (by omega) (by omega) (by show _ < 1000000; omega) hp1
    exact ⟨b, s, e1, pO_trans pO_u e2, (fr3.u (by omega)).trans e3, e4⟩
  · rw [if_neg c2, if_neg (by decide)]
    obtain ⟨s, e1, e2, e3⟩ := s_failsO hp1
    rw [e1]
    rw [Option.bind_some]
    try dsimp only
    rw [if_pos (Or.inl rfl)]
    exact ⟨0, s, rfl, pO_trans pO_u e2, (fr3.u (by omega)).trans e3, fun hh => absurd hh (by decide)⟩
/-- the value of a test: what its calls do to the place -/
def eO (σ s : zS) (b : Int) (u : Int) : Prop := (b = 0 ∨ b = 1) ∧ s 143 20 = σ 143 20 ∧ σ 143 21 + 1 ≤ s 143 21 ∧ s 143 21 ≤ u
theorem pI_z {σ : zS} {v : Int} (h : pI σ) (hv : 0 ≤ v) : pI (zu σ 143 21 v) := by
  unfold pI at *
  rw [zu_i (by omega), zu_e rfl]
  omega
theorem s_hf202 {rec : Nat → Int → zS → Option (Int × zS)} {x y z : Int} {σ : zS} : ∃ b, g_m_holdsFactor_L202 rec x y z σ = some (b, σ) ∧ (b = 0 ∨ b = 1) := by
  unfold g_m_holdsFactor_L202
  split
  · split
    · split
      · exact ⟨0, rfl, Or.inl rfl⟩
      · exact ⟨1, rfl, Or.inr rfl⟩
    · split
      · exact ⟨0, rfl, Or.inl rfl⟩
      · exact ⟨1, rfl, Or.inr rfl⟩
  · split
    · exact ⟨0, rfl, Or.inl rfl⟩
    · exact ⟨1, rfl, Or.inr rfl⟩
/-- from the sign of a comparison on -/
theorem s_hf168 {rec : Nat → Int → zS → Option (Int × zS)} {x y z : Int} {g : Int} {σ : zS} (h : pI σ) (hp : σ 143 21 ≤ 1010) (hg : g = 0 ∨ g = 1) : ∃ b s, g_m_holdsFactor_L168 rec x y z g (σ 143 21) σ = some (b, s) ∧ fr3 σ s ∧ (b = 0 ∨ b = 1) ∧ s 143 20 = σ 143 20 ∧ σ 143 21 ≤ s 143 21 ∧ s 143 21 ≤ zmx (σ 143 21) (σ 143 20) + 1 := by
  have hh := h
  unfold pI at hh
  unfold g_m_holdsFactor_L168
  rw [w32_id (x := σ 143 21 + g) (by omega) (by omega)]
  have hp1 := pI_z (v := σ 143 21 + g) h (by omega)
  obtain ⟨b, s, e1, e2, e3, e4⟩ := s_number (w := 9) (lo := 0) (hi := 999999999) hp1 (by omega)
  dsimp only
  rw [e1]
  rw [Option.bind_some]
  try dsimp only
  have f2 : fr3 σ s := (fr3.u (by omega)).trans e3
  have r : s 143 20 = σ 143 20 ∧ σ 143 21 ≤ s 143 21 ∧ s 143 21 ≤ zmx (σ 143 21) (σ 143 20) + 1 := by
    unfold pO at e2
    rw [zu_i (by omega), zu_e rfl] at e2
    unfold zmx
    split <;> omega
  split
  · obtain ⟨b', e5, e6⟩ := s_hf202 (rec := rec) (x := x) (y := y) (z := s 143 23) (σ := s)
    exact ⟨b', s, e5, f2, e6, r⟩
  · obtain ⟨b', e5, e6⟩ := s_hf202 (rec := rec) (x := x) (y := y) (z := w32 (-s 143 23)) (σ := s)
    exact ⟨b', s, e5, f2, e6, r⟩
theorem s_hf120 {rec : Nat → Int → zS → Option (Int × zS)} {y : Int} {σ : zS} (h : pI σ) (hp : σ 143 21 ≤ 1005) : ∃ b s, g_m_holdsFactor_L120 rec y σ = some (b, s) ∧ fr3 σ s ∧ (b = 0 ∨ b = 1) ∧ s 143 20 = σ 143 20 ∧ σ 143 21 ≤ s 143 21 ∧ s 143 21 ≤ zmx (σ 143 21) (σ 143 20) + 2 := by
  have hh := h
  unfold pI at hh
  unfold g_m_holdsFactor_L120
  rw [s_here h]
  rw [Option.bind_some]
  try dsimp only
  rw [w32_id (x := σ 143 21 + 1) (by omega) (by omega)]
  generalize hs1 : zu σ 143 21 (σ 143 21 + 1) = s1
  have hp1 : pI s1 := by rw [← hs1]; exact pI_z h (by omega)
  have q20 : s1 143 20 = σ 143 20 := by rw [← hs1]; exact zu_i (by omega)
  have q21 : s1 143 21 = σ 143 21 + 1 := by rw [← hs1]; exact zu_e rfl
  have f1 : fr3 σ s1 := by rw [← hs1]; exact fr3.u (by omega)
  rw [s_here hp1]
  rw [Option.bind_some]
  try dsimp only
  have go : ∀ g : Int, g = 0 ∨ g = 1 → ∃ b s, g_m_holdsFactor_L151 rec y (hereC σ) g s1 = some (b, s) ∧ fr3 σ s ∧ (b = 0 ∨ b = 1) ∧ s 143 20 = σ 143 20 ∧ σ 143 21 ≤ s 143 21 ∧ s 143 21 ≤ zmx (σ 143 21) (σ 143 20) + 2 := by
    intro g hg
    unfold g_m_holdsFactor_L151
    dsimp only
    split
    · obtain ⟨b, s, e1, e2, e3, e4, e5, e6⟩ := s_hf168 (rec := rec) (x := y) (y := hereC σ) (z := g) (g := 0) hp1 (by omega) (Or.inl rfl)
      refine ⟨b, s, e1, f1.trans e2, e3, e4.trans q20, by omega, ?_⟩
      rw [q20, q21] at e6
      unfold zmx at *
      split at e6 <;> split <;> omega
    · obtain ⟨b, s, e1, e2, e3, e4, e5, e6⟩ := s_hf168 (rec := rec) (x := y) (y := hereC σ) (z := g) (g := 1) hp1 (by omega) (Or.inr rfl)
      refine ⟨b, s, e1, f1.trans e2, e3, e4.trans q20, by omega, ?_⟩
      rw [q20, q21] at e6
      unfold zmx at *
      split at e6 <;> split <;> omega
  split
  · exact go 0 (Or.inl rfl)
  · exact go 1 (Or.inr rfl)
def evOk (g : Int → zS → Option (Int × zS)) (m : Nat) : Prop := ∀ (r : Int) (σ : zS), 0 ≤ r → r < 60 → pI σ → σ 143 21 ≤ 1000 → σ 143 20 - σ 143 21 ≤ (m : Int) → ∃ b s, g r σ = some (b, s) ∧ fr3 σ s ∧ eO σ s b (zmx (σ 143 21) (σ 143 20) + 4 + m)
theorem s_factor {rec : Nat → Int → zS → Option (Int × zS)} {m : Nat} (hm2 : m ≤ 200) (h233 : ∀ m' : Nat, m' + 1 = m → evOk (rec 233) m') (h231 : ∀ m' : Nat, m' + 1 = m → evOk (rec 231) m') : evOk (g_m_holdsFactor rec) m := by
  intro r σ hr0 hr1 h hp hm
  have hh := h
  unfold pI at hh
  unfold g_m_holdsFactor
  rw [s_here h]
  rw [Option.bind_some]
  try dsimp only
  rw [w32_id (x := σ 143 21 + 1) (by omega) (by omega)]
  generalize hs1 : zu σ 143 21 (σ 143 21 + 1) = s1
  have hp1 : pI s1 := by rw [← hs1]; exact pI_z h (by omega)
  have q20 : s1 143 20 = σ 143 20 := by rw [← hs1]; exact zu_i (by omega)
  have q21 : s1 143 21 = σ 143 21 + 1 := by rw [← hs1]; exact zu_e rfl
  have f1 : fr3 σ s1 := by rw [← hs1]; exact fr3.u (by omega)
  have go : ∀ y : Int, ∃ b s, g_m_holdsFactor_L120 rec y s1 = some (b, s) ∧ fr3 σ s ∧ eO σ s b (zmx (σ 143 21) (σ 143 20) + 4 + m) := by
    intro y
    obtain ⟨b, s, e1, e2, e3, e4, e5, e6⟩ := s_hf120 (rec := rec) (y := y) hp1 (by omega)
    refine ⟨b, s, e1, f1.trans e2, e3, e4.trans q20, by omega, ?_⟩
    rw [q20, q21] at e6
    unfold zmx at *
    split at e6 <;> split <;> omega
  by_cases c1 : hereC σ ≠ 33
  · rw [if_pos c1]
    by_cases c2 : hereC σ ≠ 40
    · rw [if_pos c2]
      by_cases c3 : hereC σ ≠ 119
      · rw [if_pos c3]
        by_cases c4 : hereC σ ≠ 120
        · rw [if_pos c4]
          by_cases c5 : hereC σ ≠ 121
          · rw [if_pos c5]; exact go r
          · rw [if_neg c5, s_rowAt (by omega) (by omega)]
            rw [Option.bind_some]
            try dsimp only
            rw [w32_id (x := 20 + 3 * r + 2) (by omega) (by omega), if_pos (by omega)]
            exact go _
        · rw [if_neg c4, s_rowAt (by omega) (by omega)]
          rw [Option.bind_some]
          try dsimp only
          rw [w32_id (x := 20 + 3 * r + 1) (by omega) (by omega), if_pos (by omega)]
          exact go _
      · rw [if_neg c3, w32_id (x := 1 + r) (by omega) (by omega), if_pos (by omega)]
        exact go _
    · rw [if_neg c2]
      have hlt : σ 143 21 < σ 143 20 := hereC_lt (x := 40) (by omega) (by decide)
      obtain ⟨m', rfl⟩ : ∃ m', m = m' + 1 := ⟨m - 1, by omega⟩
      obtain ⟨b, s, e1, e2, e3⟩ := h231 m' rfl r s1 hr0 hr1 hp1 (by omega) (by omega)
      unfold eO at *
      rw [e1]
      rw [Option.bind_some]
      try dsimp only
      rw [q20, q21] at e3
      unfold zmx at *
      have hb : s 143 21 ≤ 500 := by
        have := e3.2.2.2
        split at this <;> omega
      rw [w32_id (x := s 143 21 + 1) (by omega) (by omega), if_pos e3.1]
      refine ⟨b, _, rfl, (f1.trans e2).trans (fr3.u (by omega)), e3.1, ?_, ?_, ?_⟩
      · rw [zu_i (by omega)]; exact e3.2.1
      · rw [zu_e rfl]; omega
      · rw [zu_e rfl]
        have := e3.2.2.2
        split at this <;> split <;> omega
  · rw [if_neg c1]
    have hlt : σ 143 21 < σ 143 20 := hereC_lt (x := 33) (by omega) (by decide)
    obtain ⟨m', rfl⟩ : ∃ m', m = m' + 1 := ⟨m - 1, by omega⟩
    obtain ⟨b, s, e1, e2, e3⟩ := h233 m' rfl r s1 hr0 hr1 hp1 (by omega) (by omega)
    unfold eO at *
    rw [e1]
    rw [Option.bind_some]
    try dsimp only
    rw [q20, q21] at e3
    unfold zmx at *
    have last : s 143 20 = σ 143 20 ∧ σ 143 21 + 1 ≤ s 143 21 ∧ s 143 21 ≤ (if σ 143 21 < σ 143 20 then σ 143 20 else σ 143 21) + 4 + ((m' + 1 : Nat) : Int) := by
      have := e3.2.2.2
      refine ⟨e3.2.1, by omega, ?_⟩
      split at this <;> split <;> omega
    by_cases cb : b ≠ 0
    · rw [if_pos cb]; exact ⟨0, s, rfl, f1.trans e2, Or.inl rfl, last⟩
    · rw [if_neg cb]; exact ⟨1, s, rfl, f1.trans e2, Or.inr rfl, last⟩
theorem s_hb6 {rec : Nat → Int → zS → Option (Int × zS)} {m : Nat} {r : Int} (h233 : evOk (rec 233) m) (hr0 : 0 ≤ r) (hr1 : r < 60) : ∀ (d n : Nat) (x : Int) (σ : zS), (x = 0 ∨ x = 1) → pI σ → σ 143 20 - σ 143 21 ≤ (d : Int) → σ 143 20 - σ 143 21 ≤ (m : Int) → d < n → ∃ b s, g_m_holdsBoth_L6 rec n r x σ = some (b, s) ∧ fr3 σ s ∧ (b = 0 ∨ b = 1) ∧ s 143 20 = σ 143 20 ∧ σ 143 21 ≤ s 143 21 ∧ s 143 21 ≤ zmx (σ 143 21) (σ 143 20 + 4 + m)
  | _, 0, _, _, _, _, _, _, h => absurd h (Nat.not_lt_zero _)
  | d, n + 1, x, σ, hx, h, hd, hm, hn => by
    have hh := h
    unfold pI at hh
    unfold g_m_holdsBoth_L6
    rw [s_here h]
    rw [Option.bind_some]
    try dsimp only
    by_cases c : hereC σ ≠ 38
    · rw [if_pos c, if_pos hx]
      refine ⟨x, σ, rfl, fr3.refl σ, hx, rfl, by omega, ?_⟩
      unfold zmx
      split <;> omega
    · rw [if_neg c]
      have hlt : σ 143 21 < σ 143 20 := hereC_lt (x := 38) (by omega) (by decide)
      cases d with
      | zero => omega
      | succ d =>
        rw [w32_id (x := σ 143 21 + 1) (by omega) (by omega)]
        generalize hs1 : zu σ 143 21 (σ 143 21 + 1) = s1
        have hp1 : pI s1 := by rw [← hs1]; exact pI_z h (by omega)
        have q20 : s1 143 20 = σ 143 20 := by rw [← hs1]; exact zu_i (by omega)
        have q21 : s1 143 21 = σ 143 21 + 1 := by rw [← hs1]; exact zu_e rfl
        have f1 : fr3 σ s1 := by rw [← hs1]; exact fr3.u (by omega)
        obtain ⟨b, s, e1, e2, e3⟩ := h233 r s1 hr0 hr1 hp1 (by omega) (by omega)
        unfold eO zmx at e3
        rw [q20, q21] at e3
        rw [e1]
        rw [Option.bind_some]
        try dsimp only
        have e4 : s 143 21 ≤ σ 143 20 + 4 + m := by
          have := e3.2.2.2
          split at this <;> omega
        obtain ⟨b', s', g1, g2, g3, g4, g5, g6⟩ := s_hb6 h233 hr0 hr1 d n (iAnd x b) s (iAnd_01 hx e3.1) ⟨by omega, by omega, by omega⟩ (by omega) (by omega) (by omega)
        refine ⟨b', s', g1, (f1.trans e2).trans g2, g3, by omega, by omega, ?_⟩
        unfold zmx at *
        split at g6 <;> split <;> omega
theorem s_both {rec : Nat → Int → zS → Option (Int × zS)} {m : Nat} (h233 : evOk (rec 233) m) : evOk (g_m_holdsBoth rec) m := by
  intro r σ hr0 hr1 h hp hm
  have hh := h
  unfold pI at hh
  unfold g_m_holdsBoth
  obtain ⟨b, s, e1, e2, e3⟩ := h233 r σ hr0 hr1 h hp hm
  unfold eO at *
  rw [e1]
  rw [Option.bind_some]
  try dsimp only
  obtain ⟨b', s', g1, g2, g3, g4, g5, g6⟩ := s_hb6 h233 hr0 hr1 160 zK b s e3.1 ⟨by omega, by omega, by omega⟩ (by omega) (by omega) (by show _ < 1000000; omega)
  refine ⟨b', s', g1, e2.trans g2, g3, by omega, by omega, ?_⟩
  have e4 := e3.2.2.2
  unfold zmx at *
  split at g6 <;> split at e4 <;> split <;> omega
theorem s_hd6 {rec : Nat → Int → zS → Option (Int × zS)} {m : Nat} {r : Int} (h232 : evOk (rec 232) m) (hr0 : 0 ≤ r) (hr1 : r < 60) : ∀ (d n : Nat) (x : Int) (σ : zS), (x = 0 ∨ x = 1) → pI σ → σ 143 20 - σ 143 21 ≤ (d : Int) → σ 143 20 - σ 143 21 ≤ (m : Int) → d < n → ∃ b s, g_m_doesHold_L6 rec n r x σ = some (b, s) ∧ fr3 σ s ∧ (b = 0 ∨ b = 1) ∧ s 143 20 = σ 143 20 ∧ σ 143 21 ≤ s 143 21 ∧ s 143 21 ≤ zmx (σ 143 21) (σ 143 20 + 4 + m)
  | _, 0, _, _, _, _, _, _, h => absurd h (Nat.not_lt_zero _)
  | d, n + 1, x, σ, hx, h, hd, hm, hn => by
    have hh := h
    unfold pI at hh
    unfold g_m_doesHold_L6
    rw [s_here h]
    rw [Option.bind_some]
    try dsimp only
    by_cases c : hereC σ ≠ 124
    · rw [if_pos c, if_pos hx]
      refine ⟨x, σ, rfl, fr3.refl σ, hx, rfl, by omega, ?_⟩
      unfold zmx
      split <;> omega
    · rw [if_neg c]
      have hlt : σ 143 21 < σ 143 20 := hereC_lt (x := 124) (by omega) (by decide)
      cases d with
      | zero => omega
      | succ d =>
        rw [w32_id (x := σ 143 21 + 1) (by omega) (by omega)]
        generalize hs1 : zu σ 143 21 (σ 143 21 + 1) = s1
        have hp1 : pI s1 := by rw [← hs1]; exact pI_z h (by omega)
        have q20 : s1 143 20 = σ 143 20 := by rw [← hs1]; exact zu_i (by omega)
        have q21 : s1 143 21 = σ 143 21 + 1 := by rw [← hs1]; exact zu_e rfl
        have f1 : fr3 σ s1 := by rw [← hs1]; exact fr3.u (by omega)
        obtain ⟨b, s, e1, e2, e3⟩ := h232 r s1 hr0 hr1 hp1 (by omega) (by omega)
        unfold eO zmx at e3
        rw [q20, q21] at e3
        rw [e1]
        rw [Option.bind_some]
        try dsimp only
        have e4 : s 143 21 ≤ σ 143 20 + 4 + m := by
          have := e3.2.2.2
          split at this <;> omega
        obtain ⟨b', s', g1, g2, g3, g4, g5, g6⟩ := s_hd6 h232 hr0 hr1 d n (iOr x b) s (iOr_01 hx e3.1) ⟨by omega, by omega, by omega⟩ (by omega) (by omega) (by omega)
        refine ⟨b', s', g1, (f1.trans e2).trans g2, g3, by omega, by omega, ?_⟩
        unfold zmx at *
        split at g6 <;> split <;> omega
theorem s_either {rec : Nat → Int → zS → Option (Int × zS)} {m : Nat} (h232 : evOk (rec 232) m) : evOk (g_m_doesHold rec) m := by
  intro r σ hr0 hr1 h hp hm
  have hh := h
  unfold pI at hh
  unfold g_m_doesHold
  obtain ⟨b, s, e1, e2, e3⟩ := h232 r σ hr0 hr1 h hp hm
  unfold eO at *
  rw [e1]
  rw [Option.bind_some]
  try dsimp only
  obtain ⟨b', s', g1, g2, g3, g4, g5, g6⟩ := s_hd6 h232 hr0 hr1 160 zK b s e3.1 ⟨by omega, by omega, by omega⟩ (by omega) (by omega) (by show _ < 1000000; omega)
  refine ⟨b', s', g1, e2.trans g2, g3, by omega, by omega, ?_⟩
  have e4 := e3.2.2.2
  unfold zmx at *
  split at g6 <;> split at e4 <;> split <;> omega
theorem grp231_231 {n : Nat} : g_grp231 (n + 1) 231 = g_m_doesHold (g_grp231 n) := by
  funext r σ
  show (if 231 = 231 then _ else _) = _
  exact if_pos rfl
theorem grp231_232 {n : Nat} : g_grp231 (n + 1) 232 = g_m_holdsBoth (g_grp231 n) := by
  funext r σ
  show (if 232 = 231 then _ else if 232 = 232 then _ else _) = _
  rw [if_neg (by decide), if_pos rfl]
theorem grp231_233 {n : Nat} : g_grp231 (n + 1) 233 = g_m_holdsFactor (g_grp231 n) := by
  funext r σ
  show (if 233 = 231 then _ else if 233 = 232 then _ else if 233 = 233 then _ else _) = _
  rw [if_neg (by decide), if_neg (by decide), if_pos rfl]
theorem s_eval1 {m : Nat} (h : ∀ n, 3 * m + 1 ≤ n → evOk (g_grp231 n 233) m) : (∀ n, 3 * m + 2 ≤ n → evOk (g_grp231 n 232) m) ∧ ∀ n, 3 * m + 3 ≤ n → evOk (g_grp231 n 231) m := by
  have h2 : ∀ n, 3 * m + 2 ≤ n → evOk (g_grp231 n 232) m := fun n hn => by
    obtain ⟨k, rfl⟩ : ∃ k, n = k + 1 := ⟨n - 1, by omega⟩
    rw [grp231_232]
    exact s_both (h k (by omega))
  refine ⟨h2, fun n hn => ?_⟩
  obtain ⟨k, rfl⟩ : ∃ k, n = k + 1 := ⟨n - 1, by omega⟩
  rw [grp231_231]
  exact s_either (h2 k (by omega))
theorem s_eval : ∀ (m : Nat) (n : Nat), m ≤ 200 → 3 * m + 1 ≤ n → evOk (g_grp231 n 233) m
  | 0, n, _, hn => by
    obtain ⟨k, rfl⟩ : ∃ k, n = k + 1 := ⟨n - 1, by omega⟩
    rw [grp231_233]
    exact s_factor (by omega) (fun m' h => by omega) (fun m' h => by omega)
  | m + 1, n, h2, hn => by
    obtain ⟨k, rfl⟩ : ∃ k, n = k + 1 := ⟨n - 1, by omega⟩
    rw [grp231_233]
    refine s_factor h2 (fun m' h => ?_) (fun m' h => ?_)
    · obtain rfl : m' = m := by omega
      exact s_eval m' k (by omega) (by omega)
    · obtain rfl : m' = m := by omega
      exact (s_eval1 (fun j hj => s_eval m' j (by omega) hj)).2 k (by omega)
theorem tst_ok {σ : zS} {t : Int} (h : 0 ≤ σ 143 20 ∧ σ 143 20 ≤ 160) (ht : t ≤ 1000) : tstOk σ t := by
  by_cases c : t < 0
  · exact Or.inl c
  · refine Or.inr (fun s hs r hr0 hr1 => ?_)
    have q : s 143 20 = σ 143 20 := hs 143 20 (by omega) (by omega) (by omega)
    have hp : pI (zu s 143 21 t) := by
      unfold pI
      rw [zu_i (by omega), zu_e rfl]
      omega
    obtain ⟨b, s', e1, e2, _⟩ := (s_eval1 (fun j hj => s_eval 160 j (by omega) hj)).2 zR (by show _ ≤ 500; omega) r (zu s 143 21 t) hr0 hr1 hp (by rw [zu_e rfl]; omega) (by rw [zu_i (by omega), zu_e rfl]; omega)
    exact ⟨b, s', e1, fun a j hh => (e2 a j hh).trans (zu_c (by omega))⟩
