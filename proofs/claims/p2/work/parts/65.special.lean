/-! BOTH SIDES: put, take, rows and worths, traces and watches counted, the image -/
theorem nb {a b : Nat} (h : a ≠ b) : (a == b) = false := beq_false_of_ne h
theorem nb2 {a b : Nat} {j i : Int} (h : a ≠ b) : (a == b && j == i) = false := by rw [nb h]; rfl
theorem p_isBox {x0 x1 y0 y1 : Int} {σ : zS} : g_b_isBox x0 x1 y0 y1 σ = some (if bOk (x0, x1, y0, y1) then 1 else 0, σ) := by
  unfold g_b_isBox
  rw [p_isPlace]
  rw [Option.bind_some]
  try dsimp +instances only
  by_cases c : bOk (x0, x1, y0, y1)
  · rw [if_pos c]
    dsimp only [bOk] at c
    rw [if_pos (show 0 ≤ x0 ∧ x0 ≤ 31 ∧ 0 ≤ y0 ∧ y0 ≤ 31 by omega), if_neg (by decide), p_isPlace]
    rw [Option.bind_some]
    try dsimp +instances only
    rw [if_pos (show 0 ≤ x1 ∧ x1 ≤ 31 ∧ 0 ≤ y1 ∧ y1 ≤ 31 by omega), if_neg (by decide), if_neg (by omega), if_neg (by omega)]
  · rw [if_neg c]
    dsimp only [bOk] at c
    by_cases c1 : 0 ≤ x0 ∧ x0 ≤ 31 ∧ 0 ≤ y0 ∧ y0 ≤ 31
    · rw [if_pos c1, if_neg (by decide), p_isPlace]
      rw [Option.bind_some]
      try dsimp +instances only
      by_cases c2 : 0 ≤ x1 ∧ x1 ≤ 31 ∧ 0 ≤ y1 ∧ y1 ≤ 31
      · rw [if_pos c2, if_neg (by decide)]
        by_cases c3 : x1 < x0
        · rw [if_pos c3]
        · rw [if_neg c3, if_pos (by omega)]
      · rw [if_neg c2, if_pos rfl]
    · rw [if_neg c1, if_pos rfl]
theorem p_add {a : Nat} {x L : Int} {σ : zS} (hL : zLI (a + 1) = L) (hL2 : L ≤ 1000) (h0 : 0 ≤ σ a 1) : g_bs_add a x σ = if σ a 1 < L then some (1, zu (zu σ (a + 1) (σ a 1) x) a 1 (σ a 1 + 1)) else some (0, σ) := by
  unfold g_bs_add
  try dsimp only
  rw [if_neg (by omega), hL]
  by_cases c : σ a 1 < L
  · rw [if_pos c, if_pos c, if_pos ⟨h0, c⟩, zu_a (by omega), w32_id (by omega) (by omega)]
  · rw [if_neg c, if_neg c]
/-- what trace() answers and how many there are then -/
def trA (n x0 x1 y0 y1 : Int) : Int := if x0 ≠ -1 then (if bOk (x0, x1, y0, y1) then (if n ≠ 10 then n + 1 else -4) else -2) else 0
def trN (n x0 x1 y0 y1 : Int) : Int := if x0 ≠ -1 then (if bOk (x0, x1, y0, y1) then (if n ≠ 10 then n + 1 else n) else n) else 0
def trOk (n x0 x1 y0 y1 : Int) : Prop := x0 ≠ -1 ∧ bOk (x0, x1, y0, y1) ∧ n ≠ 10
theorem t_trace {x0 x1 y0 y1 : Int} {σ : zS} (h : 0 ≤ σ 144 9 ∧ σ 144 9 ≤ 10) : ∃ s, g_m_trace x0 x1 y0 y1 σ = some (trA (σ 144 9) x0 x1 y0 y1, s) ∧ s 144 9 = trN (σ 144 9) x0 x1 y0 y1 ∧ (∀ a j, (a ≠ 144 ∨ (j ≠ 9 ∧ j < 260)) → s a j = σ a j) ∧ (trOk (σ 144 9) x0 x1 y0 y1 → bxA s 144 (260 + 4 * σ 144 9) = (x0, x1, y0, y1) ∧ ∀ j, 260 ≤ j → (j < 260 + 4 * σ 144 9 ∨ 264 + 4 * σ 144 9 ≤ j) → s 144 j = σ 144 j) ∧ (¬ trOk (σ 144 9) x0 x1 y0 y1 → ∀ j, 260 ≤ j → s 144 j = σ 144 j) := by
  have l := l144
  unfold g_m_trace trA trN
  by_cases c : x0 ≠ -1
  · rw [if_pos c, if_pos c, if_pos c]
    by_cases c2 : bOk (x0, x1, y0, y1)
    · rw [s_isBox_t c2, if_pos c2, if_pos c2]
      rw [Option.bind_some]
      try dsimp +instances only
      rw [if_pos (by decide)]
      by_cases c3 : σ 144 9 ≠ 10
      · rw [if_pos c3, if_pos c3, if_pos c3, w32_id (x := 4 * σ 144 9) (by omega) (by omega), w32_id (x := 260 + 4 * σ 144 9) (by omega) (by omega), s_sets (by omega) (by omega) (by omega)]
        rw [Option.bind_some]
        try dsimp +instances only
        have q9 : zb σ 144 (260 + 4 * σ 144 9) (x0, x1, y0, y1) 144 9 = σ 144 9 := zb_i (by omega)
        rw [q9, w32_id (x := σ 144 9 + 1) (by omega) (by omega), zu_e rfl]
        refine ⟨_, rfl, zu_e rfl, fun a j hh => ?_, fun _ => ⟨?_, fun j j1 j2 => ?_⟩, fun hn => absurd ⟨c, c2, c3⟩ hn⟩
        · rw [zu_c (by omega)]
          by_cases ca : a = 144
          · subst ca; exact zb_i (by omega)
          · exact zb_a ca
        · rw [zu_bxi (by omega)]
          exact zb_bx rfl
        · rw [zu_i (by omega)]
          exact zb_i (by omega)
      · rw [if_neg c3, if_neg c3, if_neg c3]
        exact ⟨σ, rfl, rfl, fun _ _ _ => rfl, fun h => absurd h.2.2 c3, fun _ _ _ => rfl⟩
    · rw [s_isBox_f c2, if_neg c2, if_neg c2]
      rw [Option.bind_some]
      try dsimp +instances only
      rw [if_neg (by decide)]
      exact ⟨σ, rfl, rfl, fun _ _ _ => rfl, fun h => absurd h.2.1 c2, fun _ _ _ => rfl⟩
  · rw [if_neg c, if_neg c, if_neg c]
    exact ⟨_, rfl, zu_e rfl, fun a j hh => zu_c (by omega), fun h => absurd h.1 c, fun _ j hj => zu_i (by omega)⟩
theorem p_trace {x0 x1 y0 y1 : Int} {σ : zS} (h : 0 ≤ σ 63 1 ∧ σ 63 1 ≤ 10) : ∃ s, g_c_trace x0 x1 y0 y1 σ = some (trA (σ 63 1) x0 x1 y0 y1, s) ∧ s 63 1 = trN (σ 63 1) x0 x1 y0 y1 ∧ (∀ a j, a ≠ 64 → (a ≠ 63 ∨ j ≠ 1) → s a j = σ a j) ∧ (trOk (σ 63 1) x0 x1 y0 y1 → s 64 (σ 63 1) = enc (x0, x1, y0, y1) ∧ ∀ j, j ≠ σ 63 1 → s 64 j = σ 64 j) ∧ (¬ trOk (σ 63 1) x0 x1 y0 y1 → ∀ j, s 64 j = σ 64 j) := by
  unfold g_c_trace trA trN
  by_cases c : x0 ≠ -1
  · rw [if_pos c, if_pos c, if_pos c, p_isBox]
    rw [Option.bind_some]
    try dsimp +instances only
    by_cases c2 : bOk (x0, x1, y0, y1)
    · rw [if_pos c2, if_pos c2, if_pos c2, if_pos (by decide)]
      have hb := b_of (b := (x0, x1, y0, y1)) c2.s σ
      try dsimp only at hb
      rw [hb]
      rw [Option.bind_some]
      try dsimp +instances only
      rw [p_add (a := 63) (L := 10) rfl (by decide) h.1]
      by_cases c3 : σ 63 1 ≠ 10
      · rw [if_pos c3, if_pos c3, if_pos (by omega)]
        rw [Option.bind_some]
        try dsimp +instances only
        rw [if_neg (by decide), zu_e rfl]
        exact ⟨_, rfl, zu_e rfl, fun a j k1 k2 => by rw [zu_c k2, zu_a k1], fun _ => ⟨by rw [zu_a (by decide), zu_e rfl], fun j hj => by rw [zu_a (by decide), zu_i hj]⟩, fun hn => absurd ⟨c, c2, c3⟩ hn⟩
      · rw [if_neg c3, if_neg c3, if_neg (by omega)]
        rw [Option.bind_some]
        try dsimp +instances only
        rw [if_pos rfl]
        exact ⟨σ, rfl, rfl, fun _ _ _ _ => rfl, fun h => absurd h.2.2 c3, fun _ _ => rfl⟩
    · rw [if_neg c2, if_neg c2, if_neg c2, if_neg (by decide)]
      exact ⟨σ, rfl, rfl, fun _ _ _ _ => rfl, fun h => absurd h.2.1 c2, fun _ _ => rfl⟩
  · rw [if_neg c, if_neg c, if_neg c]
    exact ⟨_, rfl, zu_e rfl, fun a j _ k2 => zu_c k2, fun h => absurd h.1 c, fun _ j => zu_a (by decide)⟩
/-- what watch() answers and how many there are then -/
def wtA (n m x0 x1 y0 y1 : Int) : Int := if 0 ≤ m ∧ m ≤ 6 then (if bOk (x0, x1, y0, y1) then (if n ≠ 6 then n else -4) else -2) else -1
def wtN (n m x0 x1 y0 y1 : Int) : Int := if 0 ≤ m ∧ m ≤ 6 then (if bOk (x0, x1, y0, y1) then (if n ≠ 6 then n + 1 else n) else n) else n
def wtOk (n m x0 x1 y0 y1 : Int) : Prop := (0 ≤ m ∧ m ≤ 6) ∧ bOk (x0, x1, y0, y1) ∧ n ≠ 6
theorem t_watch {m x0 x1 y0 y1 : Int} {σ : zS} (h : 0 ≤ σ 144 10 ∧ σ 144 10 ≤ 6) : ∃ s, g_m_watch m x0 x1 y0 y1 σ = some (wtA (σ 144 10) m x0 x1 y0 y1, s) ∧ s 144 10 = wtN (σ 144 10) m x0 x1 y0 y1 ∧ (∀ a j, (a ≠ 144 ∨ (j ≠ 10 ∧ j < 300)) → s a j = σ a j) ∧ (wtOk (σ 144 10) m x0 x1 y0 y1 → s 144 (300 + 6 * σ 144 10) = m ∧ bxA s 144 (301 + 6 * σ 144 10) = (x0, x1, y0, y1) ∧ s 144 (305 + 6 * σ 144 10) = 0 ∧ ∀ j, 300 ≤ j → (j < 300 + 6 * σ 144 10 ∨ 306 + 6 * σ 144 10 ≤ j) → s 144 j = σ 144 j) ∧ (¬ wtOk (σ 144 10) m x0 x1 y0 y1 → ∀ j, 300 ≤ j → s 144 j = σ 144 j) := by
  have l := l144
  unfold g_m_watch wtA wtN
  by_cases c : 0 ≤ m ∧ m ≤ 6
  · rw [s_isIn_t c.1 c.2, if_pos c, if_pos c]
    rw [Option.bind_some]
    try dsimp +instances only
    rw [if_pos (by decide)]
    by_cases c2 : bOk (x0, x1, y0, y1)
    · rw [s_isBox_t c2, if_pos c2, if_pos c2]
      rw [Option.bind_some]
      try dsimp +instances only
      rw [if_pos (by decide)]
      by_cases c3 : σ 144 10 ≠ 6
      · rw [if_pos c3, if_pos c3, if_pos c3, w32_id (x := 6 * σ 144 10) (by omega) (by omega), w32_id (x := 300 + 6 * σ 144 10) (by omega) (by omega), if_pos (by omega), w32_id (x := 300 + 6 * σ 144 10 + 1) (by omega) (by omega), w32_id (x := 300 + 6 * σ 144 10 + 5) (by omega) (by omega), s_sets (by omega) (by omega) (by omega)]
        rw [Option.bind_some]
        try dsimp +instances only
        rw [if_pos (by omega)]
        generalize hs : zu (zb (zu σ 144 (300 + 6 * σ 144 10) m) 144 (300 + 6 * σ 144 10 + 1) (x0, x1, y0, y1)) 144 (300 + 6 * σ 144 10 + 5) 0 = s1
        have q : ∀ a j, (a ≠ 144 ∨ j < 300 ∨ 336 ≤ j) → s1 a j = σ a j := fun a j hh => by
          rw [← hs, zu_c (by omega)]
          by_cases ca : a = 144
          · subst ca
            rw [zb_i (by omega), zu_i (by omega)]
          · rw [zb_a ca, zu_a ca]
        have q10 : s1 144 10 = σ 144 10 := q 144 10 (by omega)
        rw [q10, w32_id (x := σ 144 10 + 1) (by omega) (by omega), zu_e rfl, w32_id (x := σ 144 10 + 1 - 1) (by omega) (by omega), show σ 144 10 + 1 - 1 = σ 144 10 by omega]
        refine ⟨_, rfl, zu_e rfl, fun a j hh => ?_, fun _ => ⟨?_, ?_, ?_, fun j j1 j2 => ?_⟩, fun hn => absurd ⟨c, c2, c3⟩ hn⟩
        · rw [zu_c (by omega)]
          exact q a j (by omega)
        · rw [zu_i (by omega), ← hs, zu_i (by omega), zb_i (by omega), zu_e rfl]
        · rw [zu_bxi (by omega), ← hs, show 301 + 6 * σ 144 10 = 300 + 6 * σ 144 10 + 1 by omega, zu_bxi (by omega)]
          exact zb_bx rfl
        · rw [zu_i (by omega), ← hs, show 305 + 6 * σ 144 10 = 300 + 6 * σ 144 10 + 5 by omega, zu_e rfl]
        · rw [zu_i (by omega), ← hs, zu_i (by omega), zb_i (by omega), zu_i (by omega)]
      · rw [if_neg c3, if_neg c3, if_neg c3]
        exact ⟨σ, rfl, rfl, fun _ _ _ => rfl, fun h => absurd h.2.2 c3, fun _ _ _ => rfl⟩
    · rw [s_isBox_f c2, if_neg c2, if_neg c2]
      rw [Option.bind_some]
      try dsimp +instances only
      rw [if_neg (by decide)]
      exact ⟨σ, rfl, rfl, fun _ _ _ => rfl, fun h => absurd h.2.1 c2, fun _ _ _ => rfl⟩
  · rw [s_isIn_f (by omega), if_neg c, if_neg c]
    rw [Option.bind_some]
    try dsimp +instances only
    rw [if_neg (by decide)]
    exact ⟨σ, rfl, rfl, fun _ _ _ => rfl, fun h => absurd h.1 c, fun _ _ _ => rfl⟩
theorem p_isMeasure {x : Int} {σ : zS} : g_fi_isMeasure x σ = some (if 0 ≤ x ∧ x ≤ 6 then 1 else 0, σ) := by
  unfold g_fi_isMeasure
  by_cases c1 : x < 0
  · rw [if_pos c1, if_neg (by omega)]
  · rw [if_neg c1]
    by_cases c2 : 6 < x
    · rw [if_pos c2, if_neg (by omega)]
    · rw [if_neg c2, if_pos (by omega)]
theorem p_watch {m x0 x1 y0 y1 : Int} {σ : zS} (h : 0 ≤ σ 65 5 ∧ σ 65 5 ≤ 6) : ∃ s, g_c_watch m x0 x1 y0 y1 σ = some (wtA (σ 65 5) m x0 x1 y0 y1, s) ∧ s 65 5 = wtN (σ 65 5) m x0 x1 y0 y1 ∧ (∀ a j, a ≠ 66 → a ≠ 67 → a ≠ 68 → (a ≠ 65 ∨ j ≠ 5) → s a j = σ a j) ∧ (wtOk (σ 65 5) m x0 x1 y0 y1 → (s 66 (σ 65 5) = m ∧ s 67 (σ 65 5) = enc (x0, x1, y0, y1) ∧ s 68 (σ 65 5) = 0) ∧ ∀ j, j ≠ σ 65 5 → s 66 j = σ 66 j ∧ s 67 j = σ 67 j ∧ s 68 j = σ 68 j) ∧ (¬ wtOk (σ 65 5) m x0 x1 y0 y1 → ∀ j, s 66 j = σ 66 j ∧ s 67 j = σ 67 j ∧ s 68 j = σ 68 j) := by
  unfold g_c_watch wtA wtN
  rw [p_isMeasure]
  rw [Option.bind_some]
  try dsimp +instances only
  by_cases c : 0 ≤ m ∧ m ≤ 6
  · rw [if_pos c, if_pos c, if_pos c, if_pos (by decide), p_isBox]
    rw [Option.bind_some]
    try dsimp +instances only
    by_cases c2 : bOk (x0, x1, y0, y1)
    · rw [if_pos c2, if_pos c2, if_pos c2, if_pos (by decide)]
      have hb := b_of (b := (x0, x1, y0, y1)) c2.s σ
      try dsimp only at hb
      rw [hb]
      rw [Option.bind_some]
      try dsimp +instances only
      unfold g_wa_add
      try dsimp +instances only
      by_cases c3 : σ 65 5 ≠ 6
      · rw [if_pos c3, if_pos c3, if_pos (by omega), if_pos (by omega), zu_a (by decide), if_pos (by omega), zu_a (by decide), zu_a (by decide), if_pos (by omega), zu_a (by decide), zu_a (by decide), zu_a (by decide)]
        rw [Option.bind_some]
        try dsimp +instances only
        rw [if_neg (by decide), zu_e rfl, w32_id (x := σ 65 5 + 1) (by omega) (by omega), w32_id (x := σ 65 5 + 1 - 1) (by omega) (by omega), show σ 65 5 + 1 - 1 = σ 65 5 by omega]
        exact ⟨_, rfl, zu_e rfl, fun a j k1 k2 k3 k4 => by rw [zu_c k4, zu_a k3, zu_a k2, zu_a k1], fun _ => ⟨⟨by rw [zu_a (by decide), zu_a (by decide), zu_a (by decide), zu_e rfl], by rw [zu_a (by decide), zu_a (by decide), zu_e rfl], by rw [zu_a (by decide), zu_e rfl]⟩, fun j hj => ⟨by rw [zu_a (by decide), zu_a (by decide), zu_a (by decide), zu_i hj], by rw [zu_a (by decide), zu_a (by decide), zu_i hj, zu_a (by decide)], by rw [zu_a (by decide), zu_i hj, zu_a (by decide), zu_a (by decide)]⟩⟩, fun hn => absurd ⟨c, c2, c3⟩ hn⟩
      · rw [if_neg c3, if_neg c3, if_neg (by omega)]
        rw [Option.bind_some]
        try dsimp +instances only
        rw [if_pos rfl]
        exact ⟨σ, rfl, rfl, fun _ _ _ _ _ _ => rfl, fun h => absurd h.2.2 c3, fun _ _ => ⟨rfl, rfl, rfl⟩⟩
    · rw [if_neg c2, if_neg c2, if_neg c2, if_neg (by decide)]
      exact ⟨σ, rfl, rfl, fun _ _ _ _ _ _ => rfl, fun h => absurd h.2.1 c2, fun _ _ => ⟨rfl, rfl, rfl⟩⟩
  · rw [if_neg c, if_neg c, if_neg c, if_neg (by decide)]
    exact ⟨σ, rfl, rfl, fun _ _ _ _ _ _ => rfl, fun h => absurd h.1 c, fun _ _ => ⟨rfl, rfl, rfl⟩⟩
/-! the class's store copied -/
theorem zcp_in {σ : zS} {a b : Nat} {dp n j : Int} (h1 : dp ≤ j) (h2 : j < dp + n) : zcp σ a 0 b dp n b j = σ a (j - dp) := by
  unfold zcp
  rw [if_pos ⟨rfl, h1, h2⟩, Int.zero_add]
theorem p_socopy {a0 a1 : Nat} (hd : a0 + 7 ≤ a1 ∨ a1 + 7 ≤ a0) {σ : zS} : ∃ s, g_so_copyFrom a0 a1 σ = some ((), s) ∧ s a0 4 = σ a1 4 ∧ (∀ k : Nat, 1 ≤ k → k ≤ 4 → ∀ j : Nat, j < 60 → s (a0 + k) (j : Int) = σ (a1 + k) (j : Int)) ∧ (∀ k : Nat, 5 ≤ k → k ≤ 6 → ∀ j : Nat, j ≤ 32 → s (a0 + k) (j : Int) = σ (a1 + k) (j : Int)) ∧ ∀ a j, (a < a0 ∨ a0 + 7 ≤ a) → s a j = σ a j := by
  unfold g_so_copyFrom
  try dsimp only
  refine ⟨_, rfl, ?_, fun k h1 h2 j hj => ?_, fun k h1 h2 j hj => ?_, fun a j h => ?_⟩
  · rw [zu_e rfl, zcp_a (by omega), zcp_a (by omega), zcp_a (by omega), zcp_a (by omega), zcp_a (by omega), zcp_a (by omega)]
  · rw [zu_a (by omega), zcp_a (by omega), zcp_a (by omega)]
    have ej : (j : Int) - 0 = (j : Int) := by omega
    by_cases c4 : k = 4
    · subst c4
      rw [zcp_in (by omega) (by omega), ej, zcp_a (by omega), zcp_a (by omega), zcp_a (by omega)]
    · rw [zcp_a (by omega)]
      by_cases c3 : k = 3
      · subst c3
        rw [zcp_in (by omega) (by omega), ej, zcp_a (by omega), zcp_a (by omega)]
      · rw [zcp_a (by omega)]
        by_cases c2 : k = 2
        · subst c2
          rw [zcp_in (by omega) (by omega), ej, zcp_a (by omega)]
        · have c1 : k = 1 := by omega
          subst c1
          rw [zcp_a (by omega), zcp_in (by omega) (by omega), ej]
  · rw [zu_a (by omega)]
    have ej : (j : Int) - 0 = (j : Int) := by omega
    by_cases c6 : k = 6
    · subst c6
      rw [zcp_in (by omega) (by omega), ej, zcp_a (by omega), zcp_a (by omega), zcp_a (by omega), zcp_a (by omega), zcp_a (by omega)]
    · have c5 : k = 5 := by omega
      subst c5
      rw [zcp_a (by omega), zcp_in (by omega) (by omega), ej, zcp_a (by omega), zcp_a (by omega), zcp_a (by omega), zcp_a (by omega)]
  · rw [zu_a (by omega), zcp_a (by omega), zcp_a (by omega), zcp_a (by omega), zcp_a (by omega), zcp_a (by omega), zcp_a (by omega)]
theorem p_at {a : Nat} {x : Int} {σ : zS} (h0 : 0 ≤ x) (h1 : x < σ a 1) (h2 : x < zLI (a + 1)) : g_bs_at a x σ = some (σ (a + 1) x, σ) := by
  unfold g_bs_at
  try dsimp only
  rw [if_neg (by omega), if_neg (by omega), if_neg (by omega), if_pos ⟨h0, h2⟩]
theorem p_bscopy7 {a0 a1 : Nat} {L : Int} (h1 : a0 ≠ a1) (h2 : a0 + 1 ≠ a1) (h3 : a1 + 1 ≠ a0) (hL : zLI (a0 + 1) = L) (hL1 : zLI (a1 + 1) = L) (hL2 : L ≤ 1000) : ∀ (n : Nat) (i : Nat) (σ : zS), σ a0 1 = (i : Int) → (i : Int) ≤ σ a1 1 → σ a1 1 ≤ L → zP' (g_bs_copyFrom_L7 a0 a1 n (i : Int) σ) (fun _ s => s a0 1 = σ a1 1 ∧ (∀ j : Nat, j < i → s (a0 + 1) (j : Int) = σ (a0 + 1) (j : Int)) ∧ (∀ j : Nat, i ≤ j → (j : Int) < σ a1 1 → s (a0 + 1) (j : Int) = σ (a1 + 1) (j : Int)) ∧ ∀ a j, a ≠ a0 → a ≠ a0 + 1 → s a j = σ a j)
  | 0, _, _, _, _, _ => zP'.no
  | n + 1, i, σ, hi, hle, hm => by
    unfold g_bs_copyFrom_L7
    try dsimp only
    refine zP'.ite (fun c => zP'.ret ⟨by show σ a0 1 = _; omega, fun _ _ => rfl, fun j j1 j2 => by omega, fun _ _ _ _ => rfl⟩) (fun c => ?_)
    rw [p_at (by omega) (by omega) (by omega)]
    rw [Option.bind_some]
    try dsimp +instances only
    rw [p_add hL hL2 (by omega), hi, if_pos (by omega)]
    rw [Option.bind_some]
    try dsimp +instances only
    generalize hs : zu (zu σ (a0 + 1) (i : Int) (σ (a1 + 1) (i : Int))) a0 1 ((i : Int) + 1) = s1
    have q : ∀ a j, a ≠ a0 → a ≠ a0 + 1 → s1 a j = σ a j := fun a j k1 k2 => by rw [← hs, zu_a k1, zu_a k2]
    have q1 : s1 a0 1 = ((i + 1 : Nat) : Int) := by rw [← hs, zu_e rfl]; omega
    have q2 : ∀ j : Int, s1 (a0 + 1) j = if j = (i : Int) then σ (a1 + 1) (i : Int) else σ (a0 + 1) j := fun j => by
      rw [← hs, zu_a (by omega)]
      by_cases cj : j = (i : Int)
      · rw [zu_e cj, if_pos cj]
      · rw [zu_i cj, if_neg cj]
    rw [w32_id (x := (i : Int) + 1) (by omega) (by omega), show (i : Int) + 1 = ((i + 1 : Nat) : Int) by omega]
    have qa : s1 a1 1 = σ a1 1 := q a1 1 (Ne.symm h1) (Ne.symm h2)
    refine (p_bscopy7 h1 h2 h3 hL hL1 hL2 n (i + 1) s1 q1 (by rw [qa]; omega) (by rw [qa]; exact hm)).imp (fun _ s p => ?_)
    obtain ⟨p1, p2, p3, p4⟩ := p
    rw [qa] at p1 p3
    refine ⟨p1, fun j hj => ?_, fun j j1 j2 => ?_, fun a j k1 k2 => (p4 a j k1 k2).trans (q a j k1 k2)⟩
    · rw [p2 j (by omega), q2, if_neg (by omega)]
    · by_cases cj : j = i
      · subst cj
        rw [p2 j (by omega), q2, if_pos rfl]
      · rw [p3 j (by omega) j2]
        exact q (a1 + 1) _ h3 (by omega)
theorem p_bscopy {a0 a1 : Nat} {L : Int} {σ : zS} (h1 : a0 ≠ a1) (h2 : a0 + 1 ≠ a1) (h3 : a1 + 1 ≠ a0) (hL : zLI (a0 + 1) = L) (hL1 : zLI (a1 + 1) = L) (hL2 : L ≤ 1000) (h4 : 0 ≤ σ a1 1 ∧ σ a1 1 ≤ L) : zP' (g_bs_copyFrom a0 a1 σ) (fun _ s => s a0 1 = σ a1 1 ∧ (∀ j : Nat, (j : Int) < σ a1 1 → s (a0 + 1) (j : Int) = σ (a1 + 1) (j : Int)) ∧ ∀ a j, a ≠ a0 → a ≠ a0 + 1 → s a j = σ a j) := by
  unfold g_bs_copyFrom
  try dsimp only
  have qa : zu σ a0 1 0 a1 1 = σ a1 1 := zu_a (Ne.symm h1)
  refine (p_bscopy7 h1 h2 h3 hL hL1 hL2 zK 0 (zu σ a0 1 0) (zu_e rfl) (by rw [qa]; omega) (by rw [qa]; exact h4.2)).imp (fun _ s p => ?_)
  obtain ⟨p1, p2, p3, p4⟩ := p
  rw [qa] at p1 p3
  refine ⟨p1, fun j hj => ?_, fun a j k1 k2 => by rw [p4 a j k1 k2, zu_a k1]⟩
  rw [p3 j (by omega) hj, zu_a h3]
theorem p_st_img {σ : zS} (H : CI σ) (ht : σ 63 1 ≤ 10) : zP' (g_st_copyFrom 73 40 σ) (fun _ s => s 74 4 = σ 41 4 ∧ (∀ k : Nat, 1 ≤ k → k ≤ 4 → ∀ j : Nat, j < 60 → s (74 + k) (j : Int) = σ (41 + k) (j : Int)) ∧ (∀ k : Nat, 5 ≤ k → k ≤ 6 → ∀ j : Nat, j ≤ 32 → s (74 + k) (j : Int) = σ (41 + k) (j : Int)) ∧ s 96 1 = σ 63 1 ∧ s 98 5 = σ 65 5 ∧ (∀ t : Nat, t < 10 → (t : Int) < σ 63 1 → s 97 (t : Int) = σ 64 (t : Int)) ∧ (∀ k : Nat, 25 ≤ k → k ≤ 27 → ∀ j : Nat, j < 6 → s (74 + k) (j : Int) = σ (41 + k) (j : Int)) ∧ ∀ a j, (a < 73 ∨ 104 ≤ a) → a < 106 → s a j = σ a j) := by
  have h1 := CI.c1 (a := 63) H (by omega)
  unfold g_st_copyFrom
  obtain ⟨t1, e1, k1, k2, k3, k4⟩ := p_socopy (a0 := 74) (a1 := 41) (by omega) (σ := σ)
  have G1 := zP'.of (g_so_copyFrom_sp (a0 := 74) (a1 := 41) (by omega) (by omega) H) _ _ e1
  rw [e1]
  rw [Option.bind_some]
  try dsimp +instances only
  refine zP'.bind (zP'.of (g_ca_copyFrom_sp (a0 := 81) (a1 := 48) (by omega) (by omega) G1.1)) (fun _ t2 p2 => ?_)
  obtain ⟨H2, G2, -⟩ := p2
  try dsimp +instances only
  refine zP'.bind (zP'.of (g_fi_copyFrom_sp (a0 := 93) (a1 := 60) (by omega) (by omega) H2)) (fun _ t3 p3 => ?_)
  obtain ⟨H3, G3, -⟩ := p3
  try dsimp +instances only
  have f2 : ∀ a j, (a < 81 ∨ 89 ≤ a) → a < 106 → t2 a j = t1 a j := fun a j h h2 => G2 a j (Or.inr (by
    unfold fw_ca_copyFrom fw_se_copyFrom
    repeat' (first | exact nb2 (by omega) | exact nb (by omega) | exact rfl | refine orf ?_ ?_)))
  have f3 : ∀ a j, (a < 93 ∨ 96 ≤ a) → a < 106 → t3 a j = t2 a j := fun a j h h2 => G3 a j (Or.inr (by
    unfold fw_fi_copyFrom
    repeat' (first | exact nb2 (by omega) | exact nb (by omega) | exact rfl | refine orf ?_ ?_)))
  have c23 : t3 63 1 = σ 63 1 := by rw [f3 _ _ (by omega) (by omega), f2 _ _ (by omega) (by omega), k4 _ _ (by omega)]
  refine zP'.bind (p_bscopy (a0 := 96) (a1 := 63) (L := 10) (σ := t3) (by decide) (by decide) (by decide) rfl rfl (by decide) (by rw [c23]; omega)) (fun _ t4 p4 => ?_)
  obtain ⟨m1, m2, m3⟩ := p4
  try dsimp +instances only
  unfold g_wa_copyFrom
  rw [Option.bind_some]
  try dsimp +instances only
  generalize hs : zu (zcp (zcp (zcp t4 (65 + 1) 0 (98 + 1) 0 6) (65 + 2) 0 (98 + 2) 0 6) (65 + 3) 0 (98 + 3) 0 6) 98 5 (zcp (zcp (zcp t4 (65 + 1) 0 (98 + 1) 0 6) (65 + 2) 0 (98 + 2) 0 6) (65 + 3) 0 (98 + 3) 0 6 65 5) = t5
  have f5 : ∀ a j, (a < 98 ∨ 102 ≤ a) → t5 a j = t4 a j := fun a j h => by rw [← hs, zu_a (by omega), zcp_a (by omega), zcp_a (by omega), zcp_a (by omega)]
  have g5 : t5 98 5 = t4 65 5 := by rw [← hs, zu_e rfl, zcp_a (by omega), zcp_a (by omega), zcp_a (by omega)]
  have lo : ∀ a j, (74 ≤ a ∧ a ≤ 80) → t5 a j = t1 a j := fun a j h => by
    rw [f5 a j (by omega), m3 a j (by omega) (by omega), f3 a j (by omega) (by omega), f2 a j (by omega) (by omega)]
  refine zP'.ret ⟨?_, fun k i1 i2 j hj => ?_, fun k i1 i2 j hj => ?_, ?_, ?_, fun t _ ht2 => ?_, fun k i1 i2 j hj => ?_, fun a j h h2 => ?_⟩
  · show t5 74 4 = _
    rw [lo _ _ (by omega)]; exact k1
  · show t5 (74 + k) _ = _
    rw [lo _ _ (by omega)]; exact k2 k i1 i2 j hj
  · show t5 (74 + k) _ = _
    rw [lo _ _ (by omega)]; exact k3 k i1 i2 j hj
  · show t5 96 1 = _
    rw [f5 _ _ (by omega), m1, c23]
  · show t5 98 5 = _
    rw [g5, m3 _ _ (by decide) (by decide), f3 _ _ (by omega) (by omega), f2 _ _ (by omega) (by omega), k4 _ _ (by omega)]
  · show t5 97 _ = _
    rw [f5 _ _ (by omega), m2 t (by rw [c23]; exact ht2)]
    show t3 64 _ = _
    rw [f3 _ _ (by omega) (by omega), f2 _ _ (by omega) (by omega), k4 _ _ (by omega)]
  · have e4 : ∀ j2, t4 (41 + k) j2 = σ (41 + k) j2 := fun j2 => by
      rw [m3 _ _ (by omega) (by omega), f3 _ _ (by omega) (by omega), f2 _ _ (by omega) (by omega), k4 _ _ (by omega)]
    show t5 (74 + k) _ = _
    rw [← hs, zu_a (by omega)]
    have ej : (j : Int) - 0 = (j : Int) := by omega
    by_cases c27 : k = 27
    · subst c27
      rw [zcp_in (by omega) (by omega), ej, zcp_a (by omega), zcp_a (by omega)]
      exact e4 _
    · rw [zcp_a (by omega)]
      by_cases c26 : k = 26
      · subst c26
        rw [zcp_in (by omega) (by omega), ej, zcp_a (by omega)]
        exact e4 _
      · have c25 : k = 25 := by omega
        subst c25
        rw [zcp_a (by omega), zcp_in (by omega) (by omega), ej]
        exact e4 _
  · show t5 a j = _
    rw [f5 a j (by omega), m3 a j (by omega) (by omega), f3 a j (by omega) h2, f2 a j (by omega) h2, k4 a j (by omega)]
theorem p_st_und {σ : zS} (H : CI σ) (ht : σ 96 1 ≤ 10) : zP' (g_st_copyFrom 40 73 σ) (fun _ s => s 41 4 = σ 74 4 ∧ (∀ k : Nat, 1 ≤ k → k ≤ 4 → ∀ j : Nat, j < 60 → s (41 + k) (j : Int) = σ (74 + k) (j : Int)) ∧ (∀ k : Nat, 5 ≤ k → k ≤ 6 → ∀ j : Nat, j ≤ 32 → s (41 + k) (j : Int) = σ (74 + k) (j : Int)) ∧ s 63 1 = σ 96 1 ∧ s 65 5 = σ 98 5 ∧ (∀ t : Nat, t < 10 → (t : Int) < σ 96 1 → s 64 (t : Int) = σ 97 (t : Int)) ∧ (∀ k : Nat, 25 ≤ k → k ≤ 27 → ∀ j : Nat, j < 6 → s (41 + k) (j : Int) = σ (74 + k) (j : Int)) ∧ ∀ a j, (a < 40 ∨ 71 ≤ a) → a < 106 → s a j = σ a j) := by
  have h1 := CI.c1 (a := 96) H (by omega)
  unfold g_st_copyFrom
  obtain ⟨t1, e1, k1, k2, k3, k4⟩ := p_socopy (a0 := 41) (a1 := 74) (by omega) (σ := σ)
  have G1 := zP'.of (g_so_copyFrom_sp (a0 := 41) (a1 := 74) (by omega) (by omega) H) _ _ e1
  rw [e1]
  rw [Option.bind_some]
  try dsimp +instances only
  refine zP'.bind (zP'.of (g_ca_copyFrom_sp (a0 := 48) (a1 := 81) (by omega) (by omega) G1.1)) (fun _ t2 p2 => ?_)
  obtain ⟨H2, G2, -⟩ := p2
  try dsimp +instances only
  refine zP'.bind (zP'.of (g_fi_copyFrom_sp (a0 := 60) (a1 := 93) (by omega) (by omega) H2)) (fun _ t3 p3 => ?_)
  obtain ⟨H3, G3, -⟩ := p3
  try dsimp +instances only
  have f2 : ∀ a j, (a < 48 ∨ 56 ≤ a) → a < 106 → t2 a j = t1 a j := fun a j h h2 => G2 a j (Or.inr (by
    unfold fw_ca_copyFrom fw_se_copyFrom
    repeat' (first | exact nb2 (by omega) | exact nb (by omega) | exact rfl | refine orf ?_ ?_)))
  have f3 : ∀ a j, (a < 60 ∨ 63 ≤ a) → a < 106 → t3 a j = t2 a j := fun a j h h2 => G3 a j (Or.inr (by
    unfold fw_fi_copyFrom
    repeat' (first | exact nb2 (by omega) | exact nb (by omega) | exact rfl | refine orf ?_ ?_)))
  have c23 : t3 96 1 = σ 96 1 := by rw [f3 _ _ (by omega) (by omega), f2 _ _ (by omega) (by omega), k4 _ _ (by omega)]
  refine zP'.bind (p_bscopy (a0 := 63) (a1 := 96) (L := 10) (σ := t3) (by decide) (by decide) (by decide) rfl rfl (by decide) (by rw [c23]; omega)) (fun _ t4 p4 => ?_)
  obtain ⟨m1, m2, m3⟩ := p4
  try dsimp +instances only
  unfold g_wa_copyFrom
  rw [Option.bind_some]
  try dsimp +instances only
  generalize hs : zu (zcp (zcp (zcp t4 (98 + 1) 0 (65 + 1) 0 6) (98 + 2) 0 (65 + 2) 0 6) (98 + 3) 0 (65 + 3) 0 6) 65 5 (zcp (zcp (zcp t4 (98 + 1) 0 (65 + 1) 0 6) (98 + 2) 0 (65 + 2) 0 6) (98 + 3) 0 (65 + 3) 0 6 98 5) = t5
  have f5 : ∀ a j, (a < 65 ∨ 69 ≤ a) → t5 a j = t4 a j := fun a j h => by rw [← hs, zu_a (by omega), zcp_a (by omega), zcp_a (by omega), zcp_a (by omega)]
  have g5 : t5 65 5 = t4 98 5 := by rw [← hs, zu_e rfl, zcp_a (by omega), zcp_a (by omega), zcp_a (by omega)]
  have lo : ∀ a j, (41 ≤ a ∧ a ≤ 47) → t5 a j = t1 a j := fun a j h => by
    rw [f5 a j (by omega), m3 a j (by omega) (by omega), f3 a j (by omega) (by omega), f2 a j (by omega) (by omega)]
  refine zP'.ret ⟨?_, fun k i1 i2 j hj => ?_, fun k i1 i2 j hj => ?_, ?_, ?_, fun t _ ht2 => ?_, fun k i1 i2 j hj => ?_, fun a j h h2 => ?_⟩
  · show t5 41 4 = _
    rw [lo _ _ (by omega)]; exact k1
  · show t5 (41 + k) _ = _
    rw [lo _ _ (by omega)]; exact k2 k i1 i2 j hj
  · show t5 (41 + k) _ = _
    rw [lo _ _ (by omega)]; exact k3 k i1 i2 j hj
  · show t5 63 1 = _
    rw [f5 _ _ (by omega), m1, c23]
  · show t5 65 5 = _
    rw [g5, m3 _ _ (by decide) (by decide), f3 _ _ (by omega) (by omega), f2 _ _ (by omega) (by omega), k4 _ _ (by omega)]
  · show t5 64 _ = _
    rw [f5 _ _ (by omega), m2 t (by rw [c23]; exact ht2)]
    show t3 97 _ = _
    rw [f3 _ _ (by omega) (by omega), f2 _ _ (by omega) (by omega), k4 _ _ (by omega)]
  · have e4 : ∀ j2, t4 (74 + k) j2 = σ (74 + k) j2 := fun j2 => by
      rw [m3 _ _ (by omega) (by omega), f3 _ _ (by omega) (by omega), f2 _ _ (by omega) (by omega), k4 _ _ (by omega)]
    show t5 (41 + k) _ = _
    rw [← hs, zu_a (by omega)]
    have ej : (j : Int) - 0 = (j : Int) := by omega
    by_cases c27 : k = 27
    · subst c27
      rw [zcp_in (by omega) (by omega), ej, zcp_a (by omega), zcp_a (by omega)]
      exact e4 _
    · rw [zcp_a (by omega)]
      by_cases c26 : k = 26
      · subst c26
        rw [zcp_in (by omega) (by omega), ej, zcp_a (by omega)]
        exact e4 _
      · have c25 : k = 25 := by omega
        subst c25
        rw [zcp_a (by omega), zcp_in (by omega) (by omega), ej]
        exact e4 _
  · show t5 a j = _
    rw [f5 a j (by omega), m3 a j (by omega) (by omega), f3 a j (by omega) h2, f2 a j (by omega) h2, k4 a j (by omega)]
