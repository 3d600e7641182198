/-! THE REFERENCE over the typed memory: kept and brought back; done again; the plain answers -/
def kpS (σ : zS) (a b : Nat) : zS := fun x j => if x = a ∧ 0 ≤ j ∧ j < 2740 then σ 144 j else if x = b ∧ 0 ≤ j ∧ j < 361 then σ 147 j else σ x j
theorem s_keeps26 {σ : zS} {a b : Nat} (ha : a ≠ 144 ∧ a ≠ 147 ∧ b ≠ 144 ∧ b ≠ 147 ∧ a ≠ b) : ∀ (d k n : Nat) (s : zS), k + d = 361 → d < n → s = (fun x j => if x = a ∧ 0 ≤ j ∧ j < 2740 then σ 144 j else if x = b ∧ 0 ≤ j ∧ j < (k : Int) then σ 147 j else σ x j) → g_m_keeps_L26 a b n (k : Int) s = some ((), kpS σ a b)
  | _, _, 0, _, _, h, _ => absurd h (Nat.not_lt_zero _)
  | 0, k, n + 1, s, hk, _, hs => by
    have : k = 361 := by omega
    subst this
    unfold g_m_keeps_L26
    rw [if_pos (by omega), hs]
    rfl
  | d + 1, k, n + 1, s, hk, hn, hs => by
    have e147 : s 147 (k : Int) = σ 147 (k : Int) := by
      rw [hs]
      show (if 147 = a ∧ _ then _ else if 147 = b ∧ _ then _ else _) = _
      rw [if_neg (fun e => ha.2.1 e.1.symm), if_neg (fun e => ha.2.2.2.1 e.1.symm)]
    have ih := s_keeps26 (σ := σ) ha d (k + 1) n (zu s b (k : Int) (s 147 (k : Int))) (by omega) (by omega) (by
      funext x j
      rw [e147, hs]
      unfold zu
      show (if x = b ∧ j = (k : Int) then σ 147 (k : Int) else if x = a ∧ 0 ≤ j ∧ j < 2740 then σ 144 j else if x = b ∧ 0 ≤ j ∧ j < (k : Int) then σ 147 j else σ x j) = if x = a ∧ 0 ≤ j ∧ j < 2740 then σ 144 j else if x = b ∧ 0 ≤ j ∧ j < ((k + 1 : Nat) : Int) then σ 147 j else σ x j
      by_cases hx : x = b
      · subst hx
        by_cases hj : j = (k : Int)
        · subst hj
          rw [if_pos ⟨rfl, rfl⟩, if_neg (fun e => ha.2.2.2.2 e.1.symm), if_pos ⟨rfl, by omega, by omega⟩]
        · have hna : ¬ (x = a ∧ 0 ≤ j ∧ j < 2740) := fun e => ha.2.2.2.2 e.1.symm
          rw [if_neg (fun e => hj e.2), if_neg hna, if_neg hna]
          by_cases hc : 0 ≤ j ∧ j < (k : Int)
          · rw [if_pos ⟨rfl, hc⟩, if_pos ⟨rfl, by omega, by omega⟩]
          · rw [if_neg (fun e => hc e.2), if_neg (fun e => hc ⟨e.2.1, by omega⟩)]
      · rw [if_neg (fun e => hx e.1), if_neg (show ¬ (x = b ∧ 0 ≤ j ∧ j < (k : Int)) from fun e => hx e.1), if_neg (show ¬ (x = b ∧ 0 ≤ j ∧ j < ((k + 1 : Nat) : Int)) from fun e => hx e.1)])
    unfold g_m_keeps_L26
    rw [if_neg (by omega), if_pos (by omega), if_pos (by omega), w32_id (x := (k : Int) + 1) (by omega) (by omega)]
    rw [show ((k + 1 : Nat) : Int) = (k : Int) + 1 by omega] at ih
    exact ih
theorem s_keeps2 {σ : zS} {a b : Nat} (ha : a ≠ 144 ∧ a ≠ 147 ∧ b ≠ 144 ∧ b ≠ 147 ∧ a ≠ b) : ∀ (d k n : Nat) (s : zS), k + d = 2740 → d < n → s = (fun x j => if x = a ∧ 0 ≤ j ∧ j < (k : Int) then σ 144 j else σ x j) → g_m_keeps_L2 a b n (k : Int) s = some ((), kpS σ a b)
  | _, _, 0, _, _, h, _ => absurd h (Nat.not_lt_zero _)
  | 0, k, n + 1, s, hk, _, hs => by
    have : k = 2740 := by omega
    subst this
    unfold g_m_keeps_L2
    rw [if_pos (by omega)]
    refine s_keeps26 ha 361 0 zK s (by omega) (by show _ < 1000000; omega) ?_
    rw [hs]
    funext x j
    show (if x = a ∧ 0 ≤ j ∧ j < 2740 then σ 144 j else σ x j) = if x = a ∧ 0 ≤ j ∧ j < 2740 then σ 144 j else if x = b ∧ 0 ≤ j ∧ j < ((0 : Nat) : Int) then σ 147 j else σ x j
    rw [if_neg (show ¬ (x = b ∧ 0 ≤ j ∧ j < ((0 : Nat) : Int)) from fun e => by omega)]
  | d + 1, k, n + 1, s, hk, hn, hs => by
    have e144 : s 144 (k : Int) = σ 144 (k : Int) := by
      rw [hs]
      show (if 144 = a ∧ _ then _ else _) = _
      rw [if_neg (fun e => ha.1 e.1.symm)]
    have ih := s_keeps2 (σ := σ) ha d (k + 1) n (zu s a (k : Int) (s 144 (k : Int))) (by omega) (by omega) (by
      funext x j
      rw [e144, hs]
      unfold zu
      show (if x = a ∧ j = (k : Int) then σ 144 (k : Int) else if x = a ∧ 0 ≤ j ∧ j < (k : Int) then σ 144 j else σ x j) = if x = a ∧ 0 ≤ j ∧ j < ((k + 1 : Nat) : Int) then σ 144 j else σ x j
      by_cases hx : x = a
      · subst hx
        by_cases hj : j = (k : Int)
        · subst hj
          rw [if_pos ⟨rfl, rfl⟩, if_pos ⟨rfl, by omega, by omega⟩]
        · rw [if_neg (fun e => hj e.2)]
          by_cases hc : 0 ≤ j ∧ j < (k : Int)
          · rw [if_pos ⟨rfl, hc⟩, if_pos ⟨rfl, by omega, by omega⟩]
          · rw [if_neg (fun e => hc e.2), if_neg (fun e => hc ⟨e.2.1, by omega⟩)]
      · rw [if_neg (fun e => hx e.1), if_neg (fun e => hx e.1), if_neg (fun e => hx e.1)])
    unfold g_m_keeps_L2
    rw [if_neg (by omega), if_pos (by omega), if_pos (by omega), w32_id (x := (k : Int) + 1) (by omega) (by omega)]
    rw [show ((k + 1 : Nat) : Int) = (k : Int) + 1 by omega] at ih
    exact ih
theorem s_keeps {σ : zS} {a b : Nat} (ha : a ≠ 144 ∧ a ≠ 147 ∧ b ≠ 144 ∧ b ≠ 147 ∧ a ≠ b) : g_m_keeps a b σ = some ((), kpS σ a b) := by
  unfold g_m_keeps
  refine s_keeps2 ha 2740 0 zK σ (by omega) (by show _ < 1000000; omega) ?_
  funext x j
  rw [if_neg (fun e => by omega)]
def bkS (σ : zS) (a b : Nat) : zS := fun x j => if x = 144 ∧ 0 ≤ j ∧ j < 2740 then σ a j else if x = 147 ∧ 0 ≤ j ∧ j < 361 then σ b j else σ x j
theorem s_back26 {σ : zS} {a b : Nat} (ha : a ≠ 144 ∧ a ≠ 147 ∧ b ≠ 144 ∧ b ≠ 147) : ∀ (d k n : Nat) (s : zS), k + d = 361 → d < n → s = (fun x j => if x = 144 ∧ 0 ≤ j ∧ j < 2740 then σ a j else if x = 147 ∧ 0 ≤ j ∧ j < (k : Int) then σ b j else σ x j) → g_m_back_L26 a b n (k : Int) s = some ((), bkS σ a b)
  | _, _, 0, _, _, h, _ => absurd h (Nat.not_lt_zero _)
  | 0, k, n + 1, s, hk, _, hs => by
    have : k = 361 := by omega
    subst this
    unfold g_m_back_L26
    rw [if_pos (by omega), hs]
    rfl
  | d + 1, k, n + 1, s, hk, hn, hs => by
    have eb : s b (k : Int) = σ b (k : Int) := by
      rw [hs]
      show (if b = 144 ∧ _ then _ else if b = 147 ∧ _ then _ else _) = _
      rw [if_neg (fun e => ha.2.2.1 e.1), if_neg (fun e => ha.2.2.2 e.1)]
    have ih := s_back26 (σ := σ) ha d (k + 1) n (zu s 147 (k : Int) (s b (k : Int))) (by omega) (by omega) (by
      funext x j
      rw [eb, hs]
      unfold zu
      show (if x = 147 ∧ j = (k : Int) then σ b (k : Int) else if x = 144 ∧ 0 ≤ j ∧ j < 2740 then σ a j else if x = 147 ∧ 0 ≤ j ∧ j < (k : Int) then σ b j else σ x j) = if x = 144 ∧ 0 ≤ j ∧ j < 2740 then σ a j else if x = 147 ∧ 0 ≤ j ∧ j < ((k + 1 : Nat) : Int) then σ b j else σ x j
      by_cases hx : x = 147
      · subst hx
        by_cases hj : j = (k : Int)
        · subst hj
          rw [if_pos ⟨rfl, rfl⟩, if_neg (fun e => by omega), if_pos ⟨rfl, by omega, by omega⟩]
        · have hna : ¬ (147 = 144 ∧ 0 ≤ j ∧ j < 2740) := fun e => absurd e.1 (by decide)
          rw [if_neg (fun e => hj e.2), if_neg hna, if_neg hna]
          by_cases hc : 0 ≤ j ∧ j < (k : Int)
          · rw [if_pos ⟨rfl, hc⟩, if_pos ⟨rfl, by omega, by omega⟩]
          · rw [if_neg (fun e => hc e.2), if_neg (fun e => hc ⟨e.2.1, by omega⟩)]
      · rw [if_neg (fun e => hx e.1), if_neg (show ¬ (x = 147 ∧ 0 ≤ j ∧ j < (k : Int)) from fun e => hx e.1), if_neg (show ¬ (x = 147 ∧ 0 ≤ j ∧ j < ((k + 1 : Nat) : Int)) from fun e => hx e.1)])
    unfold g_m_back_L26
    rw [if_neg (by omega), if_pos (by omega), if_pos (by omega), w32_id (x := (k : Int) + 1) (by omega) (by omega)]
    rw [show ((k + 1 : Nat) : Int) = (k : Int) + 1 by omega] at ih
    exact ih
theorem s_back2 {σ : zS} {a b : Nat} (ha : a ≠ 144 ∧ a ≠ 147 ∧ b ≠ 144 ∧ b ≠ 147) : ∀ (d k n : Nat) (s : zS), k + d = 2740 → d < n → s = (fun x j => if x = 144 ∧ 0 ≤ j ∧ j < (k : Int) then σ a j else σ x j) → g_m_back_L2 a b n (k : Int) s = some ((), bkS σ a b)
  | _, _, 0, _, _, h, _ => absurd h (Nat.not_lt_zero _)
  | 0, k, n + 1, s, hk, _, hs => by
    have : k = 2740 := by omega
    subst this
    unfold g_m_back_L2
    rw [if_pos (by omega)]
    refine s_back26 ha 361 0 zK s (by omega) (by show _ < 1000000; omega) ?_
    rw [hs]
    funext x j
    show (if x = 144 ∧ 0 ≤ j ∧ j < 2740 then σ a j else σ x j) = if x = 144 ∧ 0 ≤ j ∧ j < 2740 then σ a j else if x = 147 ∧ 0 ≤ j ∧ j < ((0 : Nat) : Int) then σ b j else σ x j
    rw [if_neg (show ¬ (x = 147 ∧ 0 ≤ j ∧ j < ((0 : Nat) : Int)) from fun e => by omega)]
  | d + 1, k, n + 1, s, hk, hn, hs => by
    have ea : s a (k : Int) = σ a (k : Int) := by
      rw [hs]
      show (if a = 144 ∧ _ then _ else _) = _
      rw [if_neg (fun e => ha.1 e.1)]
    have ih := s_back2 (σ := σ) ha d (k + 1) n (zu s 144 (k : Int) (s a (k : Int))) (by omega) (by omega) (by
      funext x j
      rw [ea, hs]
      unfold zu
      show (if x = 144 ∧ j = (k : Int) then σ a (k : Int) else if x = 144 ∧ 0 ≤ j ∧ j < (k : Int) then σ a j else σ x j) = if x = 144 ∧ 0 ≤ j ∧ j < ((k + 1 : Nat) : Int) then σ a j else σ x j
      by_cases hx : x = 144
      · subst hx
        by_cases hj : j = (k : Int)
        · subst hj
          rw [if_pos ⟨rfl, rfl⟩, if_pos ⟨rfl, by omega, by omega⟩]
        · rw [if_neg (fun e => hj e.2)]
          by_cases hc : 0 ≤ j ∧ j < (k : Int)
          · rw [if_pos ⟨rfl, hc⟩, if_pos ⟨rfl, by omega, by omega⟩]
          · rw [if_neg (fun e => hc e.2), if_neg (fun e => hc ⟨e.2.1, by omega⟩)]
      · rw [if_neg (fun e => hx e.1), if_neg (fun e => hx e.1), if_neg (fun e => hx e.1)])
    unfold g_m_back_L2
    rw [if_neg (by omega), if_pos (by omega), if_pos (by omega), w32_id (x := (k : Int) + 1) (by omega) (by omega)]
    rw [show ((k + 1 : Nat) : Int) = (k : Int) + 1 by omega] at ih
    exact ih
theorem s_back {σ : zS} {a b : Nat} (ha : a ≠ 144 ∧ a ≠ 147 ∧ b ≠ 144 ∧ b ≠ 147) : g_m_back a b σ = some ((), bkS σ a b) := by
  unfold g_m_back
  refine s_back2 ha 2740 0 zK σ (by omega) (by show _ < 1000000; omega) ?_
  funext x j
  rw [if_neg (fun e => by omega)]
