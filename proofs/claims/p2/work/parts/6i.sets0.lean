/-! THE SETTINGS alike -/
def SEt (σ : zS) : Prop := (∀ j : Int, 0 ≤ j → j < 7 → σ 50 j = σ 144 (11 + j)) ∧ (σ 143 6 ≠ 0 → ∀ j : Int, 0 ≤ j → j < 7 → σ 83 j = σ 145 (11 + j))
theorem SEt_keep {σ s : zS} (h : SEt σ) (e : ∀ a j, ((a = 50) ∨ (a = 83) ∨ (a = 144 ∧ 11 ≤ j ∧ j < 18) ∨ a = 145 ∨ (a = 143 ∧ j = 6)) → s a j = σ a j) : SEt s := by
  refine ⟨fun j h1 h2 => ?_, fun k j h1 h2 => ?_⟩
  · rw [e 50 j (by omega), e 144 _ (by omega)]
    exact h.1 j h1 h2
  · rw [e 143 6 (by omega)] at k
    rw [e 83 j (by omega), e 145 _ (by omega)]
    exact h.2 k j h1 h2
