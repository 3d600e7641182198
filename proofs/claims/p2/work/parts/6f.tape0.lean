/-! THE TAPES alike -/
def TPr (σ : zS) : Prop := ∀ j : Int, 0 ≤ j → j < σ 120 1 → σ 121 j = σ 159 j ∧ 1 ≤ σ 121 j ∧ σ 121 j ≤ 127
theorem TPr_keep {σ s : zS} (h : TPr σ) (e : ∀ a j, ((a = 121) ∨ (a = 120 ∧ j = 1) ∨ a = 159) → s a j = σ a j) : TPr s := fun j h1 h2 => by
  rw [e 120 1 (by omega)] at h2
  rw [e 121 j (by omega), e 159 j (by omega)]
  exact h j h1 h2
