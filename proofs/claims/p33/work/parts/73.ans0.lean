/-! THE ANSWERS alike -/
theorem ANe_keep {σ s : zS} (h : ANe σ) (e : ∀ a j, ((a = 39 ∧ j = 9) ∨ (a = 128) ∨ (a = 143 ∧ j = 27) ∨ a = 162) → s a j = σ a j) : ANe s := by
  refine ⟨by rw [e 39 9 (by omega), e 143 27 (by omega)]; exact h.1, fun j j8 hj => ?_⟩
  rw [e 39 9 (by omega)] at hj
  rw [e 128 _ (by omega), e 162 _ (by omega)]
  exact h.2 j j8 hj
