/-! THE LISTS alike -/
def LIe (σ : zS) : Prop := ∀ l : Nat, l < 6 → ∀ j : Nat, j < 60 → (j : Int) < σ 142 (l : Int) → σ (136 + l) (j : Int) = σ 167 (60 * (l : Int) + (j : Int))
theorem LIe_keep {σ s : zS} (h : LIe σ) (e : ∀ a j, ((a = 136) ∨ (a = 137) ∨ (a = 138) ∨ (a = 139) ∨ (a = 140) ∨ (a = 141) ∨ (a = 142) ∨ a = 167) → s a j = σ a j) : LIe s := fun l hl j j6 hj => by
  rw [e 142 _ (by omega)] at hj
  rw [e (136 + l) _ (by omega), e 167 _ (by omega)]
  exact h l hl j j6 hj
