/-! THE FIND alike -/
def FNi (s : zS) : Prop := s 93 2 = s 145 8 ∧ ∀ j : Nat, j < 60 → (j : Int) < s 93 2 → s 94 (j : Int) = s 145 (200 + (j : Int)) ∧ s 95 (j : Int) = s 148 (61 + (j : Int))
def FIp (σ : zS) : Prop := FNe σ ∧ (σ 143 6 ≠ 0 → FNi σ)
theorem FNe_keep {σ s : zS} (h : FNe σ) (e : ∀ a j, ((a = 60 ∧ j = 2) ∨ a = 61 ∨ a = 62 ∨ (a = 144 ∧ (j = 8 ∨ (200 ≤ j ∧ j < 260))) ∨ (a = 147 ∧ 61 ≤ j ∧ j < 121)) → s a j = σ a j) : FNe s := by
  refine ⟨by rw [e 60 2 (by omega), e 144 8 (by omega)]; exact h.1, fun j j6 hj => ?_⟩
  rw [e 60 2 (by omega)] at hj
  rw [e 61 _ (by omega), e 62 _ (by omega), e 144 _ (by omega), e 147 _ (by omega)]
  exact h.2 j j6 hj
theorem FNi_keep {σ s : zS} (h : σ 143 6 ≠ 0 → FNi σ) (e : ∀ a j, ((a = 93 ∧ j = 2) ∨ a = 94 ∨ a = 95 ∨ a = 145 ∨ a = 148 ∨ (a = 143 ∧ j = 6)) → s a j = σ a j) : s 143 6 ≠ 0 → FNi s := fun k => by
  rw [e 143 6 (by omega)] at k
  obtain ⟨h1, h2⟩ := h k
  refine ⟨by rw [e 93 2 (by omega), e 145 8 (by omega)]; exact h1, fun j j6 hj => ?_⟩
  rw [e 93 2 (by omega)] at hj
  rw [e 94 _ (by omega), e 95 _ (by omega), e 145 _ (by omega), e 148 _ (by omega)]
  exact h2 j j6 hj
theorem FIp_keep {σ s : zS} (h : FIp σ) (e : ∀ a j, ((a = 60 ∧ j = 2) ∨ (a = 61) ∨ (a = 62) ∨ (a = 93 ∧ j = 2) ∨ (a = 94) ∨ (a = 95) ∨ (a = 144 ∧ (j = 8 ∨ (200 ≤ j ∧ j < 260))) ∨ (a = 147 ∧ 61 ≤ j ∧ j < 121) ∨ a = 145 ∨ a = 148 ∨ (a = 143 ∧ j = 6)) → s a j = σ a j) : FIp s := ⟨FNe_keep h.1 (fun a j k => e a j (by omega)), FNi_keep h.2 (fun a j k => e a j (by omega))⟩
