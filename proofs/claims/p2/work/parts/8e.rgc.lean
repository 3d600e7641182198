/-! THE REGIONS alike: what stands between the calls -/
def stB (σ : zS) (a : Nat) : Prop := (0 ≤ σ a 3 ∧ σ a 3 ≤ 2) ∧ (σ a 4 = 0 ∨ σ a 4 = 1) ∧ (σ a 5 = 0 ∨ σ a 5 = 1)
def RG1 (K : Int) (σ s : zS) (c : Nat) : Prop := ∃ (L : List Rg) (ct : Int → Int), cRs σ c L ∧ (∀ i : Int, 8 ≤ i → i ≤ 15 → σ c i = ct i) ∧ mRs s L ∧ mCt s ct ∧ asc L (ct 8) ∧ (0 ≤ ct 8 ∧ ct 8 ≤ K) ∧ L.length ≤ 12 ∧ gL L
def RGp (K : Int) (σ : zS) : Prop := RG1 K σ σ 48 ∧ stB σ 50 ∧ (σ 143 6 ≠ 0 → RG1 K σ (imgS σ) 81 ∧ stB σ 83)
theorem RG1.mono {K K' : Int} {σ s : zS} {c : Nat} (h : RG1 K σ s c) (e : K ≤ K') : RG1 K' σ s c := by
  obtain ⟨L, ct, h1, h2, h3, h4, h5, h6, h7⟩ := h
  exact ⟨L, ct, h1, h2, h3, h4, h5, ⟨h6.1, by omega⟩, h7⟩
theorem RGp.mono {K K' : Int} {σ : zS} (h : RGp K σ) (e : K ≤ K') : RGp K' σ := ⟨h.1.mono e, h.2.1, fun k => ⟨(h.2.2 k).1.mono e, (h.2.2 k).2⟩⟩
theorem RG1.cp {K : Int} {σ s σ' s' : zS} {c c' : Nat} (h : RG1 K σ s c) (e2 : σ' c' 2 = σ c 2) (e8 : ∀ i : Int, 8 ≤ i → i ≤ 15 → σ' c' i = σ c i) (e : ∀ f : Nat, 3 ≤ f → f ≤ 7 → ∀ j : Int, 0 ≤ j → j < 181 → σ' (c' + f) j = σ (c + f) j) (em : ∀ j : Int, (0 ≤ j ∧ j < 8) ∨ (340 ≤ j ∧ j < 2740) → s' 144 j = s 144 j) (ew : ∀ j : Int, j = 0 ∨ (121 ≤ j ∧ j < 361) → s' 147 j = s 147 j) : RG1 K σ' s' c' := by
  obtain ⟨L, ct, h1, h2, h3, h4, h5, h6, h7⟩ := h
  refine ⟨L, ct, ⟨e2.trans h1.1, fun k hk => ?_⟩, fun i i1 i2 => (e8 i i1 i2).trans (h2 i i1 i2), h3.mv (fun j k => em j (by omega)) (fun j j1 j2 => ew j (by omega)) (by omega), h4.mv (fun j j1 j2 => em j (by omega)) (ew 0 (by omega)), h5, h6, h7⟩
  have g := h1.2 k hk
  unfold cRg at *
  rw [e 4 (by decide) (by decide) _ (by omega) (by omega), e 6 (by decide) (by decide) _ (by omega) (by omega), e 3 (by decide) (by decide) _ (by omega) (by omega), e 5 (by decide) (by decide) _ (by omega) (by omega), e 7 (by decide) (by decide) _ (by omega) (by omega)]
  exact g
theorem stB.mv {σ s : zS} {a b : Nat} (h : stB σ a) (e : ∀ j : Int, 0 ≤ j → j < 7 → s b j = σ a j) : stB s b := by
  unfold stB at *
  rw [e 3 (by decide) (by decide), e 4 (by decide) (by decide), e 5 (by decide) (by decide)]
  exact h
theorem imgS_a (σ : zS) (j : Int) : imgS σ 144 j = σ 145 j := rfl
theorem imgS_w (σ : zS) (j : Int) : imgS σ 147 j = σ 148 j := rfl
theorem RGp_keep {K : Int} {σ s : zS} (h : RGp K σ) (e : ∀ a j, ((a = 48 ∨ (50 ≤ a ∧ a ≤ 55) ∨ a = 81 ∨ (83 ≤ a ∧ a ≤ 88)) ∨ (a = 144 ∧ ((0 ≤ j ∧ j < 8) ∨ (340 ≤ j ∧ j < 2740))) ∨ (a = 147 ∧ (j = 0 ∨ (121 ≤ j ∧ j < 361))) ∨ a = 145 ∨ a = 148 ∨ (a = 143 ∧ j = 6)) → s a j = σ a j) : RGp K s := by
  have e8 : ∀ i : Int, 8 ≤ i → i ≤ 15 → s 48 i = σ 48 i := fun i i1 i2 => e 48 i (Or.inl (by decide))
  have e81 : ∀ i : Int, 8 ≤ i → i ≤ 15 → s 81 i = σ 81 i := fun i i1 i2 => e 81 i (Or.inl (by decide))
  refine ⟨h.1.cp (e 48 2 (Or.inl (by decide))) e8 (fun f f1 f2 j j1 j2 => e (48 + f) j (Or.inl (by omega))) (fun j k => e 144 j (Or.inr (by omega))) (fun j k => e 147 j (Or.inr (by omega))), h.2.1.mv (fun j _ _ => e 50 j (Or.inl (by decide))), fun k => ?_⟩
  rw [e 143 6 (Or.inr (by omega))] at k
  obtain ⟨h1, h2⟩ := h.2.2 k
  exact ⟨h1.cp (e 81 2 (Or.inl (by decide))) e81 (fun f f1 f2 j j1 j2 => e (81 + f) j (Or.inl (by omega))) (fun j k => e 145 j (Or.inr (by omega))) (fun j k => e 148 j (Or.inr (by omega))), h2.mv (fun j _ _ => e 83 j (Or.inl (by decide)))⟩
