/-! THE REGIONS alike: the start -/
theorem InvR_s0 {K : Int} (hK : 0 ≤ K) : InvR K s0 := by
  have e0 : s0 48 2 = 0 ∧ s0 144 0 = 0 ∧ s0 48 8 = 0 ∧ s0 144 1 = s0 48 8 ∧ s0 147 0 = s0 48 9 := by decide +kernel
  have e1 : ∀ n : Fin 6, s0 144 (2 + ((n.val : Nat) : Int)) = s0 48 (10 + ((n.val : Nat) : Int)) := by decide +kernel
  have e2 : stB s0 50 := by unfold stB; decide +kernel
  refine ⟨InvS_s0, ⟨[], s0 48, ⟨e0.1, fun k hk => absurd hk (Nat.not_lt_zero k)⟩, fun _ _ _ => rfl, ⟨e0.2.1, fun k hk => absurd hk (Nat.not_lt_zero k)⟩, ⟨e0.2.2.2.1, e0.2.2.2.2, fun i i1 i2 => ?_⟩, ⟨List.Pairwise.nil, fun r h => absurd h (List.not_mem_nil)⟩, by rw [e0.2.2.1]; exact ⟨by decide, hK⟩, by decide, gL.nil⟩, e2, fun h => ?_⟩
  · obtain ⟨n, rfl⟩ : ∃ n : Nat, i = 10 + (n : Int) := ⟨(i - 10).toNat, by omega⟩
    have h := e1 ⟨n, by omega⟩
    have g : (10 + (n : Int) - 8) = 2 + (n : Int) := by omega
    rw [g]
    exact h
  · exact absurd (by decide +kernel : s0 143 6 = 0) h
