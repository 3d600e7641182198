/-! A table told anew over rows that it hides -/
def w_subC (T T' : wT) : Bool := T'.all (fun p => if w_row T' p.1 = some p.2 then (match w_row T p.1 with
  | some r => if r = p.2 then true else w_inB r p.2
  | none => false) else true)
theorem w_ok.subC {xl : Nat} {xs : Nat → Int32} {N S : Nat} {T T' : wT} {μ : zM} (H : w_ok xl xs N S T μ) (h : w_subC T T' = true) : w_ok xl xs N S T' μ := by
  refine ⟨H.1, H.2.1, H.2.2.1, H.2.2.2.1, fun a r hr => ?_⟩
  have hm : (a, r) ∈ T' := by
    have hr := hr
    unfold w_row at hr
    obtain ⟨p, hp, rfl⟩ := Option.map_eq_some_iff.mp hr
    have h1 := List.mem_of_find?_eq_some hp
    have h2 : p.1 = a := by simpa using List.find?_some hp
    rw [← h2]
    exact h1
  have h1 := List.all_eq_true.mp h (a, r) hm
  dsimp only at h1
  rw [if_pos hr] at h1
  cases hT : w_row T a with
  | none => rw [hT] at h1; cases h1
  | some r1 =>
    rw [hT] at h1
    dsimp only at h1
    obtain ⟨k1, k2, k3, k4⟩ := H.2.2.2.2 a r1 hT
    by_cases he : r1 = r
    · rw [← he]
      exact ⟨k1, k2, k3, k4⟩
    · rw [if_neg he] at h1
      unfold w_inB at h1
      rw [Bool.and_eq_true, Bool.and_eq_true] at h1
      obtain ⟨⟨e1, e2⟩, e3⟩ := h1
      have e1 : r1.1 = r.1 := by simpa using e1
      have e2 : r1.2.1 = r.2.1 := by simpa using e2
      refine ⟨k1, by rw [← e1, ← e2]; exact k2, by rw [← e1]; exact k3, fun j v hj hv => ?_⟩
      have e4 := List.all_eq_true.mp e3 j (List.mem_range.mpr hj)
      rw [hv] at e4
      have e5 : w_at r1 j = some v := by simpa using e4
      exact k4 j v (by rw [e2]; exact hj) e5
