/-! THE START over the typed memory, and the claim out of the law's run there -/
def s0 : zS := fun a i => if a = 169 ∧ i = 0 then 16 else match w_row w_T0 a with
  | some r => (match w_at r i.toNat with
    | some (.int x) => x.toInt
    | some (.long x) => x.toInt
    | _ => 0)
  | none => 0
def s0k (k : Nat) (v : Value) : Bool := if k = 0 then (match v with
  | .int _ => true
  | _ => false) else if k = 1 then (match v with
  | .long _ => true
  | _ => false) else if k = 9 then true else v == .ref (k - 100)
def s0r (a : Nat) (r : wR) : Bool := r.1 == zTg a && (r.2.1 == zLN a && (if r.1 < 3 then r.2.2.1.all (fun q => s0k (if r.1 = 1 then 1 else 0) q.2) && (match r.2.2.2 with
  | some v => s0k (if r.1 = 1 then 1 else 0) v
  | none => false) else (List.range r.2.1).all (fun i => match w_at r i with
  | some v => s0k (zKd a i) v
  | none => false)))
theorem s0_ok : ∀ a, a < 168 → 39 ≤ a → (match w_row w_T0 a with
  | some r => s0r a r
  | none => false) = true := by decide +kernel
theorem s0k_ok {k a : Nat} {i : Nat} {v : Value} (hk : s0k k v = true) (h : ∃ r, w_row w_T0 a = some r ∧ w_at r i = some v) (ha : a ≠ 169) : zCell k v (s0 a i) := by
  obtain ⟨r, h1, h2⟩ := h
  have e : s0 a i = (match some v with
    | some (.int x) => x.toInt
    | some (.long x) => x.toInt
    | _ => 0) := by
    unfold s0
    rw [if_neg (fun h => ha h.1), h1]
    show (match w_at r (i : Int).toNat with
    | some (.int x) => x.toInt
    | some (.long x) => x.toInt
    | _ => 0) = _
    rw [Int.toNat_natCast, h2]
  rw [e]
  unfold s0k at hk
  unfold zCell
  by_cases k0 : k = 0
  · rw [if_pos k0] at hk ⊢
    cases v <;> first
      | exact ⟨_, rfl, rfl⟩
      | cases hk
  · rw [if_neg k0] at hk ⊢
    by_cases k1 : k = 1
    · rw [if_pos k1] at hk ⊢
      cases v <;> first
        | exact ⟨_, rfl, rfl⟩
        | cases hk
    · rw [if_neg k1] at hk ⊢
      by_cases k9 : k = 9
      · rw [if_pos k9]; trivial
      · rw [if_neg k9] at hk ⊢
        exact eq_of_beq hk
theorem w_at_mem {r : wR} {i : Nat} {v : Value} (h : w_at r i = some v) : (∃ q ∈ r.2.2.1, q.2 = v) ∨ r.2.2.2 = some v := by
  unfold w_at at h
  cases hf : r.2.2.1.find? (fun p => p.1 == i) with
  | none => rw [hf] at h; exact Or.inr h
  | some q => rw [hf] at h; exact Or.inl ⟨q, List.mem_of_find?_eq_some hf, Option.some.inj h⟩
theorem w_at_some {r : wR} {u : Value} (h : r.2.2.2 = some u) (i : Nat) : ∃ v, w_at r i = some v := by
  unfold w_at
  cases hf : r.2.2.1.find? (fun p => p.1 == i) with
  | none => exact ⟨u, h⟩
  | some q => exact ⟨q.2, rfl⟩
theorem s0_cell {a i : Nat} (h1 : a < 168) (h2 : 39 ≤ a) (hi : i < zLN a) : ∃ r v, w_row w_T0 a = some r ∧ r.1 = zTg a ∧ r.2.1 = zLN a ∧ w_at r i = some v ∧ s0k (zKd a i) v = true := by
  have h := s0_ok a h1 h2
  cases hr : w_row w_T0 a with
  | none => rw [hr] at h; cases h
  | some r =>
    rw [hr] at h
    have h : s0r a r = true := h
    unfold s0r at h
    rw [Bool.and_eq_true, Bool.and_eq_true] at h
    obtain ⟨g1, g2, g3⟩ := h
    have g1 : r.1 = zTg a := eq_of_beq g1
    have g2 : r.2.1 = zLN a := eq_of_beq g2
    by_cases ht : r.1 < 3
    · rw [if_pos ht, Bool.and_eq_true] at g3
      obtain ⟨g3, g4⟩ := g3
      have hk : zKd a i = if r.1 = 1 then 1 else 0 := by
        rw [g1] at ht ⊢
        by_cases t1 : zTg a = 1
        · rw [if_pos t1]; exact zKd_l t1 i
        · rw [if_neg t1]; exact zKd_i (t := zTg a) rfl (by omega) i
      cases hd : r.2.2.2 with
      | none => rw [hd] at g4; cases g4
      | some u =>
        rw [hd] at g4
        obtain ⟨v, hv⟩ := w_at_some hd i
        refine ⟨r, v, rfl, g1, g2, hv, ?_⟩
        rw [hk]
        rcases w_at_mem hv with ⟨q, hq, rfl⟩ | hv2
        · exact List.all_eq_true.mp g3 q hq
        · rw [hd] at hv2
          cases hv2
          exact g4
    · rw [if_neg ht] at g3
      have g5 := List.all_eq_true.mp g3 i (List.mem_range.mpr (by omega))
      cases hv : w_at r i with
      | none => rw [hv] at g5; cases g5
      | some v =>
        rw [hv] at g5
        exact ⟨r, v, rfl, g1, g2, hv, g5⟩
theorem zLN_pos : ∀ a, a < 168 → 39 ≤ a → 0 < zLN a := by decide +kernel
theorem s0_rep {xl : Nat} {xs : Nat → Int32} {m : zM} (H : w_ok xl xs 168 63950 w_T0 m) : zRep xl xs 130 m s0 := by
  obtain ⟨H1, H2, H3, H4, H5⟩ := H
  refine ⟨H4, fun a h1 h2 _ => ?_, fun a h1 h2 _ i hi => ?_, 16, ?_, Or.inl rfl, ?_, rfl, fun j hj => ?_, by decide, by omega, by omega, by omega⟩
  · obtain ⟨r, v, g1, g2, g3, -⟩ := s0_cell (i := 0) h2 h1 (zLN_pos a h2 h1)
    rw [(H5 a r g1).2.1, g2, g3]
  · obtain ⟨r, v, g1, g2, g3, g4, g5⟩ := s0_cell h2 h1 hi
    rw [(H5 a r g1).2.2.2 i v (by omega) g4]
    exact s0k_ok g5 ⟨r, g1, g4⟩ (by omega)
  · exact (H5 129 (23, 4, [(1, .int (0 : Int32)), (0, .ref 130), (2, .int (0 : Int32)), (3, .int (0 : Int32))], none) rfl).2.2.2 0 _ (by decide) rfl
  · exact (H5 130 (2, 16, [], some (.int (0 : Int32))) rfl).2.1
  · refine ⟨0, (H5 130 (2, 16, [], some (.int (0 : Int32))) rfl).2.2.2 j _ hj rfl, ?_⟩
    unfold s0
    rw [if_neg (fun h => by omega)]
    rfl
theorem z_fin {N : Nat} (hN : N < 2147483648) (h : ∀ (xl : Nat) (xs : Nat → Int32), xl ≤ N → ∃ σ', g_jRangeAnswersLaw_law_L18 xl xs zK 0 s0 = some (1, σ')) : z_goal N := by
  intro L xs hL
  have hw : z_W 1000 1000 0 [(0, .ref 0)] [] (z_mu0 L xs) (fun v μ' => v = some (.int 1) ∧ μ'.1.length ≤ 600039 ∧ z_slt μ' ≤ 7302249 + z_slt (z_mu0 L xs)) := by
    refine w_ctor (fun m H => ?_)
    obtain ⟨σ', hg⟩ := h L xs hL
    obtain ⟨v, m', p', h1, ⟨R, rfl, hR⟩, -, hrep⟩ := g_jRangeAnswersLaw_law_L18_ok (xs := xs) (show L < 2147483648 by omega) zK (rfl : (0 : Int32).toInt = 0) (s0_rep H) hg
    obtain ⟨cap, k1, k2, k3, k4, k5, k6, k7, k8, k9⟩ := hrep.2.2.2
    refine ⟨_, m', h1.up (by decide), ?_, by omega, by omega⟩
    rw [zi_lit hR (y := 1) rfl]
  obtain ⟨v, μ', ⟨n, hn⟩, rfl, h2, h3⟩ := hw
  exact ⟨n, 1000, μ', Nat.le_refl _, hn, h2, h3⟩
