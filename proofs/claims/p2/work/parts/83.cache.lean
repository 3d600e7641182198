/-! THE CACHE OF THE CLASS: its cells told as a list of regions (box, hot, number, hits, weight) -/
def cRg (σ : zS) (a0 : Nat) (k : Int) (r : Rg) : Prop := σ (a0 + 4) k = enc r.1 ∧ σ (a0 + 6) k = encH r.2.1 ∧ σ (a0 + 3) k = r.2.2.1 ∧ σ (a0 + 5) k = r.2.2.2.1 ∧ σ (a0 + 7) k = r.2.2.2.2
def cRs (σ : zS) (a0 : Nat) (L : List Rg) : Prop := σ a0 2 = (L.length : Int) ∧ ∀ (k : Nat) (hk : k < L.length), cRg σ a0 (k : Int) L[k]
theorem p_seOf {a : Nat} {i : Int} {σ : zS} (h : 0 ≤ i ∧ i < 7) : g_se_of a i σ = some (σ (a + 1) i, σ) := by
  unfold g_se_of
  rw [if_neg (by omega), if_neg (by omega), if_pos h]
theorem p_maxL {x y : Int} {σ : zS} : g_jMath_max_290 x y σ = some (if x < y then y else x, σ) := by
  unfold g_jMath_max_290
  by_cases c : x < y
  · rw [if_pos c, if_pos (by
      unfold lCmp
      rw [if_neg (by omega), if_neg (by omega)]
      decide)]
  · rw [if_neg c, if_neg (by
      unfold lCmp
      by_cases c2 : x > y
      · rw [if_pos c2]; decide
      · rw [if_neg c2, if_pos (by omega)]; decide)]
/-- the weight of a region -/
theorem c_weigh {a0 : Nat} {k : Int} {σ : zS} {I : Nat → Bool} {b : Bx} (hk : 0 ≤ k ∧ k < 181) (e : σ (a0 + 4) k = enc b) (hb : bOk b) (S : STb σ 41 I) (hI : ∀ r, I r = true → r < 60) : g_ca_weigh a0 k σ = some ((), zu σ (a0 + 7) k (wgt (σ a0 9) (w32 (σ (a0 + 2) 0 + rnC σ I b)) (σ (a0 + 5) k) (1 + rnC σ I b))) := by
  obtain ⟨v, e1, e2⟩ := p_rc (σ := σ) S hI hb
  have bd := rnC_bd (σ := σ) (I := I) (b := b)
  unfold g_ca_weigh
  rw [if_pos hk, e]
  try dsimp +instances only
  rw [e1]
  rw [Option.bind_some]
  try dsimp +instances only
  rw [e2]
  rw [Option.bind_some]
  try dsimp +instances only
  rw [p_seOf (by decide)]
  rw [Option.bind_some]
  try dsimp +instances only
  rw [w32_id (x := 1 + rnC σ I b) (by omega) (by omega), if_pos hk, if_neg (by omega), if_pos hk]
  rfl
theorem c_costOf {a0 : Nat} {σ : zS} {I : Nat → Bool} {b : Bx} (hb : bOk b) (S : STb σ 41 I) (hI : ∀ r, I r = true → r < 60) : g_ca_costOf a0 (enc b) σ = some (w32 (σ (a0 + 2) 0 + rnC σ I b), σ) := by
  obtain ⟨v, e1, e2⟩ := p_rc (σ := σ) S hI hb
  unfold g_ca_costOf
  rw [p_seOf (by decide)]
  rw [Option.bind_some]
  try dsimp +instances only
  rw [e1]
  rw [Option.bind_some]
  try dsimp +instances only
  rw [e2]
  rfl
theorem c_sizeOf {a0 : Nat} {σ : zS} {I : Nat → Bool} {b : Bx} (hb : bOk b) (S : STb σ 41 I) (hI : ∀ r, I r = true → r < 60) : g_ca_sizeOf a0 (enc b) σ = some (1 + rnC σ I b, σ) := by
  obtain ⟨v, e1, e2⟩ := p_rc (σ := σ) S hI hb
  have bd := rnC_bd (σ := σ) (I := I) (b := b)
  unfold g_ca_sizeOf
  rw [e1]
  rw [Option.bind_some]
  try dsimp +instances only
  rw [e2]
  rw [Option.bind_some]
  try dsimp +instances only
  rw [w32_id (x := 1 + rnC σ I b) (by omega) (by omega)]
/-- a region goes -/
theorem c_rem4 {a0 : Nat} {N : Nat} (hN : N ≤ 181) : ∀ (n m : Nat) (σ : zS), σ a0 2 = (N : Int) → 1 ≤ m → m ≤ N → zP' (g_ca_remove_L4 a0 n (m : Int) σ) (fun _ s => s a0 2 = (N : Int) - 1 ∧ (∀ f : Nat, 3 ≤ f → f ≤ 7 → ∀ j, s (a0 + f) j = if (m : Int) - 1 ≤ j ∧ j < (N : Int) - 1 then σ (a0 + f) (j + 1) else σ (a0 + f) j) ∧ ∀ b j, (b < a0 + 3 ∨ a0 + 7 < b) → (b ≠ a0 ∨ j ≠ 2) → s b j = σ b j)
  | 0, _, _, _, _, _ => zP'.no
  | n + 1, m, σ, h2, h1, hm => by
    unfold g_ca_remove_L4
    try dsimp +instances only
    rw [h2]
    by_cases c : (N : Int) ≤ (m : Int)
    · rw [if_pos c, w32_id (x := (N : Int) - 1) (by omega) (by omega)]
      refine zP'.ret ⟨zu_e rfl, fun f f1 f2 j => ?_, fun b j k1 k2 => zu_c (by omega)⟩
      rw [zu_a (by omega), if_neg (by omega)]
    · rw [if_neg c]
      have g1 : 0 ≤ (m : Int) ∧ (m : Int) < 181 := by omega
      have g2 : 0 ≤ (m : Int) - 1 ∧ (m : Int) - 1 < 181 := by omega
      rw [w32_id (x := (m : Int) - 1) (by omega) (by omega), w32_id (x := (m : Int) + 1) (by omega) (by omega)]
      rw [if_pos g1]
      rw [if_pos g2]
      rw [if_pos g1]
      rw [if_pos g2]
      rw [if_pos g1]
      rw [if_pos g2]
      rw [if_pos g1]
      rw [if_pos g2]
      rw [if_pos g1]
      rw [if_pos g2]
      try dsimp +instances only
      have e4 : zu σ (a0 + 3) ((m : Int) - 1) (σ (a0 + 3) (m : Int)) (a0 + 4) (m : Int) = σ (a0 + 4) (m : Int) := zu_a (by omega)
      rw [e4]
      generalize hs1 : zu (zu σ (a0 + 3) ((m : Int) - 1) (σ (a0 + 3) (m : Int))) (a0 + 4) ((m : Int) - 1) (σ (a0 + 4) (m : Int)) = s1
      have e5 : s1 (a0 + 5) (m : Int) = σ (a0 + 5) (m : Int) := by rw [← hs1, zu_a (by omega), zu_a (by omega)]
      have e6 : zu s1 (a0 + 5) ((m : Int) - 1) (s1 (a0 + 5) (m : Int)) (a0 + 6) (m : Int) = σ (a0 + 6) (m : Int) := by rw [zu_a (by omega), ← hs1, zu_a (by omega), zu_a (by omega)]
      rw [e6, e5]
      generalize hs2 : zu (zu s1 (a0 + 5) ((m : Int) - 1) (σ (a0 + 5) (m : Int))) (a0 + 6) ((m : Int) - 1) (σ (a0 + 6) (m : Int)) = s2
      have e7 : s2 (a0 + 7) (m : Int) = σ (a0 + 7) (m : Int) := by rw [← hs2, zu_a (by omega), zu_a (by omega), ← hs1, zu_a (by omega), zu_a (by omega)]
      rw [e7]
      generalize hs3 : zu s2 (a0 + 7) ((m : Int) - 1) (σ (a0 + 7) (m : Int)) = s3
      have cell : ∀ f : Nat, 3 ≤ f → f ≤ 7 → ∀ j, s3 (a0 + f) j = if j = (m : Int) - 1 then σ (a0 + f) (m : Int) else σ (a0 + f) j := fun f f1 f2 j => by
        have cs : f = 3 ∨ f = 4 ∨ f = 5 ∨ f = 6 ∨ f = 7 := by omega
        rw [← hs3]
        by_cases cj : j = (m : Int) - 1
        · rw [if_pos cj]
          rcases cs with rfl | rfl | rfl | rfl | rfl
          · rw [zu_a (by omega), ← hs2, zu_a (by omega), zu_a (by omega), ← hs1, zu_a (by omega), zu_e cj]
          · rw [zu_a (by omega), ← hs2, zu_a (by omega), zu_a (by omega), ← hs1, zu_e cj]
          · rw [zu_a (by omega), ← hs2, zu_a (by omega), zu_e cj]
          · rw [zu_a (by omega), ← hs2, zu_e cj]
          · rw [zu_e cj]
        · rw [if_neg cj, zu_c (by omega), ← hs2, zu_c (by omega), zu_c (by omega), ← hs1, zu_c (by omega), zu_c (by omega)]
      have oth : ∀ b j, (b < a0 + 3 ∨ a0 + 7 < b) → s3 b j = σ b j := fun b j k => by
        rw [← hs3, zu_a (by omega), ← hs2, zu_a (by omega), zu_a (by omega), ← hs1, zu_a (by omega), zu_a (by omega)]
      rw [show (m : Int) + 1 = ((m + 1 : Nat) : Int) by omega]
      refine (c_rem4 hN n (m + 1) s3 ((oth a0 2 (by omega)).trans h2) (by omega) (by omega)).imp (fun _ s p => ?_)
      obtain ⟨p1, p2, p3⟩ := p
      refine ⟨p1, fun f f1 f2 j => ?_, fun b j k1 k2 => (p3 b j k1 k2).trans (oth b j k1)⟩
      rw [p2 f f1 f2 j]
      by_cases c1 : ((m + 1 : Nat) : Int) - 1 ≤ j ∧ j < (N : Int) - 1
      · rw [if_pos c1, if_pos (by omega), cell f f1 f2, if_neg (by omega)]
      · rw [if_neg c1, cell f f1 f2]
        by_cases cj : j = (m : Int) - 1
        · rw [if_pos cj, if_pos (by omega), cj]
          congr 1
          omega
        · rw [if_neg cj, if_neg (by omega)]
theorem c_remove {a0 k : Nat} {L : List Rg} {σ : zS} (h : cRs σ a0 L) (hL : L.length ≤ 181) (hk : k < L.length) : zP' (g_ca_remove a0 (k : Int) σ) (fun _ s => cRs s a0 (L.eraseIdx k) ∧ ∀ b j, (b < a0 + 3 ∨ a0 + 7 < b) → (b ≠ a0 ∨ j ≠ 2) → s b j = σ b j) := by
  unfold g_ca_remove
  rw [w32_id (x := (k : Int) + 1) (by omega) (by omega), show (k : Int) + 1 = ((k + 1 : Nat) : Int) by omega]
  refine (c_rem4 hL zK (k + 1) σ h.1 (by omega) (by omega)).imp (fun _ s p => ?_)
  obtain ⟨p1, p2, p3⟩ := p
  have hl : (L.eraseIdx k).length = L.length - 1 := List.length_eraseIdx_of_lt hk
  refine ⟨⟨by rw [p1, hl]; omega, fun i hi => ?_⟩, p3⟩
  rw [hl] at hi
  have cell : ∀ f : Nat, 3 ≤ f → f ≤ 7 → s (a0 + f) (i : Int) = σ (a0 + f) ((if i < k then i else i + 1 : Nat) : Int) := fun f f1 f2 => by
    rw [p2 f f1 f2]
    by_cases c : i < k
    · rw [if_neg (by omega), if_pos c]
    · rw [if_pos (by omega), if_neg c, show (i : Int) + 1 = ((i + 1 : Nat) : Int) by omega]
  have el : (L.eraseIdx k)[i]'(by rw [hl]; exact hi) = L[if i < k then i else i + 1]'(by split <;> omega) := by
    rw [List.getElem_eraseIdx]
    by_cases c : i < k
    · simp only [c, if_true, dite_true]
    · simp only [c, if_false, dite_false]
  have g := h.2 (if i < k then i else i + 1) (by split <;> omega)
  rw [el]
  unfold cRg at *
  rw [cell 4 (by decide) (by decide), cell 6 (by decide) (by decide), cell 3 (by decide) (by decide), cell 5 (by decide) (by decide), cell 7 (by decide) (by decide)]
  exact g
/-- a region more, the last one -/
theorem c_addLast {a0 : Nat} {L : List Rg} {σ : zS} {b h : Bx} {hits w : Int} (H : cRs σ a0 L) (hL : L.length < 181) : zP' (g_ca_addLast a0 (enc b) hits (encH h) w σ) (fun v s => v = 1 ∧ cRs s a0 (L ++ [(b, h, σ a0 8, hits, w)]) ∧ s a0 8 = w32 (σ a0 8 + 1) ∧ ∀ c j, (c < a0 + 3 ∨ a0 + 7 < c) → (c ≠ a0 ∨ (j ≠ 2 ∧ j ≠ 8)) → s c j = σ c j) := by
  have h2 := H.1
  unfold g_ca_addLast
  try dsimp +instances only
  rw [h2, if_pos (by omega)]
  have g : 0 ≤ (L.length : Int) ∧ (L.length : Int) < 181 := by omega
  generalize hs1 : zu σ (a0 + 3) (L.length : Int) (σ a0 8) = s1
  have o1 : ∀ c j, c ≠ a0 + 3 → s1 c j = σ c j := fun c j k => by rw [← hs1]; exact zu_a k
  rw [o1 a0 2 (by omega), h2]
  generalize hs2 : zu s1 (a0 + 4) (L.length : Int) (enc b) = s2
  have o2 : ∀ c j, c ≠ a0 + 3 → c ≠ a0 + 4 → s2 c j = σ c j := fun c j k k2 => by rw [← hs2]; exact (zu_a k2).trans (o1 c j k)
  rw [o2 a0 2 (by omega) (by omega), h2]
  generalize hs3 : zu s2 (a0 + 5) (L.length : Int) hits = s3
  have o3 : ∀ c j, c ≠ a0 + 3 → c ≠ a0 + 4 → c ≠ a0 + 5 → s3 c j = σ c j := fun c j k k2 k3 => by rw [← hs3]; exact (zu_a k3).trans (o2 c j k k2)
  rw [o3 a0 2 (by omega) (by omega) (by omega), h2]
  generalize hs4 : zu s3 (a0 + 6) (L.length : Int) (encH h) = s4
  have o4 : ∀ c j, c ≠ a0 + 3 → c ≠ a0 + 4 → c ≠ a0 + 5 → c ≠ a0 + 6 → s4 c j = σ c j := fun c j k k2 k3 k4 => by rw [← hs4]; exact (zu_a k4).trans (o3 c j k k2 k3)
  rw [o4 a0 2 (by omega) (by omega) (by omega) (by omega), h2]
  generalize hs5 : zu s4 (a0 + 7) (L.length : Int) w = s5
  have o5 : ∀ c j, (c < a0 + 3 ∨ a0 + 7 < c) → s5 c j = σ c j := fun c j k => by rw [← hs5]; exact (zu_a (by omega)).trans (o4 c j (by omega) (by omega) (by omega) (by omega))
  have e8 : zu s5 a0 8 (w32 (s5 a0 8 + 1)) a0 2 = (L.length : Int) := by rw [zu_i (by decide), o5 a0 2 (by omega), h2]
  rw [if_pos g]
  rw [if_pos g]
  rw [if_pos g]
  rw [if_pos g]
  rw [if_pos g, e8, w32_id (x := (L.length : Int) + 1) (by omega) (by omega), o5 a0 8 (by omega)]
  have fin : ∀ c j, (c < a0 + 3 ∨ a0 + 7 < c) → (c ≠ a0 ∨ (j ≠ 2 ∧ j ≠ 8)) → zu (zu s5 a0 8 (w32 (σ a0 8 + 1))) a0 2 ((L.length : Int) + 1) c j = σ c j := fun c j k1 k2 => by rw [zu_c (by omega), zu_c (by omega), o5 c j k1]
  have z : ∀ f : Nat, 3 ≤ f → f ≤ 7 → ∀ j, zu (zu s5 a0 8 (w32 (σ a0 8 + 1))) a0 2 ((L.length : Int) + 1) (a0 + f) j = s5 (a0 + f) j := fun f f1 f2 j => by rw [zu_a (by omega), zu_a (by omega)]
  refine zP'.ret ⟨rfl, ⟨?_, fun i hi => ?_⟩, ?_, fin⟩
  · rw [zu_e rfl, List.length_append]
    show (L.length : Int) + 1 = ((L.length + 1 : Nat) : Int)
    omega
  · rw [List.length_append] at hi
    have hi : i < L.length + 1 := hi
    unfold cRg
    rw [z 4 (by decide) (by decide), z 6 (by decide) (by decide), z 3 (by decide) (by decide), z 5 (by decide) (by decide), z 7 (by decide) (by decide)]
    by_cases ci : i < L.length
    · rw [List.getElem_append_left ci]
      have g := H.2 i ci
      unfold cRg at g
      have ne : ¬ (i : Int) = (L.length : Int) := by omega
      have c7 : s5 (a0 + 7) (i : Int) = σ (a0 + 7) (i : Int) := by rw [← hs5, zu_i ne, ← hs4, zu_a (by omega), ← hs3, zu_a (by omega), ← hs2, zu_a (by omega), ← hs1, zu_a (by omega)]
      have c6 : s5 (a0 + 6) (i : Int) = σ (a0 + 6) (i : Int) := by rw [← hs5, zu_a (by omega), ← hs4, zu_i ne, ← hs3, zu_a (by omega), ← hs2, zu_a (by omega), ← hs1, zu_a (by omega)]
      have c5 : s5 (a0 + 5) (i : Int) = σ (a0 + 5) (i : Int) := by rw [← hs5, zu_a (by omega), ← hs4, zu_a (by omega), ← hs3, zu_i ne, ← hs2, zu_a (by omega), ← hs1, zu_a (by omega)]
      have c4 : s5 (a0 + 4) (i : Int) = σ (a0 + 4) (i : Int) := by rw [← hs5, zu_a (by omega), ← hs4, zu_a (by omega), ← hs3, zu_a (by omega), ← hs2, zu_i ne, ← hs1, zu_a (by omega)]
      have c3 : s5 (a0 + 3) (i : Int) = σ (a0 + 3) (i : Int) := by rw [← hs5, zu_a (by omega), ← hs4, zu_a (by omega), ← hs3, zu_a (by omega), ← hs2, zu_a (by omega), ← hs1, zu_i ne]
      rw [c3, c4, c5, c6, c7]
      exact g
    · have ei : i = L.length := by omega
      subst ei
      rw [List.getElem_append_right (Nat.le_refl _)]
      have c7 : s5 (a0 + 7) (L.length : Int) = w := by rw [← hs5]; exact zu_e rfl
      have c6 : s5 (a0 + 6) (L.length : Int) = encH h := by rw [← hs5, zu_a (by omega), ← hs4]; exact zu_e rfl
      have c5 : s5 (a0 + 5) (L.length : Int) = hits := by rw [← hs5, zu_a (by omega), ← hs4, zu_a (by omega), ← hs3]; exact zu_e rfl
      have c4 : s5 (a0 + 4) (L.length : Int) = enc b := by rw [← hs5, zu_a (by omega), ← hs4, zu_a (by omega), ← hs3, zu_a (by omega), ← hs2]; exact zu_e rfl
      have c3 : s5 (a0 + 3) (L.length : Int) = σ a0 8 := by rw [← hs5, zu_a (by omega), ← hs4, zu_a (by omega), ← hs3, zu_a (by omega), ← hs2, zu_a (by omega), ← hs1]; exact zu_e rfl
      rw [c3, c4, c5, c6, c7]
      have e0 : ([(b, h, σ a0 8, hits, w)] : List Rg)[L.length - L.length]'(by rw [Nat.sub_self]; exact Nat.one_pos) = (b, h, σ a0 8, hits, w) := by
        simp
      rw [e0]
      exact ⟨rfl, rfl, rfl, rfl, rfl⟩
  · rw [zu_i (by decide)]
    exact zu_e rfl
