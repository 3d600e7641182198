/-! THE CLASS over the typed memory: texts' lengths and signs -/
theorem zLI_str {a : Nat} (h1 : 1 ≤ a) (h2 : a ≤ 18) : 0 ≤ zLI (a + 18) ∧ zLI (a + 18) ≤ 100 := by
  have h : ∀ b : Fin 19, zLN (b.val + 18) ≤ 100 := by decide +kernel
  have g := h ⟨a, by omega⟩
  unfold zLI
  constructor
  · omega
  · have g : zLN (a + 18) ≤ 100 := g
    omega
theorem g_jString_length_sp {a0 : Nat} (ha0 : 1 ≤ a0 ∧ a0 ≤ 18) {σ : zS} : zOp (g_jString_length a0 σ) σ (fun v => v = zLI (a0 + 18)) := by
  have h := zLI_str ha0.1 ha0.2
  exact ⟨_, s_length (iShr0 (by omega) (by omega)), rfl⟩
theorem g_jString_charAt_sp {a0 : Nat} (ha0 : 1 ≤ a0 ∧ a0 ≤ 18) {x1 : Int} {σ : zS} (hp : 0 ≤ x1 ∧ x1 < zLI (a0 + 18)) : zOp (g_jString_charAt a0 x1 σ) σ (fun _ => True) := ⟨_, s_charAt hp, trivial⟩
theorem g_ioc {a L : Nat} {x : Int} {σ : zS} (hL : zLI a = (L : Int)) (hL2 : L ≤ 100) : ∀ (d k n : Nat), k + d = L → d < n → ∃ v, g_jStringLatin1_indexOfChar_L7 a n (L : Int) x (k : Int) σ = some (v, σ) ∧ (0 ≤ v → ∃ j : Nat, j < L ∧ zs0 a (j : Int) = x)
  | _, _, 0, _, h => absurd h (Nat.not_lt_zero _)
  | 0, k, n + 1, hk, _ => by
    unfold g_jStringLatin1_indexOfChar_L7
    rw [if_pos (by omega)]
    exact ⟨-1, rfl, fun h => absurd h (by decide)⟩
  | d + 1, k, n + 1, hk, hn => by
    unfold g_jStringLatin1_indexOfChar_L7
    rw [if_neg (by omega), if_pos (by omega)]
    dsimp only
    by_cases c : zs0 a (k : Int) ≠ x
    · rw [if_pos c, w32_id (x := (k : Int) + 1) (by omega) (by omega), show (k : Int) + 1 = ((k + 1 : Nat) : Int) by omega]
      exact g_ioc hL hL2 d (k + 1) n (by omega) (by omega)
    · rw [if_neg c]
      exact ⟨_, rfl, fun _ => ⟨k, by omega, by omega⟩⟩
theorem g_io {a L : Nat} {x : Int} {σ : zS} (hl : iShr (zLI (a + 18)) 0 = zLI (a + 18)) (hL : zLI (a + 18) = (L : Int)) (hL2 : L ≤ 100) (hL3 : 0 < L) (h0 : ∀ j : Nat, j < L → zs0 (a + 18) (j : Int) ≠ 0) : zOp (g_jString_indexOf_295 a x σ) σ (fun v => 0 ≤ v → x ≠ 0) := by
  unfold g_jString_indexOf_295 g_jString_indexOf_296 g_jString_isLatin1
  rw [if_neg (by decide), if_neg (by decide)]
  rw [Option.bind_some]
  dsimp only
  rw [if_neg (by decide), s_length hl]
  rw [Option.bind_some]
  dsimp only
  unfold g_jStringLatin1_indexOf g_jStringLatin1_canEncode_310
  by_cases c1 : x < 0
  · rw [if_pos c1]
    rw [Option.bind_some]
    dsimp only
    rw [if_neg (by decide)]
    exact ⟨-1, rfl, fun h => absurd h (by decide)⟩
  · rw [if_neg c1]
    by_cases c2 : 255 < x
    · rw [if_pos c2]
      rw [Option.bind_some]
      dsimp only
      rw [if_neg (by decide)]
      exact ⟨-1, rfl, fun h => absurd h (by decide)⟩
    · rw [if_neg c2]
      rw [Option.bind_some]
      dsimp only
      rw [if_pos (by decide)]
      unfold g_jMath_max_289 g_jMath_min_291
      rw [if_neg (by decide)]
      rw [Option.bind_some]
      dsimp only
      rw [if_neg (by omega)]
      rw [Option.bind_some]
      dsimp only
      rw [if_pos (by omega)]
      unfold g_jStringLatin1_indexOfChar
      rw [hL]
      obtain ⟨v, e1, e2⟩ := g_ioc (σ := σ) (x := w8 x) hL hL2 L 0 zK (by omega) (by show _ < 1000000; omega)
      rw [show ((0 : Nat) : Int) = 0 from rfl] at e1
      rw [e1]
      refine ⟨v, rfl, fun h hx => ?_⟩
      obtain ⟨j, j1, j2⟩ := e2 h
      rw [hx] at j2
      exact h0 j j1 j2
theorem g_jString_indexOf_295_sp {a0 : Nat} (ha0 : a0 = 6 ∨ a0 = 7) {x1 : Int} {σ : zS} : zOp (g_jString_indexOf_295 a0 x1 σ) σ (fun v => 0 ≤ v → x1 ≠ 0) := by
  rcases ha0 with rfl | rfl
  · refine g_io (L := 4) (by decide +kernel) rfl (by decide) (by decide) (fun j hj => ?_)
    have h : ∀ i : Fin 4, zs0 24 ((i.val : Nat) : Int) ≠ 0 := by decide +kernel
    exact h ⟨j, hj⟩
  · refine g_io (L := 3) (by decide +kernel) rfl (by decide) (by decide) (fun j hj => ?_)
    have h : ∀ i : Fin 3, zs0 25 ((i.val : Nat) : Int) ≠ 0 := by decide +kernel
    exact h ⟨j, hj⟩
