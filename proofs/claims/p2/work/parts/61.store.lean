/-! FACTS OF ANSWERS: the class's store: rows in and out -/
theorem sg_pw {f : Int → Int} {R : Int → Int → Prop} : ∀ (n : Nat) (a : Int), (sg f a n).Pairwise R ↔ ∀ i j : Nat, i < j → j < n → R (f (a + (i : Int))) (f (a + (j : Int)))
  | 0, a => ⟨fun _ i j _ h => absurd h (Nat.not_lt_zero _), fun _ => List.Pairwise.nil⟩
  | n + 1, a => by
    show (f a :: sg f (a + 1) n).Pairwise R ↔ _
    rw [List.pairwise_cons, sg_pw n (a + 1)]
    have sh : ∀ j : Nat, a + ((j + 1 : Nat) : Int) = a + 1 + (j : Int) := fun j => by omega
    have s0 : a + ((0 : Nat) : Int) = a := by omega
    constructor
    · rintro ⟨h1, h2⟩ i j hij hj
      cases j with
      | zero => omega
      | succ j =>
        cases i with
        | zero =>
          rw [s0, sh]
          exact h1 _ ((sg_mem n (a + 1)).mpr ⟨j, by omega, rfl⟩)
        | succ i =>
          rw [sh, sh]
          exact h2 i j (by omega) (by omega)
    · intro h
      refine ⟨fun b hb => ?_, fun i j hij hj => ?_⟩
      · obtain ⟨j, h1, h2⟩ := (sg_mem n (a + 1)).mp hb
        have e := h 0 (j + 1) (by omega) (by omega)
        rw [s0, sh, h2] at e
        exact e
      · have e := h (i + 1) (j + 1) (by omega) (by omega)
        rw [sh, sh] at e
        exact e
/-- the bits of the sets by x and by y -/
def STb (σ : zS) (c : Nat) (I : Nat → Bool) : Prop := ∀ i r : Nat, i ≤ 32 → r < 64 → bq (σ (c + 5) (i : Int)) r = (I r && decide (σ (c + 1) (r : Int) < (i : Int))) ∧ bq (σ (c + 6) (i : Int)) r = (I r && decide (σ (c + 2) (r : Int) < (i : Int)))
def ordL (σ : zS) (c : Nat) : List Int := sg (σ (c + 4)) 0 (σ c 4).toNat
def rkA (σ : zS) (c : Nat) (v : Int) : Int := (σ (c + 1) v * 32 + σ (c + 2) v) * 60 + v
def STo (σ : zS) (c : Nat) (I : Nat → Bool) : Prop := (ordL σ c).Pairwise (fun a b => rkA σ c a < rkA σ c b) ∧ ∀ v, v ∈ ordL σ c ↔ ∃ r : Nat, v = (r : Int) ∧ I r = true
/-- the store at c holds just the rows of I -/
def ST (σ : zS) (c : Nat) (I : Nat → Bool) : Prop := (∀ r, I r = true → r < 60) ∧ STb σ c I ∧ STo σ c I
theorem p_isRow {x : Int} {σ : zS} : g_so_isRow x σ = some (if 0 ≤ x ∧ x < 60 then 1 else 0, σ) := by
  unfold g_so_isRow
  by_cases c1 : x < 0
  · rw [if_pos c1, if_neg (by omega)]
  · rw [if_neg c1]
    by_cases c2 : 60 ≤ x
    · rw [if_pos c2, if_neg (by omega)]
    · rw [if_neg c2, if_pos (by omega)]
theorem p_isPlace {x y : Int} {σ : zS} : g_b_isPlace x y σ = some (if 0 ≤ x ∧ x ≤ 31 ∧ 0 ≤ y ∧ y ≤ 31 then 1 else 0, σ) := by
  unfold g_b_isPlace
  by_cases c1 : x < 0
  · rw [if_pos c1, if_neg (by omega)]
  · rw [if_neg c1]
    by_cases c2 : 32 ≤ x
    · rw [if_pos c2, if_neg (by omega)]
    · rw [if_neg c2]
      by_cases c3 : y < 0
      · rw [if_pos c3, if_neg (by omega)]
      · rw [if_neg c3]
        by_cases c4 : 32 ≤ y
        · rw [if_pos c4, if_neg (by omega)]
        · rw [if_neg c4, if_pos (by omega)]
theorem p_rank {v : Int} {σ : zS} (H : CI σ) (hv : 0 ≤ v ∧ v < 60) : g_so_rank v σ = some (rkA σ 41 v, σ) := by
  have hx := CI.cp (a := 42) (j := v) H (by omega)
  have hy := CI.cp (a := 43) (j := v) H (by omega)
  unfold g_so_rank
  rw [p_isRow, if_pos hv]
  rw [Option.bind_some]
  try dsimp +instances only
  rw [if_neg (by decide), if_pos hv, if_pos hv]
  rw [w32_id (x := σ 42 v * 32) (by omega) (by omega), w32_id (x := σ 42 v * 32 + σ 43 v) (by omega) (by omega), w32_id (x := (σ 42 v * 32 + σ 43 v) * 60) (by omega) (by omega), w32_id (x := (σ 42 v * 32 + σ 43 v) * 60 + v) (by omega) (by omega)]
  rfl
theorem p_isIn {r : Nat} {σ : zS} (hr : r < 60) : g_so_isIn (r : Int) σ = some (if bq (σ 46 32) r = true then 1 else 0, σ) := by
  unfold g_so_isIn
  rw [p_isRow, if_pos (by omega)]
  rw [Option.bind_some]
  try dsimp +instances only
  rw [if_neg (by decide)]
  have h := bq_tst (v := σ 46 32) (r := r) (by omega)
  by_cases c : bq (σ 46 32) r = true
  · rw [if_neg (fun e => by rw [h.mp e] at c; cases c), if_pos c]
  · have c2 : bq (σ 46 32) r = false := by
      cases hb : bq (σ 46 32) r with
      | true => exact absurd hb c
      | false => rfl
    rw [if_pos (h.mpr c2), if_neg c]
theorem p_isInN {x : Int} {σ : zS} (h : ¬ (0 ≤ x ∧ x < 60)) : g_so_isIn x σ = some (0, σ) := by
  unfold g_so_isIn
  rw [p_isRow, if_neg h]
  rw [Option.bind_some]
  try dsimp +instances only
  rw [if_pos rfl]
/-! the sets by x and y are turned at a row -/
theorem p_flip51 : ∀ (n : Nat) (y x : Int) (σ : zS), 0 ≤ x → x ≤ 33 → zP' (g_so_flip_L51 n y x σ) (fun _ s => (∀ a j, a ≠ 47 → s a j = σ a j) ∧ ∀ i, s 47 i = if x ≤ i ∧ i < 33 then lXor (σ 47 i) y else σ 47 i)
  | 0, _, _, _, _, _ => zP'.no
  | n + 1, y, x, σ, h0, h1 => by
    unfold g_so_flip_L51
    refine zP'.ite (fun c => zP'.ret ⟨fun _ _ _ => rfl, fun i => by rw [if_neg (by omega)]⟩) (fun c => ?_)
    refine zP'.gd (fun c1 => zP'.gd (fun _ => ?_))
    try dsimp +instances only
    rw [w32_id (x := x + 1) (by omega) (by omega)]
    refine (p_flip51 n y (x + 1) _ (by omega) (by omega)).imp (fun _ s p => ⟨fun a j h => (p.1 a j h).trans (zu_a h), fun i => ?_⟩)
    rw [p.2 i]
    by_cases ci : i = x
    · subst ci
      rw [if_neg (by omega), if_pos (by omega), zu_e rfl]
    · rw [zu_i ci]
      by_cases cj : x ≤ i ∧ i < 33
      · rw [if_pos (by omega), if_pos cj]
      · rw [if_neg (by omega), if_neg cj]
def flipped (σ s : zS) (r x y : Int) : Prop := (∀ i, s 46 i = if x < i ∧ i < 33 then lXor (σ 46 i) (lShl 1 r) else σ 46 i) ∧ ∀ i, s 47 i = if y < i ∧ i < 33 then lXor (σ 47 i) (lShl 1 r) else σ 47 i
theorem p_flip14 {r Y m : Int} (hr : 0 ≤ r ∧ r < 60) (hY : 0 ≤ Y ∧ Y ≤ 31) : ∀ (n : Nat) (x : Int) (σ : zS), 0 ≤ x → x ≤ 33 → σ 43 r = Y → zP' (g_so_flip_L14 n r m x σ) (fun _ s => (∀ a j, a ≠ 46 → a ≠ 47 → s a j = σ a j) ∧ (∀ i, s 46 i = if x ≤ i ∧ i < 33 then lXor (σ 46 i) m else σ 46 i) ∧ ∀ i, s 47 i = if Y < i ∧ i < 33 then lXor (σ 47 i) m else σ 47 i)
  | 0, _, _, _, _, _ => zP'.no
  | n + 1, x, σ, h0, h1, hy => by
    unfold g_so_flip_L14
    refine zP'.ite (fun c => ?_) (fun c => ?_)
    · refine zP'.gd (fun _ => ?_)
      try dsimp +instances only
      rw [hy, w32_id (x := Y + 1) (by omega) (by omega)]
      refine (p_flip51 zK m (Y + 1) σ (by omega) (by omega)).imp (fun _ s p => ⟨fun a j _ h => p.1 a j h, fun i => ?_, fun i => ?_⟩)
      · rw [p.1 46 i (by decide), if_neg (by omega)]
      · rw [p.2 i]
        by_cases ci : Y < i ∧ i < 33
        · rw [if_pos (by omega), if_pos ci]
        · rw [if_neg (by omega), if_neg ci]
    · refine zP'.gd (fun c1 => zP'.gd (fun _ => ?_))
      try dsimp +instances only
      rw [w32_id (x := x + 1) (by omega) (by omega)]
      refine (p_flip14 hr hY n (x + 1) _ (by omega) (by omega) (by rw [zu_a (by decide)]; exact hy)).imp (fun _ s p => ⟨fun a j h k => (p.1 a j h k).trans (zu_a h), fun i => ?_, fun i => ?_⟩)
      · rw [p.2.1 i]
        by_cases ci : i = x
        · subst ci
          rw [if_neg (by omega), if_pos (by omega), zu_e rfl]
        · rw [zu_i ci]
          by_cases cj : x ≤ i ∧ i < 33
          · rw [if_pos (by omega), if_pos cj]
          · rw [if_neg (by omega), if_neg cj]
      · rw [p.2.2 i, zu_a (by decide)]
theorem p_flip {r : Int} {σ : zS} (hr : 0 ≤ r ∧ r < 60) (hx : 0 ≤ σ 42 r ∧ σ 42 r ≤ 31) (hy : 0 ≤ σ 43 r ∧ σ 43 r ≤ 31) : zP' (g_so_flip r σ) (fun _ s => (∀ a j, a ≠ 46 → a ≠ 47 → s a j = σ a j) ∧ flipped σ s r (σ 42 r) (σ 43 r)) := by
  unfold g_so_flip
  refine zP'.gd (fun _ => ?_)
  try dsimp +instances only
  rw [w32_id (x := σ 42 r + 1) (by omega) (by omega)]
  refine (p_flip14 hr hy zK (σ 42 r + 1) σ (by omega) (by omega) rfl).imp (fun _ s p => ⟨p.1, fun i => ?_, p.2.2⟩)
  rw [p.2.1 i]
  by_cases ci : σ 42 r < i ∧ i < 33
  · rw [if_pos (by omega), if_pos ci]
  · rw [if_neg (by omega), if_neg ci]
/-! out -/
theorem p_out19 : ∀ (n : Nat) (r x y : Int) (σ : zS) (d : Nat), 0 ≤ x → x ≤ y → y + (d : Int) = zmx y (σ 41 4) → zP' (g_so_bringOut_L19 n r x y σ) (fun v s => (∀ a j, a ≠ 45 → (a ≠ 41 ∨ j ≠ 4) → s a j = σ a j) ∧ ordL s 41 = sg (σ 45) 0 x.toNat ++ (sg (σ 45) y d).filter (fun q => decide (q ≠ r)) ∧ v = iOr (iOr (iOr (σ 42 r) (iShl (σ 42 r) 5)) (iShl (σ 43 r) 10)) (iShl (σ 43 r) 15))
  | 0, _, _, _, _, _, _, _, _ => zP'.no
  | n + 1, r, x, y, σ, d, h0, h1, hd => by
    unfold g_so_bringOut_L19
    unfold zmx at hd
    refine zP'.ite (fun c => ?_) (fun c => ?_)
    · have c : σ 41 4 ≤ y := c
      rw [if_neg (by omega)] at hd
      have d0 : d = 0 := by omega
      subst d0
      try dsimp +instances only
      refine zP'.gd (fun _ => zP'.gd (fun _ => zP'.gd (fun _ => zP'.gd (fun _ => ?_))))
      try dsimp +instances only
      unfold g_b_of
      rw [Option.bind_some]
      refine zP'.ret ⟨fun a j h1 h2 => zu_c h2, ?_, ?_⟩
      · show sg (zu σ 41 4 x 45) 0 (zu σ 41 4 x 41 4).toNat = _ ++ []
        rw [List.append_nil, zu_e rfl]
        exact sg_ext _ 0 0 (fun j _ => zu_a (by decide))
      · dsimp only
        rw [zu_a (by decide), zu_a (by decide)]
    · have c : ¬ σ 41 4 ≤ y := c
      rw [if_pos (by omega)] at hd
      obtain ⟨e, rfl⟩ : ∃ e, d = e + 1 := ⟨d - 1, by omega⟩
      refine zP'.gd (fun c1 => ?_)
      try dsimp +instances only
      have ey := w32_id (x := y + 1) (by omega) (by omega)
      unfold g_so_bringOut_L52
      refine zP'.ite (fun c2 => ?_) (fun c2 => ?_)
      · rw [ey]
        refine (p_out19 n r x (y + 1) σ e h0 (by omega) (by unfold zmx; split <;> omega)).imp (fun v s p => ⟨p.1, ?_, p.2.2⟩)
        rw [p.2.1]
        show _ = _ ++ (σ 45 y :: sg (σ 45) (y + 1) e).filter (fun q => decide (q ≠ r))
        rw [List.filter_cons_of_neg (by rw [decide_eq_true_iff]; exact fun h => h c2)]
      · refine zP'.gd (fun _ => zP'.gd (fun c3 => ?_))
        try dsimp +instances only
        rw [ey, w32_id (x := x + 1) (by omega) (by omega)]
        generalize hs : zu σ 45 x (σ 45 y) = s1
        have q : ∀ a j, (a ≠ 45 ∨ j ≠ x) → s1 a j = σ a j := fun a j h => by rw [← hs]; exact zu_c h
        refine (p_out19 n r (x + 1) (y + 1) s1 e (by omega) (by omega) (by rw [q 41 4 (Or.inl (by decide))]; unfold zmx; split <;> omega)).imp (fun v s p => ⟨fun a j k1 k2 => (p.1 a j k1 k2).trans (q a j (Or.inl k1)), ?_, ?_⟩)
        · rw [p.2.1]
          show _ = _ ++ (σ 45 y :: sg (σ 45) (y + 1) e).filter (fun q => decide (q ≠ r))
          rw [List.filter_cons_of_pos (by rw [decide_eq_true_iff]; exact c2)]
          obtain ⟨m, rfl⟩ : ∃ m : Nat, x = (m : Int) := ⟨x.toNat, by omega⟩
          rw [show ((m : Int) + 1).toNat = m + 1 by omega, show ((m : Int)).toNat = m by omega, sg_snoc]
          have e1 : sg (s1 45) 0 m = sg (σ 45) 0 m := sg_ext m 0 0 (fun j hj => q 45 _ (Or.inr (by omega)))
          have e2 : s1 45 (0 + (m : Int)) = σ 45 y := by rw [← hs, zu_e (by omega)]
          have e3 : sg (s1 45) (y + 1) e = sg (σ 45) (y + 1) e := sg_ext e (y + 1) (y + 1) (fun j hj => q 45 _ (Or.inr (by omega)))
          rw [e1, e2, e3, List.append_assoc]
          rfl
        · rw [p.2.2, q 42 r (Or.inl (by decide)), q 43 r (Or.inl (by decide))]
theorem p_bringOut {r : Nat} {σ : zS} (H : CI σ) (hr : r < 60) : zP' (g_so_bringOut (r : Int) σ) (fun v s => (bq (σ 46 32) r = true → (∀ a j, a ≠ 45 → a ≠ 46 → a ≠ 47 → (a ≠ 41 ∨ j ≠ 4) → s a j = σ a j) ∧ flipped σ s (r : Int) (σ 42 (r : Int)) (σ 43 (r : Int)) ∧ ordL s 41 = (ordL σ 41).filter (fun q => decide (q ≠ (r : Int))) ∧ v = iOr (iOr (iOr (σ 42 (r : Int)) (iShl (σ 42 (r : Int)) 5)) (iShl (σ 43 (r : Int)) 10)) (iShl (σ 43 (r : Int)) 15))) := by
  unfold g_so_bringOut
  rw [p_isIn hr]
  rw [Option.bind_some]
  try dsimp +instances only
  by_cases c : bq (σ 46 32) r = true
  · rw [if_pos c, if_pos (by decide)]
    refine zP'.bind (p_flip (r := (r : Int)) (by omega) (CI.cp H (by omega)) (CI.cp H (by omega))) (fun _ s1 p1 => ?_)
    try dsimp +instances only
    have hc := CI.c4 (a := 41) H (by omega)
    have e4 : s1 41 4 = σ 41 4 := p1.1 41 4 (by decide) (by decide)
    refine (p_out19 zK (r : Int) 0 0 s1 (σ 41 4).toNat (by omega) (by omega) (by rw [e4]; unfold zmx; split <;> omega)).imp (fun v s p _ => ⟨fun a j k1 k2 k3 k4 => (p.1 a j k1 k4).trans (p1.1 a j k2 k3), ⟨fun i => ?_, fun i => ?_⟩, ?_, ?_⟩)
    · rw [p.1 46 i (by decide) (Or.inl (by decide))]; exact p1.2.1 i
    · rw [p.1 47 i (by decide) (Or.inl (by decide))]; exact p1.2.2 i
    · rw [p.2.1]
      show [] ++ _ = (sg (σ 45) 0 (σ 41 4).toNat).filter _
      rw [List.nil_append, sg_ext (f := s1 45) (g := σ 45) _ 0 0 (fun j _ => p1.1 45 _ (by decide) (by decide))]
    · rw [p.2.2, p1.1 42 _ (by decide) (by decide), p1.1 43 _ (by decide) (by decide)]
  · rw [if_neg c, if_neg (by decide)]
    exact zP'.ret (fun h => absurd h c)
/-! in -/
theorem p_in66 {r : Int} (hr : 0 ≤ r ∧ r < 60) : ∀ (n : Nat) (k : Nat) (σ : zS), CI σ → k < 60 → σ 41 4 < 60 → (∀ j : Nat, j < k → 0 ≤ σ 45 (j : Int) ∧ σ 45 (j : Int) < 60) → zP' (g_so_bringIn_L66 n r (k : Int) σ) (fun _ s => ∃ p : Nat, p ≤ k ∧ (∀ a j, a ≠ 45 → (a ≠ 41 ∨ j ≠ 4) → s a j = σ a j) ∧ s 41 4 = σ 41 4 + 1 ∧ (∀ j : Nat, j < p → s 45 (j : Int) = σ 45 (j : Int)) ∧ s 45 (p : Int) = r ∧ (∀ j : Nat, p ≤ j → j < k → s 45 ((j : Int) + 1) = σ 45 (j : Int)) ∧ (∀ j : Int, (k : Int) < j → s 45 j = σ 45 j) ∧ (∀ j : Nat, p ≤ j → j < k → rkA σ 41 r < rkA σ 41 (σ 45 (j : Int))) ∧ (p = 0 ∨ rkA σ 41 (σ 45 ((p : Int) - 1)) ≤ rkA σ 41 r))
  | 0, _, _, _, _, _, _ => zP'.no
  | n + 1, k, σ, H, hk, hc, hv => by
    have h4 := CI.c4 (a := 41) H (by omega)
    have fin : (k = 0 ∨ rkA σ 41 (σ 45 ((k : Int) - 1)) ≤ rkA σ 41 r) → zP' (g_so_bringIn_L114 r (k : Int) σ) (fun _ s => ∃ p : Nat, p ≤ k ∧ (∀ a j, a ≠ 45 → (a ≠ 41 ∨ j ≠ 4) → s a j = σ a j) ∧ s 41 4 = σ 41 4 + 1 ∧ (∀ j : Nat, j < p → s 45 (j : Int) = σ 45 (j : Int)) ∧ s 45 (p : Int) = r ∧ (∀ j : Nat, p ≤ j → j < k → s 45 ((j : Int) + 1) = σ 45 (j : Int)) ∧ (∀ j : Int, (k : Int) < j → s 45 j = σ 45 j) ∧ (∀ j : Nat, p ≤ j → j < k → rkA σ 41 r < rkA σ 41 (σ 45 (j : Int))) ∧ (p = 0 ∨ rkA σ 41 (σ 45 ((p : Int) - 1)) ≤ rkA σ 41 r)) := by
      intro hp
      unfold g_so_bringIn_L114
      refine zP'.gd (fun _ => ?_)
      try dsimp +instances only
      rw [show zu σ 45 (k : Int) r 41 4 = σ 41 4 from zu_a (by decide), w32_id (x := σ 41 4 + 1) (by omega) (by omega)]
      refine zP'.ret ⟨k, Nat.le_refl _, fun a j h1 h2 => ?_, zu_e rfl, fun j hj => ?_, ?_, fun j h1 h2 => absurd h2 (by omega), fun j hj => ?_, fun j h1 h2 => absurd h2 (by omega), hp⟩
      · rw [zu_c h2, zu_a h1]
      · rw [zu_a (by decide), zu_i (by omega)]
      · rw [zu_a (by decide), zu_e rfl]
      · rw [zu_a (by decide), zu_i (by omega)]
    unfold g_so_bringIn_L66
    refine zP'.ite (fun c => fin (Or.inl (by omega))) (fun c => ?_)
    have ew := w32_id (x := (k : Int) - 1) (by omega) (by omega)
    obtain ⟨k, rfl⟩ : ∃ m, k = m + 1 := ⟨k - 1, by omega⟩
    have ek : ((k + 1 : Nat) : Int) - 1 = (k : Int) := by omega
    rw [ek] at ew fin
    have hvk := hv k (by omega)
    refine zP'.gd (fun c1 => ?_)
    try dsimp +instances only
    rw [ek, ew, p_rank H hvk]
    rw [Option.bind_some]
    try dsimp +instances only
    rw [p_rank H hr]
    rw [Option.bind_some]
    try dsimp +instances only
    refine zP'.ite (fun c2 => fin (Or.inr c2)) (fun c2 => ?_)
    refine zP'.gd (fun _ => zP'.gd (fun _ => ?_))
    try dsimp +instances only
    generalize hs : zu σ 45 ((k + 1 : Nat) : Int) (σ 45 (k : Int)) = s1
    have q : ∀ a j, (a ≠ 45 ∨ j ≠ ((k + 1 : Nat) : Int)) → s1 a j = σ a j := fun a j h => by rw [← hs]; exact zu_c h
    have qk : s1 45 ((k + 1 : Nat) : Int) = σ 45 (k : Int) := by rw [← hs]; exact zu_e rfl
    have H1 : CI s1 := by rw [← hs]; exact CI_zun H (by decide) (by decide) rfl
    have rk1 : ∀ v, rkA s1 41 v = rkA σ 41 v := fun v => by
      unfold rkA
      rw [q 42 v (Or.inl (by decide)), q 43 v (Or.inl (by decide))]
    refine (p_in66 hr n k s1 H1 (by omega) (by rw [q 41 4 (Or.inl (by decide))]; exact hc) (fun j hj => by rw [q 45 _ (Or.inr (by omega))]; exact hv j (by omega))).imp (fun _ s h => ?_)
    obtain ⟨p, h0, h1, h2, h3, h4', h5, h6, h7, h8⟩ := h
    refine ⟨p, by omega, fun a j k1 k2 => (h1 a j k1 k2).trans (q a j (Or.inl k1)), by rw [h2, q 41 4 (Or.inl (by decide))], fun j hj => by rw [h3 j hj, q 45 _ (Or.inr (by omega))], h4', fun j j1 j2 => ?_, fun j hj => by rw [h6 j (by omega), q 45 _ (Or.inr (by omega))], fun j j1 j2 => ?_, ?_⟩
    · by_cases cj : j = k
      · subst cj
        rw [h6 ((j : Int) + 1) (by omega), show (j : Int) + 1 = ((j + 1 : Nat) : Int) by omega]; exact qk
      · rw [h5 j j1 (by omega), q 45 _ (Or.inr (by omega))]
    · by_cases cj : j = k
      · subst cj; omega
      · have e := h7 j j1 (by omega)
        rw [rk1, rk1, q 45 _ (Or.inr (by omega))] at e
        exact e
    · rcases h8 with h8 | h8
      · exact Or.inl h8
      · by_cases cp : p = 0
        · exact Or.inl cp
        · rw [rk1, rk1, q 45 _ (Or.inr (by omega))] at h8
          exact Or.inr h8
