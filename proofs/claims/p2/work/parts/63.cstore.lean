/-! FACTS OF ANSWERS: the class's put() and take() at the store -/
/-- a row comes in at a place with a worth -/
def cellsIn (σ s : zS) (r x y v : Int) : Prop := (∀ j, s 42 j = if j = r then x else σ 42 j) ∧ (∀ j, s 43 j = if j = r then y else σ 43 j) ∧ (∀ j, s 44 j = if j = r then v else σ 44 j)
theorem p_bringIn {r : Nat} {x y v : Int} {σ : zS} (H : CI σ) (hr : r < 60) (hx : 0 ≤ x ∧ x ≤ 31) (hy : 0 ≤ y ∧ y ≤ 31) (hc : σ 41 4 < 60) (hn : bq (σ 46 32) r = false) (hv : ∀ j : Nat, (j : Int) < σ 41 4 → 0 ≤ σ 45 (j : Int) ∧ σ 45 (j : Int) < 60) : zP' (g_so_bringIn (r : Int) x y v σ) (fun _ s => cellsIn σ s (r : Int) x y v ∧ flipped σ s (r : Int) x y ∧ s 41 4 = σ 41 4 + 1 ∧ ∃ p : Nat, (p : Int) ≤ σ 41 4 ∧ (∀ j : Nat, j < p → s 45 (j : Int) = σ 45 (j : Int)) ∧ s 45 (p : Int) = (r : Int) ∧ (∀ j : Nat, p ≤ j → (j : Int) < σ 41 4 → s 45 ((j : Int) + 1) = σ 45 (j : Int)) ∧ (∀ j : Nat, p ≤ j → (j : Int) < σ 41 4 → rkA s 41 (r : Int) < rkA s 41 (σ 45 (j : Int))) ∧ (p = 0 ∨ rkA s 41 (σ 45 ((p : Int) - 1)) ≤ rkA s 41 (r : Int))) := by
  have h4 := CI.c4 (a := 41) H (by omega)
  unfold g_so_bringIn
  rw [p_isRow, if_pos (by omega)]
  rw [Option.bind_some]
  try dsimp +instances only
  rw [if_neg (by decide), p_isIn hr, if_neg (by rw [hn]; decide)]
  rw [Option.bind_some]
  try dsimp +instances only
  rw [if_neg (by decide), if_neg (by omega), p_isPlace, if_pos (by omega)]
  rw [Option.bind_some]
  try dsimp +instances only
  rw [if_pos (by decide)]
  refine zP'.gd (fun _ => zP'.gd (fun _ => zP'.gd (fun _ => ?_)))
  try dsimp +instances only
  generalize hs : zu (zu (zu σ 42 (r : Int) x) 43 (r : Int) y) 44 (r : Int) v = s1
  have q : ∀ a j, a ≠ 42 → a ≠ 43 → a ≠ 44 → s1 a j = σ a j := fun a j k1 k2 k3 => by rw [← hs, zu_a k3, zu_a k2, zu_a k1]
  have q42 : ∀ j, s1 42 j = if j = (r : Int) then x else σ 42 j := fun j => by
    rw [← hs, zu_a (by decide), zu_a (by decide)]
    by_cases c : j = (r : Int)
    · rw [zu_e c, if_pos c]
    · rw [zu_i c, if_neg c]
  have q43 : ∀ j, s1 43 j = if j = (r : Int) then y else σ 43 j := fun j => by
    rw [← hs, zu_a (by decide)]
    by_cases c : j = (r : Int)
    · rw [zu_e c, if_pos c]
    · rw [zu_i c, if_neg c, zu_a (by decide)]
  have q44 : ∀ j, s1 44 j = if j = (r : Int) then v else σ 44 j := fun j => by
    rw [← hs]
    by_cases c : j = (r : Int)
    · rw [zu_e c, if_pos c]
    · rw [zu_i c, if_neg c, zu_a (by decide), zu_a (by decide)]
  have H1 : CI s1 := by
    rw [← hs]
    refine CI_zun (CI_zuy (CI_zuy H (by decide) (by decide) (lo := 0) (hi := 31) rfl hx.1 hx.2) (by decide) (by decide) (lo := 0) (hi := 31) rfl hy.1 hy.2) (by decide) (by decide) rfl
  refine zP'.bind ((p_flip (r := (r : Int)) (σ := s1) (by omega) (CI.cp H1 (by omega)) (CI.cp H1 (by omega))).and (zP'.of (g_so_flip_sp H1 (by omega)))) (fun _ s2 p2 => ?_)
  try dsimp +instances only
  obtain ⟨⟨e2, fl⟩, H2, -⟩ := p2
  have e4 : s2 41 4 = σ 41 4 := (e2 41 4 (by decide) (by decide)).trans (q 41 4 (by decide) (by decide) (by decide))
  have e45 : ∀ j, s2 45 j = σ 45 j := fun j => (e2 45 j (by decide) (by decide)).trans (q 45 j (by decide) (by decide) (by decide))
  obtain ⟨k, hk⟩ : ∃ k : Nat, σ 41 4 = (k : Int) := ⟨(σ 41 4).toNat, by omega⟩
  rw [e4, hk]
  refine (p_in66 (r := (r : Int)) (by omega) zK k s2 H2 (by omega) (by omega) (fun j hj => by rw [e45]; exact hv j (by omega))).imp (fun _ s h => ?_)
  obtain ⟨p, h0, h1, h2, h3, h4', h5, h6, h7, h8⟩ := h
  have rk : ∀ w, rkA s 41 w = rkA s2 41 w := fun w => by
    unfold rkA
    rw [h1 42 w (by decide) (Or.inl (by decide)), h1 43 w (by decide) (Or.inl (by decide))]
  rw [q42 (r : Int), if_pos rfl, q43 (r : Int), if_pos rfl] at fl
  refine ⟨⟨fun j => ?_, fun j => ?_, fun j => ?_⟩, ⟨fun i => ?_, fun i => ?_⟩, by omega, p, by omega, fun j hj => ?_, h4', fun j j1 j2 => ?_, fun j j1 j2 => ?_, ?_⟩
  · rw [h1 42 j (by decide) (Or.inl (by decide)), e2 42 j (by decide) (by decide), q42]
  · rw [h1 43 j (by decide) (Or.inl (by decide)), e2 43 j (by decide) (by decide), q43]
  · rw [h1 44 j (by decide) (Or.inl (by decide)), e2 44 j (by decide) (by decide), q44]
  · rw [h1 46 i (by decide) (Or.inl (by decide)), fl.1 i, q 46 i (by decide) (by decide) (by decide)]
  · rw [h1 47 i (by decide) (Or.inl (by decide)), fl.2 i, q 47 i (by decide) (by decide) (by decide)]
  · rw [h3 j hj, e45]
  · rw [h5 j j1 (by omega), e45]
  · have e := h7 j j1 (by omega)
    rw [rk, rk, ← e45]
    exact e
  · rcases h8 with h8 | h8
    · exact Or.inl h8
    · right
      rw [rk, rk, ← e45]
      exact h8
theorem ST_cnt {σ : zS} {I : Nat → Bool} {r : Nat} (S : ST σ 41 I) (hr : r < 60) (hI : I r = false) (h4 : 0 ≤ σ 41 4) : σ 41 4 < 60 := by
  obtain ⟨h1, -, h3, h5⟩ := S
  have hl : (ordL σ 41).length = (σ 41 4).toNat := sg_len _ _ _
  have h := nd_len (ordL σ 41) (sg id 0 r ++ sg id ((r : Int) + 1) (59 - r)) (h3.imp (fun {a b} h e => by rw [e] at h; omega)) (fun a ha => by
    obtain ⟨q, rfl, hq⟩ := (h5 a).mp ha
    have hq6 := h1 q hq
    have hne : q ≠ r := fun e => by rw [e, hI] at hq; cases hq
    rw [List.mem_append]
    by_cases c : q < r
    · exact Or.inl ((sg_mem r 0).mpr ⟨q, c, by show (0 : Int) + (q : Int) = _; omega⟩)
    · exact Or.inr ((sg_mem (59 - r) ((r : Int) + 1)).mpr ⟨q - (r + 1), by omega, by show (r : Int) + 1 + ((q - (r + 1) : Nat) : Int) = _; omega⟩))
  rw [hl, List.length_append, sg_len, sg_len] at h
  omega
theorem ST_val {σ : zS} {I : Nat → Bool} (S : ST σ 41 I) : ∀ j : Nat, (j : Int) < σ 41 4 → 0 ≤ σ 45 (j : Int) ∧ σ 45 (j : Int) < 60 := fun j hj => by
  obtain ⟨h1, -, -, h5⟩ := S
  obtain ⟨q, e, hq⟩ := (h5 (σ 45 (j : Int))).mp ((sg_mem _ 0).mpr ⟨j, by omega, by rw [show (0 : Int) + (j : Int) = (j : Int) by omega]⟩)
  have := h1 q hq
  omega
theorem ST_bit {σ : zS} {I : Nat → Bool} {r : Nat} (H : CI σ) (S : ST σ 41 I) (hr : r < 60) : bq (σ 46 32) r = I r := by
  have h := (S.2.1 32 r (by omega) (by omega)).1
  have hx := CI.cp (a := 42) (j := (r : Int)) H (by omega)
  have h : bq (σ 46 ((32 : Nat) : Int)) r = (I r && decide (σ 42 (r : Int) < ((32 : Nat) : Int))) := h
  rw [show ((32 : Nat) : Int) = 32 from rfl] at h
  rw [h, decide_eq_true (show σ 42 (r : Int) < 32 by omega), Bool.and_true]
theorem rk_inj {σ : zS} {a b : Int} (ha : 0 ≤ a ∧ a < 60) (hb : 0 ≤ b ∧ b < 60) (h : rkA σ 41 a = rkA σ 41 b) : a = b := by
  unfold rkA at h
  omega
theorem ST_in {σ s : zS} {I : Nat → Bool} {r : Nat} {x y v : Int} (S : ST σ 41 I) (hr : r < 60) (hI : I r = false) (hx : 0 ≤ x ∧ x ≤ 31) (hy : 0 ≤ y ∧ y ≤ 31) (h0 : 0 ≤ σ 41 4) (c1 : cellsIn σ s (r : Int) x y v) (c2 : flipped σ s (r : Int) x y) (c3 : s 41 4 = σ 41 4 + 1) (c4 : ∃ p : Nat, (p : Int) ≤ σ 41 4 ∧ (∀ j : Nat, j < p → s 45 (j : Int) = σ 45 (j : Int)) ∧ s 45 (p : Int) = (r : Int) ∧ (∀ j : Nat, p ≤ j → (j : Int) < σ 41 4 → s 45 ((j : Int) + 1) = σ 45 (j : Int)) ∧ (∀ j : Nat, p ≤ j → (j : Int) < σ 41 4 → rkA s 41 (r : Int) < rkA s 41 (σ 45 (j : Int))) ∧ (p = 0 ∨ rkA s 41 (σ 45 ((p : Int) - 1)) ≤ rkA s 41 (r : Int))) : ST s 41 (fun q => I q || decide (q = r)) := by
  have vals := ST_val S
  obtain ⟨b1, b2, b3, b5⟩ := S
  obtain ⟨p, p0, p1, p2, p3, p4, p5⟩ := c4
  obtain ⟨n, hn⟩ : ∃ n : Nat, σ 41 4 = (n : Int) := ⟨(σ 41 4).toNat, by omega⟩
  have hno : ∀ j : Nat, j < n → σ 45 (j : Int) ≠ (r : Int) := fun j hj e => by
    obtain ⟨q, e2, hq⟩ := (b5 (σ 45 (j : Int))).mp ((sg_mem _ 0).mpr ⟨j, by omega, by rw [show (0 : Int) + (j : Int) = (j : Int) by omega]⟩)
    have : q = r := by omega
    rw [this, hI] at hq
    cases hq
  have rkE : ∀ w, w ≠ (r : Int) → rkA s 41 w = rkA σ 41 w := fun w hw => by
    have e1 := c1.1 w
    have e2 := c1.2.1 w
    rw [if_neg hw] at e1 e2
    show (s 42 w * 32 + s 43 w) * 60 + w = (σ 42 w * 32 + σ 43 w) * 60 + w
    rw [e1, e2]
  have srt : ∀ i j : Nat, i < j → j < n → rkA σ 41 (σ 45 (i : Int)) < rkA σ 41 (σ 45 (j : Int)) := fun i j hij hj => by
    have b3 : (sg (σ 45) 0 (σ 41 4).toNat).Pairwise (fun a b => rkA σ 41 a < rkA σ 41 b) := b3
    have h := (sg_pw _ 0).mp b3 i j hij (by omega)
    rw [show (0 : Int) + (i : Int) = (i : Int) by omega, show (0 : Int) + (j : Int) = (j : Int) by omega] at h
    exact h
  have before : ∀ j : Nat, j < p → rkA s 41 (σ 45 (j : Int)) < rkA s 41 (r : Int) := fun j hj => by
    have hp : p ≠ 0 := by omega
    have h5 := p5.resolve_left hp
    have hl : rkA s 41 (σ 45 (j : Int)) ≤ rkA s 41 (σ 45 ((p : Int) - 1)) := by
      by_cases cj : j + 1 = p
      · rw [show (p : Int) - 1 = (j : Int) by omega]; omega
      · have h := srt j (p - 1) (by omega) (by omega)
        rw [show (p : Int) - 1 = ((p - 1 : Nat) : Int) by omega, rkE _ (hno j (by omega)), rkE _ (hno (p - 1) (by omega))]
        omega
    have hne : rkA s 41 (σ 45 (j : Int)) ≠ rkA s 41 (r : Int) := fun e => hno j (by omega) (rk_inj (vals j (by omega)) (by omega) e)
    omega
  -- the new order, place by place
  have cell : ∀ j : Nat, j < n + 1 → (j < p ∧ s 45 (j : Int) = σ 45 (j : Int)) ∨ (j = p ∧ s 45 (j : Int) = (r : Int)) ∨ (p < j ∧ s 45 (j : Int) = σ 45 ((j - 1 : Nat) : Int)) := fun j hj => by
    by_cases ca : j < p
    · exact Or.inl ⟨ca, p1 j ca⟩
    · by_cases cb : j = p
      · subst cb; exact Or.inr (Or.inl ⟨rfl, p2⟩)
      · have h := p3 (j - 1) (by omega) (by omega)
        rw [show ((j - 1 : Nat) : Int) + 1 = (j : Int) by omega] at h
        exact Or.inr (Or.inr ⟨by omega, h⟩)
  refine ⟨fun q hq => ?_, fun i q hi hq => ?_, ?_, fun w => ?_⟩
  · rw [Bool.or_eq_true] at hq
    rcases hq with hq | hq
    · exact b1 q hq
    · rw [of_decide_eq_true hq]; exact hr
  · have e1 := c1.1 (q : Int)
    have e2 := c1.2.1 (q : Int)
    have f1 := c2.1 (i : Int)
    have f2 := c2.2 (i : Int)
    have g1 := (b2 i q hi hq).1
    have g2 := (b2 i q hi hq).2
    show bq (s 46 (i : Int)) q = ((I q || decide (q = r)) && decide (s 42 (q : Int) < (i : Int))) ∧ bq (s 47 (i : Int)) q = ((I q || decide (q = r)) && decide (s 43 (q : Int) < (i : Int)))
    have g1 : bq (σ 46 (i : Int)) q = (I q && decide (σ 42 (q : Int) < (i : Int))) := g1
    have g2 : bq (σ 47 (i : Int)) q = (I q && decide (σ 43 (q : Int) < (i : Int))) := g2
    rw [e1, e2, f1, f2]
    by_cases cq : q = r
    · subst cq
      rw [if_pos rfl, if_pos rfl, hI]
      rw [hI, Bool.false_and] at g1 g2
      constructor
      · by_cases cx : x < (i : Int)
        · rw [if_pos ⟨cx, by omega⟩, bq_xor, g1, bq_bit (by omega), decide_eq_true cx]
          simp
        · rw [if_neg (fun h => cx h.1), g1, decide_eq_false cx]
          simp
      · by_cases cx : y < (i : Int)
        · rw [if_pos ⟨cx, by omega⟩, bq_xor, g2, bq_bit (by omega), decide_eq_true cx]
          simp
        · rw [if_neg (fun h => cx h.1), g2, decide_eq_false cx]
          simp
    · have cq2 : ¬ (q : Int) = (r : Int) := by omega
      have dq : decide (q = r) = false := decide_eq_false cq
      rw [if_neg cq2, if_neg cq2, dq, Bool.or_false]
      constructor
      · by_cases cx : x < (i : Int) ∧ (i : Int) < 33
        · rw [if_pos cx, bq_xor, g1, bq_bit (by omega), dq, Bool.xor_false]
        · rw [if_neg cx, g1]
      · by_cases cx : y < (i : Int) ∧ (i : Int) < 33
        · rw [if_pos cx, bq_xor, g2, bq_bit (by omega), dq, Bool.xor_false]
        · rw [if_neg cx, g2]
  · show (sg (s 45) 0 (s 41 4).toNat).Pairwise (fun a b => rkA s 41 a < rkA s 41 b)
    rw [c3, hn, show ((n : Int) + 1).toNat = n + 1 by omega]
    refine (sg_pw (n + 1) 0).mpr (fun i j hij hj => ?_)
    rw [show (0 : Int) + (i : Int) = (i : Int) by omega, show (0 : Int) + (j : Int) = (j : Int) by omega]
    rcases cell i (by omega) with ⟨i1, i2⟩ | ⟨i1, i2⟩ | ⟨i1, i2⟩
    · rcases cell j hj with ⟨j1, j2⟩ | ⟨j1, j2⟩ | ⟨j1, j2⟩
      · rw [i2, j2, rkE _ (hno i (by omega)), rkE _ (hno j (by omega))]
        exact srt i j hij (by omega)
      · rw [i2, j2]; exact before i i1
      · rw [i2, j2, rkE _ (hno i (by omega)), rkE _ (hno (j - 1) (by omega))]
        exact srt i (j - 1) (by omega) (by omega)
    · rcases cell j hj with ⟨j1, j2⟩ | ⟨j1, j2⟩ | ⟨j1, j2⟩
      · omega
      · omega
      · rw [i2, j2]; exact p4 (j - 1) (by omega) (by omega)
    · rcases cell j hj with ⟨j1, j2⟩ | ⟨j1, j2⟩ | ⟨j1, j2⟩
      · omega
      · omega
      · rw [i2, j2, rkE _ (hno (i - 1) (by omega)), rkE _ (hno (j - 1) (by omega))]
        exact srt (i - 1) (j - 1) (by omega) (by omega)
  · show w ∈ sg (s 45) 0 (s 41 4).toNat ↔ _
    rw [c3, hn, show ((n : Int) + 1).toNat = n + 1 by omega, sg_mem]
    have b5' : ∀ u, (∃ j : Nat, j < n ∧ σ 45 (j : Int) = u) ↔ ∃ q : Nat, u = (q : Int) ∧ I q = true := fun u => by
      have h := b5 u
      have h : u ∈ sg (σ 45) 0 (σ 41 4).toNat ↔ _ := h
      rw [sg_mem] at h
      rw [← h]
      constructor
      · rintro ⟨j, h1, h2⟩
        exact ⟨j, by omega, by rw [show (0 : Int) + (j : Int) = (j : Int) by omega]; exact h2⟩
      · rintro ⟨j, h1, h2⟩
        rw [show (0 : Int) + (j : Int) = (j : Int) by omega] at h2
        exact ⟨j, by omega, h2⟩
    constructor
    · rintro ⟨j, h1, h2⟩
      rw [show (0 : Int) + (j : Int) = (j : Int) by omega] at h2
      rcases cell j h1 with ⟨j1, j2⟩ | ⟨j1, j2⟩ | ⟨j1, j2⟩
      · obtain ⟨q, e, hq⟩ := (b5' w).mp ⟨j, by omega, by rw [← j2]; exact h2⟩
        exact ⟨q, e, by show (I q || decide (q = r)) = true; rw [hq]; rfl⟩
      · exact ⟨r, by omega, by simp⟩
      · obtain ⟨q, e, hq⟩ := (b5' w).mp ⟨j - 1, by omega, by rw [← j2]; exact h2⟩
        exact ⟨q, e, by show (I q || decide (q = r)) = true; rw [hq]; rfl⟩
    · rintro ⟨q, e, hq⟩
      rw [Bool.or_eq_true] at hq
      rcases hq with hq | hq
      · obtain ⟨j, h1, h2⟩ := (b5' w).mpr ⟨q, e, hq⟩
        by_cases cj : j < p
        · exact ⟨j, by omega, by rw [show (0 : Int) + (j : Int) = (j : Int) by omega, p1 j cj]; exact h2⟩
        · exact ⟨j + 1, by omega, by rw [show (0 : Int) + ((j + 1 : Nat) : Int) = (j : Int) + 1 by omega, p3 j (by omega) (by omega)]; exact h2⟩
      · have : q = r := of_decide_eq_true hq
        exact ⟨p, by omega, by rw [show (0 : Int) + (p : Int) = (p : Int) by omega, p2]; omega⟩
theorem ST_out {σ s : zS} {I : Nat → Bool} {r : Nat} (H : CI σ) (S : ST σ 41 I) (hr : r < 60) (hI : I r = true) (e : ∀ a j, a ≠ 45 → a ≠ 46 → a ≠ 47 → (a ≠ 41 ∨ j ≠ 4) → s a j = σ a j) (c2 : flipped σ s (r : Int) (σ 42 (r : Int)) (σ 43 (r : Int))) (c3 : ordL s 41 = (ordL σ 41).filter (fun q => decide (q ≠ (r : Int)))) : ST s 41 (fun q => I q && !decide (q = r)) := by
  obtain ⟨b1, b2, b3, b5⟩ := S
  have e42 : ∀ j, s 42 j = σ 42 j := fun j => e 42 j (by decide) (by decide) (by decide) (Or.inl (by decide))
  have e43 : ∀ j, s 43 j = σ 43 j := fun j => e 43 j (by decide) (by decide) (by decide) (Or.inl (by decide))
  refine ⟨fun q hq => ?_, fun i q hi hq => ?_, ?_, fun w => ?_⟩
  · rw [Bool.and_eq_true] at hq
    exact b1 q hq.1
  · have f1 := c2.1 (i : Int)
    have f2 := c2.2 (i : Int)
    have g1 := (b2 i q hi hq).1
    have g2 := (b2 i q hi hq).2
    show bq (s 46 (i : Int)) q = ((I q && !decide (q = r)) && decide (s 42 (q : Int) < (i : Int))) ∧ bq (s 47 (i : Int)) q = ((I q && !decide (q = r)) && decide (s 43 (q : Int) < (i : Int)))
    have g1 : bq (σ 46 (i : Int)) q = (I q && decide (σ 42 (q : Int) < (i : Int))) := g1
    have g2 : bq (σ 47 (i : Int)) q = (I q && decide (σ 43 (q : Int) < (i : Int))) := g2
    rw [e42, e43, f1, f2]
    by_cases cq : q = r
    · subst cq
      rw [hI, Bool.true_and] at g1 g2
      have dq : decide (q = q) = true := decide_eq_true rfl
      rw [dq, hI]
      constructor
      · by_cases cx : σ 42 (q : Int) < (i : Int)
        · rw [if_pos ⟨cx, by omega⟩, bq_xor, g1, bq_bit (by omega), decide_eq_true cx, dq]
          rfl
        · rw [if_neg (fun h => cx h.1), g1, decide_eq_false cx]
          rfl
      · by_cases cx : σ 43 (q : Int) < (i : Int)
        · rw [if_pos ⟨cx, by omega⟩, bq_xor, g2, bq_bit (by omega), decide_eq_true cx, dq]
          rfl
        · rw [if_neg (fun h => cx h.1), g2, decide_eq_false cx]
          rfl
    · have dq : decide (q = r) = false := decide_eq_false cq
      rw [dq, Bool.not_false, Bool.and_true]
      constructor
      · by_cases cx : σ 42 (r : Int) < (i : Int) ∧ (i : Int) < 33
        · rw [if_pos cx, bq_xor, g1, bq_bit (by omega), dq, Bool.xor_false]
        · rw [if_neg cx, g1]
      · by_cases cx : σ 43 (r : Int) < (i : Int) ∧ (i : Int) < 33
        · rw [if_pos cx, bq_xor, g2, bq_bit (by omega), dq, Bool.xor_false]
        · rw [if_neg cx, g2]
  · rw [c3]
    refine (b3.filter _).imp (fun {a b} h => ?_)
    show (s 42 a * 32 + s 43 a) * 60 + a < (s 42 b * 32 + s 43 b) * 60 + b
    rw [e42, e43, e42, e43]
    exact h
  · rw [c3, List.mem_filter, b5]
    constructor
    · rintro ⟨⟨q, e1, hq⟩, h2⟩
      have h2 := of_decide_eq_true h2
      refine ⟨q, e1, ?_⟩
      show (I q && !decide (q = r)) = true
      rw [hq, Bool.true_and, Bool.not_eq_true']
      exact decide_eq_false (fun h => h2 (by omega))
    · rintro ⟨q, e1, hq⟩
      rw [Bool.and_eq_true, Bool.not_eq_true'] at hq
      have h2 : ¬ q = r := of_decide_eq_false hq.2
      exact ⟨⟨q, e1, hq.1⟩, decide_eq_true (by omega)⟩
/-- the store's cells are as they were -/
def stK (a : Nat) (j : Int) : Prop := a = 42 ∨ a = 43 ∨ a = 44 ∨ a = 45 ∨ a = 46 ∨ a = 47 ∨ (a = 41 ∧ j = 4)
def stE (σ s : zS) : Prop := ∀ a j, stK a j → s a j = σ a j
theorem stE.refl (σ : zS) : stE σ σ := fun _ _ _ => rfl
theorem stE.trans {σ s t : zS} (h1 : stE σ s) (h2 : stE s t) : stE σ t := fun a j k => (h2 a j k).trans (h1 a j k)
theorem stE.of {F : Nat → Int → Bool} {σ s : zS} (G : fr F σ s) (h : ∀ j, F 42 j = false ∧ F 43 j = false ∧ F 44 j = false ∧ F 45 j = false ∧ F 46 j = false ∧ F 47 j = false ∧ F 41 4 = false) : stE σ s := fun a j k => by
  obtain ⟨h1, h2, h3, h4, h5, h6, h7⟩ := h j
  rcases k with rfl | rfl | rfl | rfl | rfl | rfl | ⟨rfl, rfl⟩
  · exact G _ _ (Or.inr h1)
  · exact G _ _ (Or.inr h2)
  · exact G _ _ (Or.inr h3)
  · exact G _ _ (Or.inr h4)
  · exact G _ _ (Or.inr h5)
  · exact G _ _ (Or.inr h6)
  · exact G _ _ (Or.inr h7)
theorem ST_E {σ s : zS} {I : Nat → Bool} (S : ST σ 41 I) (e : stE σ s) : ST s 41 I := by
  obtain ⟨b1, b2, b3, b5⟩ := S
  have e41 : s 41 4 = σ 41 4 := e 41 4 (by unfold stK; omega)
  have e42 : ∀ j, s 42 j = σ 42 j := fun j => e 42 j (by unfold stK; omega)
  have e43 : ∀ j, s 43 j = σ 43 j := fun j => e 43 j (by unfold stK; omega)
  have eo : ordL s 41 = ordL σ 41 := by
    show sg (s 45) 0 (s 41 4).toNat = sg (σ 45) 0 (σ 41 4).toNat
    rw [e41]
    exact sg_ext _ 0 0 (fun j _ => e 45 _ (by unfold stK; omega))
  refine ⟨b1, fun i q hi hq => ?_, ?_, ?_⟩
  · show bq (s 46 (i : Int)) q = (I q && decide (s 42 (q : Int) < (i : Int))) ∧ bq (s 47 (i : Int)) q = (I q && decide (s 43 (q : Int) < (i : Int)))
    rw [e42, e43, e 46 _ (by unfold stK; omega), e 47 _ (by unfold stK; omega)]
    exact b2 i q hi hq
  · rw [eo]
    refine b3.imp (fun {a b} h => ?_)
    show (s 42 a * 32 + s 43 a) * 60 + a < (s 42 b * 32 + s 43 b) * 60 + b
    rw [e42, e43, e42, e43]
    exact h
  · rw [eo]; exact b5
/-- put() at the class's store -/
theorem c_put90 {r : Nat} {x y v : Int} {σ : zS} {I : Nat → Bool} (H : CI σ) (S : ST σ 41 I) (hr : r < 60) (hI : I r = false) (hx : 0 ≤ x ∧ x ≤ 31) (hy : 0 ≤ y ∧ y ≤ 31) : zP' (g_c_put_L90 (r : Int) x y v σ) (fun _ s => ST s 41 (fun q => I q || decide (q = r)) ∧ cellsIn σ s (r : Int) x y v) := by
  have h4 := CI.c4 (a := 41) H (by omega)
  unfold g_c_put_L90
  refine zP'.bind ((p_bringIn H hr hx hy (ST_cnt S hr hI h4.1) (by rw [ST_bit H S hr]; exact hI) (ST_val S)).and (zP'.of (g_so_bringIn_sp H))) (fun _ s1 p1 => ?_)
  obtain ⟨⟨k1, k2, k3, k4⟩, H1, -, -⟩ := p1
  have S1 := ST_in S hr hI hx hy h4.1 k1 k2 k3 k4
  try dsimp +instances only
  unfold g_b_of
  rw [Option.bind_some]
  refine zP'.bind (zP'.of (g_ca_write_sp (a0 := 48) (by omega) H1)) (fun _ s2 p2 => ?_)
  obtain ⟨H2, G2, -⟩ := p2
  try dsimp +instances only
  refine zP'.bind (zP'.of (g_c_afterWrites_sp H2)) (fun _ s3 p3 => ?_)
  obtain ⟨H3, G3, -⟩ := p3
  have e : stE s1 s3 := (stE.of G2 (fun _ => ⟨rfl, rfl, rfl, rfl, rfl, rfl, rfl⟩)).trans (stE.of G3 (fun _ => ⟨rfl, rfl, rfl, rfl, rfl, rfl, rfl⟩))
  refine zP'.ret ⟨ST_E S1 e, fun j => ?_, fun j => ?_, fun j => ?_⟩
  · show s3 42 j = _
    rw [e 42 j (by unfold stK; omega)]; exact k1.1 j
  · show s3 43 j = _
    rw [e 43 j (by unfold stK; omega)]; exact k1.2.1 j
  · show s3 44 j = _
    rw [e 44 j (by unfold stK; omega)]; exact k1.2.2 j
theorem c_put {r x y v : Int} {σ : zS} {I : Nat → Bool} (H : CI σ) (S : ST σ 41 I) : zP' (g_c_put r x y v σ) (fun _ s => (acc r x y v → ∃ k : Nat, r = (k : Int) ∧ k < 60 ∧ ST s 41 (fun q => I q || decide (q = k)) ∧ cellsIn σ s r x y v) ∧ (¬ acc r x y v → stE σ s)) := by
  have no : ∀ c : Int, ¬ acc r x y v → zP' (some (c, σ)) (fun _ s => (acc r x y v → ∃ k : Nat, r = (k : Int) ∧ k < 60 ∧ ST s 41 (fun q => I q || decide (q = k)) ∧ cellsIn σ s r x y v) ∧ (¬ acc r x y v → stE σ s)) := fun c h => zP'.ret ⟨fun k => absurd k h, fun _ => stE.refl σ⟩
  unfold g_c_put
  rw [p_isRow]
  rw [Option.bind_some]
  try dsimp +instances only
  by_cases c1 : 0 ≤ r ∧ r < 60
  · rw [if_pos c1, if_pos (by decide), p_isPlace]
    rw [Option.bind_some]
    try dsimp +instances only
    by_cases c2 : 0 ≤ x ∧ x ≤ 31 ∧ 0 ≤ y ∧ y ≤ 31
    · rw [if_pos c2, if_neg (by decide)]
      refine zP'.ite (fun c3 => no _ (fun h => h.2.2.2.1 (lCmp_eq.mp c3))) (fun c3 => ?_)
      refine zP'.ite (fun c4 => ?_) (fun c4 => no _ (fun h => c4 (fun e => h.2.2.2.2 (lCmp_eq.mp e))))
      have hacc : acc r x y v := ⟨c1, ⟨c2.1, c2.2.1⟩, c2.2.2, fun h => c3 (lCmp_eq.mpr h), fun h => c4 (lCmp_eq.mpr h)⟩
      obtain ⟨k, rfl⟩ : ∃ k : Nat, r = (k : Int) := ⟨r.toNat, by omega⟩
      have hk : k < 60 := by omega
      refine zP'.bind (zP'.of (g_wa_remember_sp H)) (fun _ s1 p1 => ?_)
      obtain ⟨H1, G1, -⟩ := p1
      have e1 : stE σ s1 := stE.of G1 (fun _ => ⟨rfl, rfl, rfl, rfl, rfl, rfl, rfl⟩)
      have S1 := ST_E S e1
      try dsimp +instances only
      rw [p_isIn hk, ST_bit H1 S1 hk]
      rw [Option.bind_some]
      try dsimp +instances only
      have cin : ∀ s' s'' : zS, stE σ s' → (∀ a j, a = 42 ∨ a = 43 ∨ a = 44 → s' a j = σ a j) → cellsIn s' s'' (k : Int) x y v → cellsIn σ s'' (k : Int) x y v := fun s' s'' _ q h => ⟨fun j => by rw [h.1 j, q 42 j (by omega)], fun j => by rw [h.2.1 j, q 43 j (by omega)], fun j => by rw [h.2.2 j, q 44 j (by omega)]⟩
      by_cases c5 : I k = true
      · rw [if_pos c5, if_neg (by decide)]
        refine zP'.bind ((p_bringOut H1 hk).and (zP'.of (g_so_bringOut_sp H1))) (fun w s2 p2 => ?_)
        obtain ⟨k2, H2, -, -⟩ := p2
        obtain ⟨k3, k4, k5, -⟩ := k2 (by rw [ST_bit H1 S1 hk]; exact c5)
        have S2 := ST_out H1 S1 hk c5 k3 k4 k5
        try dsimp +instances only
        refine zP'.bind (zP'.of (g_ca_write_sp (a0 := 48) (by omega) H2)) (fun _ s3 p3 => ?_)
        obtain ⟨H3, G3, -⟩ := p3
        have e3 : stE s2 s3 := stE.of G3 (fun _ => ⟨rfl, rfl, rfl, rfl, rfl, rfl, rfl⟩)
        have S3 := ST_E S2 e3
        try dsimp +instances only
        refine (c_put90 (x := x) (y := y) (v := v) H3 S3 hk (by simp) ⟨c2.1, c2.2.1⟩ c2.2.2).imp (fun _ s h => ⟨fun _ => ⟨k, rfl, hk, ?_, ?_⟩, fun hn => absurd hacc hn⟩)
        · have ef : (fun q => I q || decide (q = k)) = (fun q => (I q && !decide (q = k)) || decide (q = k)) := by
            funext q
            cases I q <;> cases decide (q = k) <;> rfl
          rw [ef]
          exact h.1
        · have q3 : ∀ a j, a = 42 ∨ a = 43 ∨ a = 44 → s3 a j = σ a j := fun a j ha => by
            rw [e3 a j (by unfold stK; omega), k3 a j (by omega) (by omega) (by omega) (Or.inl (by omega)), e1 a j (by unfold stK; omega)]
          exact ⟨fun j => by rw [h.2.1 j, q3 42 j (by omega)], fun j => by rw [h.2.2.1 j, q3 43 j (by omega)], fun j => by rw [h.2.2.2 j, q3 44 j (by omega)]⟩
      · have c6 : I k = false := by
          cases hb : I k with
          | true => exact absurd hb c5
          | false => rfl
        rw [if_neg c5, if_pos rfl]
        refine (c_put90 (x := x) (y := y) (v := v) H1 S1 hk c6 ⟨c2.1, c2.2.1⟩ c2.2.2).imp (fun _ s h => ⟨fun _ => ⟨k, rfl, hk, h.1, ?_⟩, fun hn => absurd hacc hn⟩)
        exact cin s1 s e1 (fun a j ha => e1 a j (by unfold stK; omega)) h.2
    · rw [if_neg c2, if_pos rfl]
      exact no _ (fun h => c2 ⟨h.2.1.1, h.2.1.2, h.2.2.1.1, h.2.2.1.2⟩)
  · rw [if_neg c1, if_neg (by decide)]
    exact no _ (fun h => c1 h.1)
theorem c_take {r : Int} {σ : zS} {I : Nat → Bool} (H : CI σ) (S : ST σ 41 I) : zP' (g_c_take r σ) (fun _ s => ((0 ≤ r ∧ r < 60) ∧ I r.toNat = true → ∃ k : Nat, r = (k : Int) ∧ ST s 41 (fun q => I q && !decide (q = k)) ∧ ∀ a j, a = 42 ∨ a = 43 ∨ a = 44 → s a j = σ a j) ∧ (¬ ((0 ≤ r ∧ r < 60) ∧ I r.toNat = true) → stE σ s)) := by
  unfold g_c_take
  rw [p_isRow]
  rw [Option.bind_some]
  try dsimp +instances only
  by_cases c1 : 0 ≤ r ∧ r < 60
  · obtain ⟨k, rfl⟩ : ∃ k : Nat, r = (k : Int) := ⟨r.toNat, by omega⟩
    have hk : k < 60 := by omega
    have ek : ((k : Int)).toNat = k := by omega
    rw [if_pos c1, if_pos (by decide), p_isIn hk, ST_bit H S hk]
    rw [Option.bind_some]
    try dsimp +instances only
    by_cases c5 : I k = true
    · rw [if_pos c5, if_pos (by decide)]
      refine zP'.bind (zP'.of (g_wa_remember_sp H)) (fun _ s1 p1 => ?_)
      obtain ⟨H1, G1, -⟩ := p1
      have e1 : stE σ s1 := stE.of G1 (fun _ => ⟨rfl, rfl, rfl, rfl, rfl, rfl, rfl⟩)
      have S1 := ST_E S e1
      try dsimp +instances only
      refine zP'.bind ((p_bringOut H1 hk).and (zP'.of (g_so_bringOut_sp H1))) (fun w s2 p2 => ?_)
      obtain ⟨k2, H2, -, -⟩ := p2
      obtain ⟨k3, k4, k5, -⟩ := k2 (by rw [ST_bit H1 S1 hk]; exact c5)
      have S2 := ST_out H1 S1 hk c5 k3 k4 k5
      try dsimp +instances only
      refine zP'.bind (zP'.of (g_ca_write_sp (a0 := 48) (by omega) H2)) (fun _ s3 p3 => ?_)
      obtain ⟨H3, G3, -⟩ := p3
      have e3 : stE s2 s3 := stE.of G3 (fun _ => ⟨rfl, rfl, rfl, rfl, rfl, rfl, rfl⟩)
      try dsimp +instances only
      refine zP'.bind (zP'.of (g_c_afterWrites_sp H3)) (fun _ s4 p4 => ?_)
      obtain ⟨H4, G4, -⟩ := p4
      have e4 : stE s3 s4 := stE.of G4 (fun _ => ⟨rfl, rfl, rfl, rfl, rfl, rfl, rfl⟩)
      refine zP'.ret ⟨fun _ => ⟨k, rfl, ST_E S2 (e3.trans e4), fun a j ha => ?_⟩, fun hn => absurd ⟨c1, by rw [ek]; exact c5⟩ hn⟩
      show s4 a j = σ a j
      rw [(e3.trans e4) a j (by unfold stK; omega), k3 a j (by omega) (by omega) (by omega) (Or.inl (by omega)), e1 a j (by unfold stK; omega)]
    · rw [if_neg c5, if_neg (by decide)]
      exact zP'.ret ⟨fun h => absurd (by rw [ek] at h; exact h.2) c5, fun _ => stE.refl σ⟩
  · rw [if_neg c1, if_neg (by decide)]
    exact zP'.ret ⟨fun h => absurd h.1 c1, fun _ => stE.refl σ⟩
