section
/-! 66.ops2 -/
/-! BOTH SIDES: every pair of calls keeps the rows and counts told alike, and what they answer -/
theorem p_crow {r w : Int} {σ : zS} (H : CI σ) (R : Rel σ) : g_c_row r w σ = some (rowA σ r w, σ) := by
  obtain ⟨⟨⟨S, hr⟩, -⟩, -, -⟩ := R
  unfold g_c_row rowA
  rw [p_isRow]
  rw [Option.bind_some]
  try dsimp +instances only
  by_cases c1 : 0 ≤ r ∧ r < 60
  · obtain ⟨k, rfl⟩ : ∃ k : Nat, r = (k : Int) := ⟨r.toNat, by omega⟩
    have hk : k < 60 := by omega
    obtain ⟨g1, g2, g3, -⟩ := hr k hk
    rw [if_pos c1, if_pos c1, if_neg (by decide)]
    by_cases c2 : 0 ≤ w ∧ w ≤ 1
    · rw [if_pos c2, if_neg (by omega), if_pos c2.2, p_isIn hk, ST_bit H S hk]
      rw [Option.bind_some]
      try dsimp +instances only
      by_cases c3 : σ 144 (20 + 3 * (k : Int)) = 0
      · have hI : inS σ 144 k = false := decide_eq_false (fun h => by omega)
        rw [hI, if_pos c3, if_neg (by decide)]
      · have hI : inS σ 144 k = true := decide_eq_true ⟨hk, by omega⟩
        rw [hI, if_neg c3, if_pos (by decide)]
        by_cases c4 : w ≠ 0
        · rw [if_pos c4, if_pos c1, show 21 + 3 * (k : Int) + w = 22 + 3 * (k : Int) by omega, ← g3]
        · rw [if_neg c4, if_pos c1, show 21 + 3 * (k : Int) + w = 21 + 3 * (k : Int) by omega, ← g2]
    · rw [if_neg c2]
      by_cases c4 : w < 0
      · rw [if_pos c4]
      · rw [if_neg c4, if_neg (by omega)]
  · rw [if_neg c1, if_neg c1, if_pos rfl]
theorem p_cworth {r : Int} {σ : zS} (H : CI σ) (R : Rel σ) : g_c_worth r σ = some (worthA σ r, σ) := by
  obtain ⟨⟨⟨S, hr⟩, -⟩, -, -⟩ := R
  unfold g_c_worth worthA
  by_cases c1 : 0 ≤ r ∧ r < 60
  · obtain ⟨k, rfl⟩ : ∃ k : Nat, r = (k : Int) := ⟨r.toNat, by omega⟩
    have hk : k < 60 := by omega
    obtain ⟨g1, g2, g3, g4, -⟩ := hr k hk
    rw [if_pos c1, p_isIn hk, ST_bit H S hk]
    rw [Option.bind_some]
    try dsimp +instances only
    by_cases c3 : σ 144 (20 + 3 * (k : Int)) = 1
    · have hI : inS σ 144 k = true := decide_eq_true ⟨hk, c3⟩
      rw [hI, if_pos c3, if_neg (by decide), if_pos c1, ← g4]
    · have hI : inS σ 144 k = false := decide_eq_false (fun h => c3 h.2)
      rw [hI, if_neg c3, if_pos (by decide)]
  · rw [if_neg c1, p_isInN c1]
    rw [Option.bind_some]
    try dsimp +instances only
    rw [if_pos rfl]
def iE (σ s : zS) : Prop := ∀ a j, ((75 ≤ a ∧ a ≤ 80) ∨ (a = 74 ∧ j = 4) ∨ (a = 96 ∧ j = 1) ∨ (a = 98 ∧ j = 5) ∨ (a = 39 ∧ j = 2) ∨ (a = 97 ∨ a = 99 ∨ a = 100 ∨ a = 101) ∨ a = 145 ∨ a = 148 ∨ (a = 143 ∧ j = 6)) → s a j = σ a j
theorem iE.trans {σ s t : zS} (h1 : iE σ s) (h2 : iE s t) : iE σ t := fun a j k => (h2 a j k).trans (h1 a j k)
theorem Rel_img {σ s : zS} (H : CI σ) (R : Rel σ) (e : iE σ s) (B : BK s 41 144 147) : Rel s := by
  obtain ⟨-, h6, Bi⟩ := R
  have c4' := CI.c4 (a := 74) H (by omega)
  refine ⟨B, ?_, fun h => ?_⟩
  · rw [e 39 2 (by omega), e 143 6 (by omega)]; exact h6
  · rw [e 143 6 (by omega)] at h
    exact BK_mv (Bi h) c4' (e 74 4 (by omega)) (fun k h1 h2 j _ => e (74 + k) _ (by omega)) (fun k h1 h2 j _ => e (74 + k) _ (by omega)) (e 96 1 (by omega)) (e 98 5 (by omega)) (fun t _ _ => e 97 _ (by omega)) (fun k h1 h2 j _ => e (74 + k) _ (by omega)) (fun j _ => e 145 j (by omega)) (fun j _ _ => e 148 j (by omega))
/-- a class's call that leaves the image alone -/
def iF (F : Nat → Int → Bool) : Prop := ∀ j, F 75 j = false ∧ F 76 j = false ∧ F 77 j = false ∧ F 78 j = false ∧ F 79 j = false ∧ F 80 j = false ∧ F 74 4 = false ∧ F 96 1 = false ∧ F 98 5 = false ∧ F 39 2 = false ∧ F 97 j = false ∧ F 99 j = false ∧ F 100 j = false ∧ F 101 j = false
theorem iE.of {F : Nat → Int → Bool} {σ s : zS} (G : fr F σ s) (h : iF F) : iE σ s := fun a j k => by
  obtain ⟨h1, h2, h3, h4, h5, h6, h7, h8, h9, h10, h11, h12, h13, h14⟩ := h j
  rcases k with k | ⟨rfl, rfl⟩ | ⟨rfl, rfl⟩ | ⟨rfl, rfl⟩ | ⟨rfl, rfl⟩ | (rfl | rfl | rfl | rfl) | rfl | rfl | ⟨rfl, rfl⟩
  · have k6 : a = 75 ∨ a = 76 ∨ a = 77 ∨ a = 78 ∨ a = 79 ∨ a = 80 := by omega
    rcases k6 with rfl | rfl | rfl | rfl | rfl | rfl
    · exact G _ _ (Or.inr h1)
    · exact G _ _ (Or.inr h2)
    · exact G _ _ (Or.inr h3)
    · exact G _ _ (Or.inr h4)
    · exact G _ _ (Or.inr h5)
    · exact G _ _ (Or.inr h6)
  · exact G _ _ (Or.inr h7)
  · exact G _ _ (Or.inr h8)
  · exact G _ _ (Or.inr h9)
  · exact G _ _ (Or.inr h10)
  · exact G _ _ (Or.inr h11)
  · exact G _ _ (Or.inr h12)
  · exact G _ _ (Or.inr h13)
  · exact G _ _ (Or.inr h14)
  · exact G _ _ (Or.inl (by decide))
  · exact G _ _ (Or.inl (by decide))
  · exact G _ _ (Or.inl (by decide))
theorem chgA_bd {b v n : Int} (h : -2147483648 ≤ v ∧ v < 2147483648) : -2147483648 ≤ chgA b v n ∧ chgA b v n < 2147483648 := by
  unfold chgA
  have hw := w32_bd (v + 1)
  split
  · exact h
  · exact hw
theorem lOr_ok (x y : Int) : okL (lOr x y) := by
  unfold lOr
  have h1 := Int64.le_toInt (Int64.ofInt x ||| Int64.ofInt y)
  have h2 := Int64.toInt_lt (Int64.ofInt x ||| Int64.ofInt y)
  omega
def bxs (σ : zS) (k : Nat) : Bx := bxA σ 144 (301 + 6 * (k : Int))
theorem BK.wc {σ : zS} (B : BK σ 41 144 147) : WC σ (bxs σ) := fun k h1 h2 => by
  obtain ⟨-, -, b3, -, b5⟩ := B
  have b3 : σ 65 5 = σ 144 10 := b3
  obtain ⟨g1, g2, -, g4, g5, -⟩ := b5 k h1 (by omega)
  have g4 : σ 66 (k : Int) = σ 144 (300 + 6 * (k : Int)) := g4
  rw [g4]
  exact ⟨g1, g5, g2.1, g2.2⟩
theorem BK.ok {σ : zS} (B : BK σ 41 144 147) : ok44 σ := fun r hr => by
  obtain ⟨-, -, -, g4, g5⟩ := B.1.2 r hr
  have g4 : σ 44 (r : Int) = σ 147 (1 + (r : Int)) := g4
  rw [g4]
  exact g5
theorem BK.wr {σ s : zS} (B : BK σ 41 144 147) (e : s 144 = σ 144) : WR s (bxs σ) := fun k h1 h2 => by
  rw [e] at h2
  obtain ⟨-, g2, g3, -, -, -⟩ := B.2.2.2.2 k h1 h2
  unfold bxs bxA
  rw [e]
  exact ⟨rfl, g2, g3⟩
theorem BK.ok7 {σ s : zS} (B : BK σ 41 144 147) (e : s 147 = σ 147) : ok147 s := fun r hr => by
  obtain ⟨-, -, -, -, g5⟩ := B.1.2 r hr
  rw [e]
  exact g5
theorem WT_put {σ s1 s2 : zS} (B : BK σ 41 144 147) (R2 : RW s2 41 144 147) (cls : ∀ x j, x < 143 → s2 x j = s1 x j) (e4 : s1 144 = σ 144) (e7 : s1 147 = σ 147) (c66 : ∀ j, s1 66 j = σ 66 j) (c67 : ∀ j, s1 67 j = σ 67 j) (cw : ∀ i : Nat, (i : Int) < σ 65 5 → s1 68 (i : Int) = chgA (valC σ 41 (bxs σ i) (σ 66 (i : Int))) (σ 68 (i : Int)) (valC s1 41 (bxs σ i) (σ 66 (i : Int)))) (tw : chP s1 s2 (bxs σ)) : WT s2 41 144 := fun k h1 h2 => by
  obtain ⟨b1, -, b3, -, b5⟩ := B
  obtain ⟨t1, t2⟩ := tw
  have b3 : σ 65 5 = σ 144 10 := b3
  rw [t1 10 (Or.inl rfl), e4] at h2
  obtain ⟨g1, g2, g3, g4, g5, g6⟩ := b5 k h1 h2
  have g4 : σ 66 (k : Int) = σ 144 (300 + 6 * (k : Int)) := g4
  have g5 : σ 67 (k : Int) = enc (bxA σ 144 (301 + 6 * (k : Int))) := g5
  have g6 : σ 68 (k : Int) = σ 144 (305 + 6 * (k : Int)) := g6
  have eb : bxA s2 144 (301 + 6 * (k : Int)) = bxA σ 144 (301 + 6 * (k : Int)) := by
    unfold bxA
    rw [t1 _ (Or.inr (by unfold n5; omega)), t1 _ (Or.inr (by unfold n5; omega)), t1 _ (Or.inr (by unfold n5; omega)), t1 _ (Or.inr (by unfold n5; omega)), e4]
  have e300 : s2 144 (300 + 6 * (k : Int)) = σ 144 (300 + 6 * (k : Int)) := by
    rw [t1 _ (Or.inr (by unfold n5; omega)), e4]
  have v1 : VR s1 (bxs σ) k = valC σ 41 (bxs σ k) (σ 66 (k : Int)) := by
    unfold VR
    rw [e4, e7, g4, val_eq b1]
  have st : stE s1 s2 := fun a j h => cls a j (by unfold stK at h; omega)
  have v2 : VR s2 (bxs σ) k = valC s1 41 (bxs σ k) (σ 66 (k : Int)) := by
    unfold VR
    rw [e300, g4, ← valC_E st, val_eq R2]
  have c := cw k (by omega)
  have d := t2 k (by rw [e4]; exact h2)
  rw [v1, v2, e4] at d
  rw [g6] at c
  refine ⟨by rw [eb]; exact g1, by rw [e300]; exact g2, ?_, ?_, ?_, ?_⟩
  · rw [d]
    exact chgA_bd g3
  · show s2 66 _ = _
    rw [cls 66 _ (by decide), c66, e300]
    exact g4
  · show s2 67 _ = _
    rw [cls 67 _ (by decide), c67, eb]
    exact g5
  · show s2 68 _ = _
    rw [cls 68 _ (by decide), c, d]
theorem q_put {a b c d : Int} {σ : zS} (hd : okL d) (I : Inv2 σ) : two (g_c_put a b c d σ) (g_m_put a b c d) (fun _ _ s => Inv2 s) := by
  obtain ⟨I1, R⟩ := I
  obtain ⟨v, s1, e1, w, s2, e2, J⟩ := o_put (a := a) (b := b) (c := c) (d := d) I1
  refine ⟨v, s1, e1, w, s2, e2, J, ?_⟩
  obtain ⟨H1, G1, -⟩ := zP'.of (g_c_put_sp (x1 := a) (x2 := b) (x3 := c) (y4 := d) I1.1) v s1 e1
  have M1 : MI s1 := MI_cls I1.2.1 (fun x j h1 h2 => G1 x j (Or.inl ⟨h1, h2⟩))
  obtain ⟨c1, c2⟩ := c_put (r := a) (x := b) (y := c) (v := d) I1.1 R.1.1.1 v s1 e1
  obtain ⟨w', s2', e2', t1, t2⟩ := t_put (r := a) (x := b) (y := c) (v := d) M1.2.1 M1.1
  obtain ⟨w3, s3, e3, -, -, f3⟩ := s_put (r := a) (x := b) (y := c) (v := d) M1.2.1 M1.1
  rw [e2] at e2' e3
  cases e2'
  cases e3
  have ref : ∀ x j, 143 ≤ x → x < 168 → s1 x j = σ x j := fun x j h1 h2 => G1 x j (Or.inl ⟨h1, h2⟩)
  have cls : ∀ x j, x < 143 → s2 x j = s1 x j := fun x j h => f3 x j (by omega) (by omega) (by omega) (by omega) (by omega) (by omega) (by omega) (by omega) (by omega)
  have im : iE σ s2 := (iE.of G1 (fun _ => ⟨rfl, rfl, rfl, rfl, rfl, rfl, rfl, rfl, rfl, rfl, rfl, rfl, rfl, rfl⟩)).trans (fun x j h => f3 x j (by omega) (by omega) (by omega) (by omega) (by omega) (by omega) (by omega) (by omega) (by omega))
  obtain ⟨cw1, cw2⟩ := c_putW (B := bxs σ) I1.1 R.1.1.1 R.1.wc R.1.ok hd v s1 e1
  have q4 : s1 144 = σ 144 := funext (fun j => ref 144 j (by decide) (by decide))
  have q7 : s1 147 = σ 147 := funext (fun j => ref 147 j (by decide) (by decide))
  obtain ⟨w4, s4, e4, tw1, tw2⟩ := t_putW (r := a) (x := b) (y := c) (v := d) (B := bxs σ) M1.2.1 M1.1 (R.1.wr q4) (R.1.ok7 q7) hd
  rw [e2] at e4
  cases e4
  by_cases ca : acc a b c d
  case neg =>
    rw [tw2 ca, cw2 ca]
    exact R
  refine Rel_img I1.1 R im ?_
  have n9 : s2 63 1 = s2 144 9 := by
    rw [cls 63 1 (by decide), G1 63 1 (Or.inr rfl), f3 144 9 (by omega) (by omega) (by omega) (by omega) (by omega) (by omega) (by omega) (by omega) (by omega), ref 144 9 (by decide) (by decide)]
    exact R.1.2.1
  have n10 : s2 65 5 = s2 144 10 := by
    rw [cls 65 5 (by decide), G1 65 5 (Or.inr rfl), f3 144 10 (by omega) (by omega) (by omega) (by omega) (by omega) (by omega) (by omega) (by omega) (by omega), ref 144 10 (by decide) (by decide)]
    exact R.1.2.2.1
  have rw2 : RW s2 41 144 147 := by
    obtain ⟨k, rfl, hk, S, x1, x2, x3⟩ := c1 ca
    obtain ⟨r1, r2⟩ := t1 ca
    have eI : inS s2 144 = fun q => inS σ 144 q || decide (q = k) := by
      funext q
      unfold inS
      by_cases cq : q < 60
      · rw [r1 _ (by omega) (by omega), ref 144 _ (by decide) (by decide)]
        by_cases ck : q = k
        · subst ck
          rw [if_pos rfl]
          simp [cq]
        · rw [if_neg (by omega), if_neg (by omega), if_neg (by omega)]
          simp [ck]
      · have ck : ¬ q = k := by omega
        simp [cq, ck]
    refine ⟨?_, fun q hq => ?_⟩
    · rw [eI]
      exact ST_E S (fun x j h => cls x j (by unfold stK at h; omega))
    · obtain ⟨g1, g2, g3, g4, g5⟩ := R.1.1.2 q hq
      show (s2 144 _ = 0 ∨ s2 144 _ = 1) ∧ s2 42 _ = _ ∧ s2 43 _ = _ ∧ s2 44 _ = _ ∧ okL _
      rw [cls 42 _ (by decide), cls 43 _ (by decide), cls 44 _ (by decide), x1, x2, x3, r1 _ (by omega) (by omega), r1 _ (by omega) (by omega), r1 _ (by omega) (by omega), r2 _ (by omega) (by omega), ref 144 _ (by decide) (by decide), ref 144 _ (by decide) (by decide), ref 144 _ (by decide) (by decide), ref 147 _ (by decide) (by decide)]
      by_cases ck : q = k
      · subst ck
        rw [if_pos rfl, if_pos rfl, if_pos rfl, if_pos rfl, if_neg (by omega), if_pos rfl, if_neg (by omega), if_neg (by omega), if_pos rfl, if_pos rfl]
        exact ⟨Or.inr rfl, rfl, rfl, rfl, hd⟩
      · rw [if_neg (by omega), if_neg (by omega), if_neg (by omega), if_neg (by omega), if_neg (by omega), if_neg (by omega), if_neg (by omega), if_neg (by omega), if_neg (by omega), if_neg (by omega), if_neg (by omega), if_neg (by omega), if_neg (by omega)]
        exact ⟨g1, g2, g3, g4, g5⟩
  refine ⟨rw2, n9, n10, TR_mv R.1.2.2.2.1 (fun t _ => ?_) (fun j hj => ?_), WT_put R.1 rw2 cls q4 q7 (fun j => G1 66 j (Or.inr rfl)) (fun j => G1 67 j (Or.inr rfl)) (cw1 ca) (tw1 ca)⟩
  · show s2 64 _ = σ 64 _
    rw [cls 64 _ (by decide)]
    exact G1 64 _ (Or.inr rfl)
  · rw [f3 144 _ (by omega) (by omega) (by omega) (by omega) (by omega) (by omega) (by omega) (by omega) (by omega), q4]
theorem q_take {a : Int} {σ : zS} (I : Inv2 σ) : two (g_c_take a σ) (g_m_take a) (fun _ _ s => Inv2 s) := by
  obtain ⟨I1, R⟩ := I
  obtain ⟨v, s1, e1, w, s2, e2, J⟩ := o_take (a := a) I1
  refine ⟨v, s1, e1, w, s2, e2, J, ?_⟩
  obtain ⟨H1, G1, -⟩ := zP'.of (g_c_take_sp (x1 := a) I1.1) v s1 e1
  have M1 : MI s1 := MI_cls I1.2.1 (fun x j h1 h2 => G1 x j (Or.inl ⟨h1, h2⟩))
  obtain ⟨c1, c2⟩ := c_take (r := a) I1.1 R.1.1.1 v s1 e1
  obtain ⟨w', s2', e2', t1, t2⟩ := t_take (r := a) M1.2.1 M1.1
  obtain ⟨w3, s3, e3, -, -, f3⟩ := s_take (r := a) M1.2.1 M1.1
  rw [e2] at e2' e3
  cases e2'
  cases e3
  have ref : ∀ x j, 143 ≤ x → x < 168 → s1 x j = σ x j := fun x j h1 h2 => G1 x j (Or.inl ⟨h1, h2⟩)
  have cls : ∀ x j, x < 143 → s2 x j = s1 x j := fun x j h => f3 x j (by omega) (by omega) (by omega) (by omega) (by omega) (by omega) (by omega) (by omega) (by omega)
  have im : iE σ s2 := (iE.of G1 (fun _ => ⟨rfl, rfl, rfl, rfl, rfl, rfl, rfl, rfl, rfl, rfl, rfl, rfl, rfl, rfl⟩)).trans (fun x j h => f3 x j (by omega) (by omega) (by omega) (by omega) (by omega) (by omega) (by omega) (by omega) (by omega))
  obtain ⟨cw1, cw2⟩ := c_takeW (r := a) (B := bxs σ) I1.1 R.1.1.1 R.1.wc R.1.ok v s1 e1
  have q4 : s1 144 = σ 144 := funext (fun j => ref 144 j (by decide) (by decide))
  have q7 : s1 147 = σ 147 := funext (fun j => ref 147 j (by decide) (by decide))
  obtain ⟨w4, s4, e4, tw1, tw2⟩ := t_takeW (r := a) (B := bxs σ) M1.2.1 M1.1 (R.1.wr q4) (R.1.ok7 q7)
  rw [e2] at e4
  cases e4
  rw [ref 144 _ (by decide) (by decide)] at t1 t2 tw1 tw2
  by_cases ca : (0 ≤ a ∧ a < 60) ∧ σ 144 (20 + 3 * a) ≠ 0
  case neg =>
    have hin : ¬ ((0 ≤ a ∧ a < 60) ∧ inS σ 144 a.toNat = true) := fun h => by
      have h2 := of_decide_eq_true h.2
      rw [show ((a.toNat : Nat) : Int) = a by omega] at h2
      exact ca ⟨h.1, by omega⟩
    rw [tw2 ca, cw2 hin]
    exact R
  refine Rel_img I1.1 R im ?_
  have n9 : s2 63 1 = s2 144 9 := by
    rw [cls 63 1 (by decide), G1 63 1 (Or.inr rfl), f3 144 9 (by omega) (by omega) (by omega) (by omega) (by omega) (by omega) (by omega) (by omega) (by omega), ref 144 9 (by decide) (by decide)]
    exact R.1.2.1
  have n10 : s2 65 5 = s2 144 10 := by
    rw [cls 65 5 (by decide), G1 65 5 (Or.inr rfl), f3 144 10 (by omega) (by omega) (by omega) (by omega) (by omega) (by omega) (by omega) (by omega) (by omega), ref 144 10 (by decide) (by decide)]
    exact R.1.2.2.1
  have hin : inS σ 144 a.toNat = true := by
    obtain ⟨g1, -, -, -⟩ := R.1.1.2 a.toNat (by omega)
    rw [show ((a.toNat : Nat) : Int) = a by omega] at g1
    refine decide_eq_true ⟨by omega, ?_⟩
    rw [show ((a.toNat : Nat) : Int) = a by omega]
    omega
  have rw2 : RW s2 41 144 147 := by
    obtain ⟨k, rfl, S, x1⟩ := c1 ⟨ca.1, hin⟩
    obtain ⟨r1, r2⟩ := t1 ca
    have hk : k < 60 := by omega
    have eI : inS s2 144 = fun q => inS σ 144 q && !decide (q = k) := by
      funext q
      unfold inS
      by_cases cq : q < 60
      · rw [r1 _ (by omega) (by omega), ref 144 _ (by decide) (by decide)]
        by_cases ck : q = k
        · subst ck
          rw [if_pos rfl]
          simp
        · rw [if_neg (by omega)]
          simp [ck]
      · simp [cq]
    refine ⟨?_, fun q hq => ?_⟩
    · rw [eI]
      exact ST_E S (fun x j h => cls x j (by unfold stK at h; omega))
    · obtain ⟨g1, g2, g3, g4, g5⟩ := R.1.1.2 q hq
      show (s2 144 _ = 0 ∨ s2 144 _ = 1) ∧ s2 42 _ = _ ∧ s2 43 _ = _ ∧ s2 44 _ = _ ∧ okL _
      rw [cls 42 _ (by decide), cls 43 _ (by decide), cls 44 _ (by decide), x1 42 _ (by omega), x1 43 _ (by omega), x1 44 _ (by omega)]
      refine ⟨?_, ?_, ?_, ?_, ?_⟩
      · rw [r1 _ (by omega) (by omega)]
        by_cases ck : 20 + 3 * (q : Int) = 20 + 3 * (k : Int)
        · rw [if_pos ck]; exact Or.inl rfl
        · rw [if_neg ck, ref 144 _ (by decide) (by decide)]; exact g1
      · rw [r1 _ (by omega) (by omega), if_neg (by omega), ref 144 _ (by decide) (by decide)]; exact g2
      · rw [r1 _ (by omega) (by omega), if_neg (by omega), ref 144 _ (by decide) (by decide)]; exact g3
      · rw [r2 _ (by omega) (by omega), ref 147 _ (by decide) (by decide)]; exact g4
      · rw [r2 _ (by omega) (by omega), ref 147 _ (by decide) (by decide)]; exact g5
  refine ⟨rw2, n9, n10, TR_mv R.1.2.2.2.1 (fun t _ => ?_) (fun j hj => ?_), WT_put R.1 rw2 cls q4 q7 (fun j => G1 66 j (Or.inr rfl)) (fun j => G1 67 j (Or.inr rfl)) (cw1 ⟨ca.1, hin⟩) (tw1 ca)⟩
  · show s2 64 _ = σ 64 _
    rw [cls 64 _ (by decide)]
    exact G1 64 _ (Or.inr rfl)
  · rw [f3 144 _ (by omega) (by omega) (by omega) (by omega) (by omega) (by omega) (by omega) (by omega) (by omega), q4]
theorem q_trace {a b c d : Int} {σ : zS} (I : Inv2 σ) : two (g_c_trace a b c d σ) (g_m_trace a b c d) (fun v w s => Inv2 s ∧ v = w) := by
  obtain ⟨I1, R⟩ := I
  obtain ⟨v, s1, e1, w, s2, e2, J⟩ := o_trace (a := a) (b := b) (c := c) (d := d) I1
  have h9 := I1.2.1.2.1.2.2.2.1
  have R9 : σ 63 1 = σ 144 9 := R.1.2.1
  obtain ⟨s1', e1', n1, f1, tr1, tr2⟩ := p_trace (x0 := a) (x1 := b) (y0 := c) (y1 := d) (σ := σ) (by rw [R9]; exact h9)
  rw [e1] at e1'
  cases e1'
  have r9 : s1 144 9 = σ 144 9 := f1 144 9 (by decide) (Or.inl (by decide))
  obtain ⟨s2', e2', n2, f2, tt1, tt2⟩ := t_trace (x0 := a) (x1 := b) (y0 := c) (y1 := d) (σ := s1) (by rw [r9]; exact h9)
  rw [e2] at e2'
  cases e2'
  refine ⟨_, s1, e1, _, s2, e2, ⟨J, ?_⟩, by rw [r9, R9]⟩
  have hi : ∀ j, 300 ≤ j → s2 144 j = σ 144 j := fun j hj => by
    rw [← f1 144 j (by decide) (Or.inl (by decide))]
    by_cases ok : trOk (s1 144 9) a b c d
    · have hn := ok.2.2
      rw [r9] at hn
      exact (tt1 ok).2 j (by omega) (Or.inr (by rw [r9]; omega))
    · exact tt2 ok j (by omega)
  have all : ∀ x j, x ≠ 64 → (x ≠ 63 ∨ j ≠ 1) → (x ≠ 144 ∨ (j ≠ 9 ∧ j < 260)) → s2 x j = σ x j := fun x j k1 k2 k3 => (f2 x j k3).trans (f1 x j k1 k2)
  refine Rel_img I1.1 R (fun x j h => all x j (by omega) (by omega) (by omega)) ⟨?_, ?_, ?_, fun t ht h => ?_, ?_⟩
  · exact RW_mv R.1.1 (CI.c4 (a := 41) I1.1 (by omega)) (all 41 4 (by omega) (by omega) (by omega)) (fun k h1 h2 j _ => all (41 + k) _ (by omega) (by omega) (by omega)) (fun k h1 h2 j _ => all (41 + k) _ (by omega) (by omega) (by omega)) (fun j _ => all 144 j (by omega) (by omega) (by omega)) (fun j _ _ => all 147 j (by omega) (by omega) (by omega))
  · show s2 63 1 = s2 144 9
    rw [n2, f2 63 1 (by decide), n1, r9, R9]
  · show s2 65 5 = s2 144 10
    rw [all 65 5 (by omega) (by omega) (by omega), all 144 10 (by omega) (by omega) (by omega)]
    exact R.1.2.2.1
  · rw [n2, r9] at h
    by_cases ok : trOk (σ 144 9) a b c d
    · have hn : trN (σ 144 9) a b c d = σ 144 9 + 1 := by
        unfold trN
        rw [if_pos ok.1, if_pos ok.2.1, if_pos ok.2.2]
      rw [hn] at h
      obtain ⟨u1, u2⟩ := tr1 (by rw [R9]; exact ok)
      obtain ⟨w1, w2⟩ := tt1 (by rw [r9]; exact ok)
      rw [r9] at w1 w2
      rw [R9] at u1 u2
      by_cases ct : (t : Int) = σ 144 9
      · have eb : bxA s2 144 (260 + 4 * (t : Int)) = (a, b, c, d) := by rw [ct]; exact w1
        rw [eb]
        refine ⟨ok.2.1, ?_⟩
        show s2 64 _ = _
        rw [f2 64 _ (Or.inl (by decide)), ct]
        exact u1
      · have eb : bxA s2 144 (260 + 4 * (t : Int)) = bxA σ 144 (260 + 4 * (t : Int)) := by
          unfold bxA
          rw [w2 _ (by omega) (by omega), w2 _ (by omega) (by omega), w2 _ (by omega) (by omega), w2 _ (by omega) (by omega), f1 144 _ (by decide) (Or.inl (by decide)), f1 144 _ (by decide) (Or.inl (by decide)), f1 144 _ (by decide) (Or.inl (by decide)), f1 144 _ (by decide) (Or.inl (by decide))]
        obtain ⟨g1, g2⟩ := R.1.2.2.2.1 t ht (by omega)
        rw [eb]
        refine ⟨g1, ?_⟩
        show s2 64 _ = _
        rw [f2 64 _ (Or.inl (by decide)), u2 _ ct]
        exact g2
    · have hn : trN (σ 144 9) a b c d ≤ σ 144 9 := by
        unfold trN
        by_cases c1 : a ≠ -1
        · rw [if_pos c1]
          by_cases c2 : bOk (a, b, c, d)
          · rw [if_pos c2, if_neg (fun h => ok ⟨c1, c2, h⟩)]
            exact Int.le_refl _
          · rw [if_neg c2]
            exact Int.le_refl _
        · rw [if_neg c1]
          exact h9.1
      have u2 := tr2 (by rw [R9]; exact ok)
      have w2 := tt2 (by rw [r9]; exact ok)
      have eb : bxA s2 144 (260 + 4 * (t : Int)) = bxA σ 144 (260 + 4 * (t : Int)) := by
        unfold bxA
        rw [w2 _ (by omega), w2 _ (by omega), w2 _ (by omega), w2 _ (by omega), f1 144 _ (by decide) (Or.inl (by decide)), f1 144 _ (by decide) (Or.inl (by decide)), f1 144 _ (by decide) (Or.inl (by decide)), f1 144 _ (by decide) (Or.inl (by decide))]
      obtain ⟨g1, g2⟩ := R.1.2.2.2.1 t ht (by omega)
      rw [eb]
      refine ⟨g1, ?_⟩
      show s2 64 _ = _
      rw [f2 64 _ (Or.inl (by decide)), u2]
      exact g2
  · refine WT_mv R.1.2.2.2.2 (fun k k1 k2 j _ => all (41 + k) _ (by omega) (by omega) (by omega)) (fun j hj => ?_)
    by_cases c : j = 10
    · subst c
      exact all 144 10 (by omega) (by omega) (by omega)
    · exact hi j (by omega)
theorem q_watch {a b c d e : Int} {σ : zS} (I : Inv2 σ) : two (g_c_watch a b c d e σ) (g_m_watch a b c d e) (fun v w s => Inv2 s ∧ v = w) := by
  obtain ⟨I1, R⟩ := I
  obtain ⟨v, s1, e1, w, s2, e2, J⟩ := o_watch (a := a) (b := b) (c := c) (d := d) (e := e) I1
  have h10 := I1.2.1.2.1.2.2.2.2.1
  have R10 : σ 65 5 = σ 144 10 := R.1.2.2.1
  obtain ⟨s1', e1', n1, f1, tr1, tr2⟩ := p_watch (m := a) (x0 := b) (x1 := c) (y0 := d) (y1 := e) (σ := σ) (by rw [R10]; exact h10)
  rw [e1] at e1'
  cases e1'
  have r10 : s1 144 10 = σ 144 10 := f1 144 10 (by decide) (by decide) (by decide) (Or.inl (by decide))
  obtain ⟨s2', e2', n2, f2, tt1, tt2⟩ := t_watch (m := a) (x0 := b) (x1 := c) (y0 := d) (y1 := e) (σ := s1) (by rw [r10]; exact h10)
  rw [e2] at e2'
  cases e2'
  refine ⟨_, s1, e1, _, s2, e2, ⟨J, ?_⟩, by rw [r10, R10]⟩
  have all : ∀ x j, x ≠ 66 → x ≠ 67 → x ≠ 68 → (x ≠ 65 ∨ j ≠ 5) → (x ≠ 144 ∨ (j ≠ 10 ∧ j < 300)) → s2 x j = σ x j := fun x j k1 k2 k3 k4 k5 => (f2 x j k5).trans (f1 x j k1 k2 k3 k4)
  refine Rel_img I1.1 R (fun x j h => all x j (by omega) (by omega) (by omega) (by omega) (by omega)) ⟨?_, ?_, ?_, ?_, fun t ht h => ?_⟩
  · exact RW_mv R.1.1 (CI.c4 (a := 41) I1.1 (by omega)) (all 41 4 (by omega) (by omega) (by omega) (by omega) (by omega)) (fun k h1 h2 j _ => all (41 + k) _ (by omega) (by omega) (by omega) (by omega) (by omega)) (fun k h1 h2 j _ => all (41 + k) _ (by omega) (by omega) (by omega) (by omega) (by omega)) (fun j _ => all 144 j (by omega) (by omega) (by omega) (by omega) (by omega)) (fun j _ _ => all 147 j (by omega) (by omega) (by omega) (by omega) (by omega))
  · show s2 63 1 = s2 144 9
    rw [all 63 1 (by omega) (by omega) (by omega) (by omega) (by omega), all 144 9 (by omega) (by omega) (by omega) (by omega) (by omega)]
    exact R.1.2.1
  · show s2 65 5 = s2 144 10
    rw [n2, f2 65 5 (by decide), n1, r10, R10]
  · exact TR_mv R.1.2.2.2.1 (fun t _ => all 64 _ (by omega) (by omega) (by omega) (by omega) (by omega)) (fun j hj => all 144 j (by omega) (by omega) (by omega) (by omega) (by omega))
  · have g144 : ∀ j, s1 144 j = σ 144 j := fun j => f1 144 j (by decide) (by decide) (by decide) (Or.inl (by decide))
    have f66 : ∀ j, s2 66 j = s1 66 j ∧ s2 67 j = s1 67 j ∧ s2 68 j = s1 68 j := fun j => ⟨f2 66 j (Or.inl (by decide)), f2 67 j (Or.inl (by decide)), f2 68 j (Or.inl (by decide))⟩
    rw [n2, r10] at h
    show bOk (bxA s2 144 (301 + 6 * (t : Int))) ∧ _ ∧ _ ∧ s2 66 _ = _ ∧ s2 67 _ = _ ∧ s2 68 _ = _
    rw [(f66 _).1, (f66 _).2.1, (f66 _).2.2]
    by_cases ok : wtOk (σ 144 10) a b c d e
    · have hn : wtN (σ 144 10) a b c d e = σ 144 10 + 1 := by
        unfold wtN
        rw [if_pos ok.1, if_pos ok.2.1, if_pos ok.2.2]
      rw [hn] at h
      obtain ⟨⟨u1, u2, u3⟩, u4⟩ := tr1 (by rw [R10]; exact ok)
      obtain ⟨w1, w2, w3, w4⟩ := tt1 (by rw [r10]; exact ok)
      rw [r10] at w1 w2 w3 w4
      rw [R10] at u1 u2 u3 u4
      by_cases ct : (t : Int) = σ 144 10
      · rw [ct, w1, w2, w3, u1, u2, u3]
        exact ⟨ok.2.1, ok.1, by decide, rfl, rfl, rfl⟩
      · have eb : bxA s2 144 (301 + 6 * (t : Int)) = bxA σ 144 (301 + 6 * (t : Int)) := by
          unfold bxA
          rw [w4 _ (by omega) (by omega), w4 _ (by omega) (by omega), w4 _ (by omega) (by omega), w4 _ (by omega) (by omega), g144, g144, g144, g144]
        rw [eb, w4 _ (by omega) (by omega), w4 _ (by omega) (by omega), g144, g144, (u4 _ ct).1, (u4 _ ct).2.1, (u4 _ ct).2.2]
        exact R.1.2.2.2.2 t ht (by omega)
    · have hn : wtN (σ 144 10) a b c d e ≤ σ 144 10 := by
        unfold wtN
        by_cases c1 : 0 ≤ a ∧ a ≤ 6
        · rw [if_pos c1]
          by_cases c2 : bOk (b, c, d, e)
          · rw [if_pos c2, if_neg (fun h => ok ⟨c1, c2, h⟩)]
            exact Int.le_refl _
          · rw [if_neg c2]
            exact Int.le_refl _
        · rw [if_neg c1]
          exact Int.le_refl _
      have u4 := tr2 (by rw [R10]; exact ok)
      have w4 := tt2 (by rw [r10]; exact ok)
      have eb : bxA s2 144 (301 + 6 * (t : Int)) = bxA σ 144 (301 + 6 * (t : Int)) := by
        unfold bxA
        rw [w4 _ (by omega), w4 _ (by omega), w4 _ (by omega), w4 _ (by omega), g144, g144, g144, g144]
      rw [eb, w4 _ (by omega), w4 _ (by omega), g144, g144, (u4 _).1, (u4 _).2.1, (u4 _).2.2]
      exact R.1.2.2.2.2 t ht (by omega)
theorem q_image {σ : zS} (I : Inv2 σ) : two (g_c_image σ) g_m_image (fun _ _ s => Inv2 s) := by
  obtain ⟨I1, R⟩ := I
  obtain ⟨v, s1, e1, w, s2, e2, J⟩ := o_image I1
  refine ⟨v, s1, e1, w, s2, e2, J, ?_⟩
  have ht : σ 63 1 ≤ 10 := by
    have h9 := I1.2.1.2.1.2.2.2.1
    have R9 : σ 63 1 = σ 144 9 := R.1.2.1
    omega
  have c4 := CI.c4 (a := 41) I1.1 (by omega)
  have key : zP' (g_c_image σ) (fun _ s => s 74 4 = σ 41 4 ∧ (∀ k : Nat, 1 ≤ k → k ≤ 4 → ∀ j : Nat, j < 60 → s (74 + k) (j : Int) = σ (41 + k) (j : Int)) ∧ (∀ k : Nat, 5 ≤ k → k ≤ 6 → ∀ j : Nat, j ≤ 32 → s (74 + k) (j : Int) = σ (41 + k) (j : Int)) ∧ s 96 1 = σ 63 1 ∧ s 98 5 = σ 65 5 ∧ (∀ t : Nat, t < 10 → (t : Int) < σ 63 1 → s 97 (t : Int) = σ 64 (t : Int)) ∧ (∀ k : Nat, 25 ≤ k → k ≤ 27 → ∀ j : Nat, j < 6 → s (74 + k) (j : Int) = σ (41 + k) (j : Int)) ∧ (∀ a j, (a < 73 ∨ 104 ≤ a) → a < 106 → (a ≠ 39 ∨ j ≠ 2) → s a j = σ a j) ∧ s 39 2 = 1) := by
    unfold g_c_image
    refine zP'.bind (p_st_img I1.1 ht) (fun _ t p => ?_)
    obtain ⟨p1, p2, p3, p4, p5, pa, pb, p6⟩ := p
    try dsimp +instances only
    refine zP'.ret ⟨by (try dsimp only); rw [zu_a (by decide)]; exact p1, fun k h1 h2 j hj => by (try dsimp only); rw [zu_a (by omega)]; exact p2 k h1 h2 j hj, fun k h1 h2 j hj => by (try dsimp only); rw [zu_a (by omega)]; exact p3 k h1 h2 j hj, by (try dsimp only); rw [zu_a (by decide)]; exact p4, by (try dsimp only); rw [zu_a (by decide)]; exact p5, fun t0 h1 h2 => by (try dsimp only); rw [zu_a (by decide)]; exact pa t0 h1 h2, fun k h1 h2 j hj => by (try dsimp only); rw [zu_a (by omega)]; exact pb k h1 h2 j hj, fun a j h h2 h3 => by (try dsimp only); rw [zu_c h3]; exact p6 a j h h2, zu_e rfl⟩
  obtain ⟨k1, k2, k3, k4, k5, ka, kb, k6, k7⟩ := key v s1 e1
  obtain ⟨H1, G1, -⟩ := zP'.of (g_c_image_sp I1.1) v s1 e1
  have ref : ∀ x j, 143 ≤ x → x < 168 → s1 x j = σ x j := fun x j h1 h2 => G1 x j (Or.inl ⟨h1, h2⟩)
  have e2' := e2
  unfold g_m_image at e2'
  rw [s_keeps (a := 145) (b := 148) (by decide)] at e2'
  rw [Option.bind_some] at e2'
  dsimp only at e2'
  cases e2'
  have q : ∀ a j, a ≠ 145 → a ≠ 148 → ¬ (a = 143 ∧ j = 6) → zu (kpS s1 145 148) 143 6 1 a j = s1 a j := fun a j h1 h2 h3 => by
    rw [zu_c (by omega)]
    unfold kpS
    rw [if_neg (fun e => h1 e.1), if_neg (fun e => h2 e.1)]
  have q5 : ∀ j : Int, 0 ≤ j → j < 2740 → zu (kpS s1 145 148) 143 6 1 145 j = s1 144 j := fun j h1 h2 => by
    rw [zu_a (by decide)]
    unfold kpS
    rw [if_pos ⟨rfl, h1, h2⟩]
  have q8 : ∀ j : Int, 0 ≤ j → j < 361 → zu (kpS s1 145 148) 143 6 1 148 j = s1 147 j := fun j h1 h2 => by
    rw [zu_a (by decide)]
    unfold kpS
    rw [if_neg (fun e => absurd e.1 (by decide)), if_pos ⟨rfl, h1, h2⟩]
  refine ⟨?_, ?_, fun _ => ?_⟩
  · refine BK_mv R.1 c4 ?_ (fun k h1 h2 j hj => ?_) (fun k h1 h2 j hj => ?_) ?_ ?_ (fun t0 h1 h2 => ?_) (fun k h1 h2 j hj => ?_) (fun j hj => ?_) (fun j h1 h2 => ?_)
    · rw [q 41 4 (by decide) (by decide) (by omega)]; exact k6 41 4 (by omega) (by omega) (by omega)
    · rw [q (41 + k) _ (by omega) (by omega) (by omega)]; exact k6 (41 + k) _ (by omega) (by omega) (by omega)
    · rw [q (41 + k) _ (by omega) (by omega) (by omega)]; exact k6 (41 + k) _ (by omega) (by omega) (by omega)
    · rw [q (41 + 22) 1 (by decide) (by decide) (by omega)]; exact k6 63 1 (by omega) (by omega) (by omega)
    · rw [q (41 + 24) 5 (by decide) (by decide) (by omega)]; exact k6 65 5 (by omega) (by omega) (by omega)
    · rw [q (41 + 23) _ (by decide) (by decide) (by omega)]; exact k6 64 _ (by omega) (by omega) (by omega)
    · rw [q (41 + k) _ (by omega) (by omega) (by omega)]; exact k6 (41 + k) _ (by omega) (by omega) (by omega)
    · rw [q 144 j (by decide) (by decide) (by omega)]; exact ref 144 j (by decide) (by decide)
    · rw [q 147 j (by decide) (by decide) (by omega)]; exact ref 147 j (by decide) (by decide)
  · rw [q 39 2 (by decide) (by decide) (by omega), k7, zu_e rfl]
  · refine BK_mv R.1 c4 ?_ (fun k h1 h2 j hj => ?_) (fun k h1 h2 j hj => ?_) ?_ ?_ (fun t0 h1 h2 => ?_) (fun k h1 h2 j hj => ?_) (fun j hj => ?_) (fun j h1 h2 => ?_)
    · rw [q 74 4 (by decide) (by decide) (by omega)]; exact k1
    · rw [q (74 + k) _ (by omega) (by omega) (by omega)]; exact k2 k h1 h2 j hj
    · rw [q (74 + k) _ (by omega) (by omega) (by omega)]; exact k3 k h1 h2 j hj
    · rw [q (74 + 22) 1 (by decide) (by decide) (by omega)]; exact k4
    · rw [q (74 + 24) 5 (by decide) (by decide) (by omega)]; exact k5
    · rw [q (74 + 23) _ (by decide) (by decide) (by omega)]; exact ka t0 h1 h2
    · rw [q (74 + k) _ (by omega) (by omega) (by omega)]; exact kb k h1 h2 j hj
    · rw [q5 j (by omega) (by omega)]; exact ref 144 j (by decide) (by decide)
    · rw [q8 j (by omega) (by omega)]; exact ref 147 j (by decide) (by decide)
theorem q_undo {σ : zS} (I : Inv2 σ) : two (g_c_undo σ) g_m_undo (fun _ _ s => Inv2 s) := by
  obtain ⟨I1, R⟩ := I
  obtain ⟨v, s1, e1, w, s2, e2, J⟩ := o_undo I1
  refine ⟨v, s1, e1, w, s2, e2, J, ?_⟩
  have c4' := CI.c4 (a := 74) I1.1 (by omega)
  obtain ⟨H1, G1, -⟩ := zP'.of (g_c_undo_sp I1.1) v s1 e1
  have ref : ∀ x j, 143 ≤ x → x < 168 → s1 x j = σ x j := fun x j h1 h2 => G1 x j (Or.inl ⟨h1, h2⟩)
  by_cases c : σ 143 6 ≠ 0
  · have Bi := R.2.2 c
    have ht : σ 96 1 ≤ 10 := by
      have h9 := (I1.2.1.2.2.2 c).2.2.2.2.1
      have h9 : 0 ≤ σ 145 9 ∧ σ 145 9 ≤ 10 := h9
      have R9 : σ 96 1 = σ 145 9 := Bi.2.1
      omega
    have hc : σ 39 2 ≠ 0 := R.2.1.mpr c
    have key : zP' (g_c_undo σ) (fun _ s => s 41 4 = σ 74 4 ∧ (∀ k : Nat, 1 ≤ k → k ≤ 4 → ∀ j : Nat, j < 60 → s (41 + k) (j : Int) = σ (74 + k) (j : Int)) ∧ (∀ k : Nat, 5 ≤ k → k ≤ 6 → ∀ j : Nat, j ≤ 32 → s (41 + k) (j : Int) = σ (74 + k) (j : Int)) ∧ s 63 1 = σ 96 1 ∧ s 65 5 = σ 98 5 ∧ (∀ t : Nat, t < 10 → (t : Int) < σ 96 1 → s 64 (t : Int) = σ 97 (t : Int)) ∧ (∀ k : Nat, 25 ≤ k → k ≤ 27 → ∀ j : Nat, j < 6 → s (41 + k) (j : Int) = σ (74 + k) (j : Int)) ∧ (∀ a j, (a < 40 ∨ 71 ≤ a) → a < 106 → s a j = σ a j)) := by
      unfold g_c_undo
      try dsimp only
      rw [if_pos hc]
      refine zP'.bind (p_st_und I1.1 ht) (fun _ t p => zP'.ret p)
    obtain ⟨k1, k2, k3, k4, k5, ka, kb, k6⟩ := key v s1 e1
    have r6 : s1 143 6 ≠ 0 := by rw [ref 143 6 (by decide) (by decide)]; exact c
    have e2' := e2
    unfold g_m_undo at e2'
    dsimp only at e2'
    rw [if_pos r6, s_back (a := 145) (b := 148) (by decide)] at e2'
    rw [Option.bind_some] at e2'
    dsimp only at e2'
    cases e2'
    have q : ∀ a j, a ≠ 144 → a ≠ 147 → bkS s1 145 148 a j = s1 a j := fun a j h1 h2 => by
      unfold bkS
      rw [if_neg (fun e => h1 e.1), if_neg (fun e => h2 e.1)]
    have q4 : ∀ j : Int, 0 ≤ j → j < 2740 → bkS s1 145 148 144 j = s1 145 j := fun j h1 h2 => by
      unfold bkS
      rw [if_pos ⟨rfl, h1, h2⟩]
    have q7 : ∀ j : Int, 0 ≤ j → j < 361 → bkS s1 145 148 147 j = s1 148 j := fun j h1 h2 => by
      unfold bkS
      rw [if_neg (fun e => absurd e.1 (by decide)), if_pos ⟨rfl, h1, h2⟩]
    have im : iE σ (bkS s1 145 148) := fun a j h => by
      rw [q a j (by omega) (by omega)]
      by_cases ca : a < 143
      · exact k6 a j (by omega) (by omega)
      · exact ref a j (by omega) (by omega)
    refine Rel_img I1.1 R im (BK_mv Bi c4' ?_ (fun k h1 h2 j hj => ?_) (fun k h1 h2 j hj => ?_) ?_ ?_ (fun t0 h1 h2 => ?_) (fun k h1 h2 j hj => ?_) (fun j hj => ?_) (fun j h1 h2 => ?_))
    · rw [q 41 4 (by decide) (by decide)]; exact k1
    · rw [q (41 + k) _ (by omega) (by omega)]; exact k2 k h1 h2 j hj
    · rw [q (41 + k) _ (by omega) (by omega)]; exact k3 k h1 h2 j hj
    · rw [q (41 + 22) 1 (by decide) (by decide)]; exact k4
    · rw [q (41 + 24) 5 (by decide) (by decide)]; exact k5
    · rw [q (41 + 23) _ (by decide) (by decide)]; exact ka t0 h1 h2
    · rw [q (41 + k) _ (by omega) (by omega)]; exact kb k h1 h2 j hj
    · rw [q4 j (by omega) (by omega)]; exact ref 145 j (by decide) (by decide)
    · rw [q7 j (by omega) (by omega)]; exact ref 148 j (by decide) (by decide)
  · have c0 : ¬ σ 39 2 ≠ 0 := fun h => c (R.2.1.mp h)
    have e1' := e1
    unfold g_c_undo at e1'
    dsimp only at e1'
    rw [if_neg c0] at e1'
    cases e1'
    have e2' := e2
    unfold g_m_undo at e2'
    dsimp only at e2'
    rw [if_neg c] at e2'
    cases e2'
    exact R
/-! the others -/
theorem q_row {a b : Int} {σ : zS} (I : Inv2 σ) : two (g_c_row a b σ) (g_m_row a b) (fun v w s => Inv2 s ∧ v = w) := ⟨_, σ, p_crow I.1.1 I.2, _, σ, t_row, I, rfl⟩
theorem q_worth {a : Int} {σ : zS} (I : Inv2 σ) : two (g_c_worth a σ) (g_m_worth a) (fun v w s => Inv2 s ∧ v = w) := ⟨_, σ, p_cworth I.1.1 I.2, _, σ, t_worth, I, rfl⟩
theorem q_spell {σ : zS} (I : Inv2 σ) : two (g_c_spell σ) g_m_spell (fun _ _ s => Inv2 s) := ft (two_k I.2 I.1.1 (tt (o_spell I.1)) (hc_i I.1 (g_c_spell_sp I.1.1) ⟨fun _ => ⟨rfl, rfl, rfl, rfl, rfl, rfl, rfl, rfl, rfl, rfl, rfl, rfl, rfl, rfl, rfl, rfl, rfl, rfl, rfl⟩, fun _ => ⟨rfl, rfl, rfl, rfl, rfl, rfl, rfl, rfl⟩⟩) (hm_k (mC (fun _ h => m_spell h)) (fun _ h => k_spell h)))
theorem q_explain {a b c d : Int} {σ : zS} (I : Inv2 σ) : two (g_c_explain a b c d σ) (g_m_explain a b c d) (fun _ _ s => Inv2 s) := ft (two_k I.2 I.1.1 (tt (o_explain I.1)) (hc_i I.1 (g_c_explain_sp I.1.1) ⟨fun _ => ⟨rfl, rfl, rfl, rfl, rfl, rfl, rfl, rfl, rfl, rfl, rfl, rfl, rfl, rfl, rfl, rfl, rfl, rfl, rfl⟩, fun _ => ⟨rfl, rfl, rfl, rfl, rfl, rfl, rfl, rfl⟩⟩) (hm_k (mC (fun _ h => m_explain h)) (fun _ h => k_explain h)))
theorem q0_query {a b c d e : Int} {σ : zS} (I : Inv2 σ) : two (g_c_query a b c d e σ) (g_m_query a b c d e) (fun _ _ s => Inv2 s) := ft (two_k I.2 I.1.1 (tt (o_query I.1)) (hc_i I.1 (g_c_query_sp I.1.1) ⟨fun _ => ⟨rfl, rfl, rfl, rfl, rfl, rfl, rfl, rfl, rfl, rfl, rfl, rfl, rfl, rfl, rfl, rfl, rfl, rfl, rfl⟩, fun _ => ⟨rfl, rfl, rfl, rfl, rfl, rfl, rfl, rfl⟩⟩) (hm_k (mC (fun _ h => m_query h)) (fun _ h => k_query h)))
theorem q_query {a b c d e : Int} {σ : zS} (I : Inv2 σ) : two (g_c_query a b c d e σ) (g_m_query a b c d e) (fun v w s => Inv2 s ∧ v = w) := by
  obtain ⟨v, s1, e1, w, s2, e2, J⟩ := q0_query (a := a) (b := b) (c := c) (d := d) (e := e) I
  refine ⟨v, s1, e1, w, s2, e2, J, ?_⟩
  obtain ⟨hv, -, -⟩ := p_query I.1.1 I.2.1.1.1 I.2.1.ok v s1 e1
  obtain ⟨-, G1, -⟩ := zP'.of (g_c_query_sp I.1.1) v s1 e1
  have q4 : s1 144 = σ 144 := funext (fun j => G1 144 j (Or.inl (by decide)))
  have q7 : s1 147 = σ 147 := funext (fun j => G1 147 j (Or.inl (by decide)))
  have M1 : MI s1 := MI_cls I.1.2.1 (fun x j h1 h2 => G1 x j (Or.inl ⟨h1, h2⟩))
  obtain ⟨s3, e3, -, -⟩ := t_query (m := a) (x0 := b) (x1 := c) (y0 := d) (y1 := e) M1.2.1 M1.1 (I.2.1.ok7 q7)
  rw [e2] at e3
  injection e3 with e3
  injection e3 with e3 _
  rw [hv, e3]
  unfold quC quR
  rw [q4, q7, val_eq I.2.1.1]
theorem q_probe {a b c d : Int} {σ : zS} (I : Inv2 σ) : two (g_c_probe a b c d σ) (g_m_probe a b c d) (fun _ _ s => Inv2 s) := ft (two_k I.2 I.1.1 (tt (o_probe I.1)) (hc_i I.1 (g_c_probe_sp I.1.1) ⟨fun _ => ⟨rfl, rfl, rfl, rfl, rfl, rfl, rfl, rfl, rfl, rfl, rfl, rfl, rfl, rfl, rfl, rfl, rfl, rfl, rfl⟩, fun _ => ⟨rfl, rfl, rfl, rfl, rfl, rfl, rfl, rfl⟩⟩) (hm_k (mC (fun _ h => m_probe h)) (fun _ h => k_probe h)))
theorem q_flush {σ : zS} (I : Inv2 σ) : two (g_c_flush σ) g_m_flush (fun _ _ s => Inv2 s) := ft (two_k I.2 I.1.1 (tt (o_flush I.1)) (hc_i I.1 (g_c_flush_sp I.1.1) ⟨fun _ => ⟨rfl, rfl, rfl, rfl, rfl, rfl, rfl, rfl, rfl, rfl, rfl, rfl, rfl, rfl, rfl, rfl, rfl, rfl, rfl⟩, fun _ => ⟨rfl, rfl, rfl, rfl, rfl, rfl, rfl, rfl⟩⟩) (hm_k (mC (fun _ h => m_flush h)) (fun _ h => k_flush h)))
theorem q_again {a b : Int} {σ : zS} (I : Inv2 σ) : two (g_c_again a b σ) (g_m_again a b) (fun _ _ s => Inv2 s) := ft (two_k I.2 I.1.1 (tt (o_again I.1)) (hc_i I.1 (g_c_again_sp I.1.1) ⟨fun _ => ⟨rfl, rfl, rfl, rfl, rfl, rfl, rfl, rfl, rfl, rfl, rfl, rfl, rfl, rfl, rfl, rfl, rfl, rfl, rfl⟩, fun _ => ⟨rfl, rfl, rfl, rfl, rfl, rfl, rfl, rfl⟩⟩) (hm_k (mC (fun _ h => m_again h)) (fun _ h => k_again h)))
theorem q_least {a : Int} {σ : zS} (I : Inv2 σ) : two (g_c_least a σ) (g_m_least a) (fun _ _ s => Inv2 s) := ft (two_k I.2 I.1.1 (tt (o_least I.1)) (hc_i I.1 (g_c_least_sp I.1.1) ⟨fun _ => ⟨rfl, rfl, rfl, rfl, rfl, rfl, rfl, rfl, rfl, rfl, rfl, rfl, rfl, rfl, rfl, rfl, rfl, rfl, rfl⟩, fun _ => ⟨rfl, rfl, rfl, rfl, rfl, rfl, rfl, rfl⟩⟩) (hm_k (mC (fun _ h => m_least h)) (fun _ h => k_least h)))
theorem q0_value {a : Int} {σ : zS} (I : Inv2 σ) : two (g_c_value a σ) (g_m_value a) (fun _ _ s => Inv2 s) := ft (two_k I.2 I.1.1 (tt (o_value I.1)) (hc_i I.1 (g_c_value_sp I.1.1) ⟨fun _ => ⟨rfl, rfl, rfl, rfl, rfl, rfl, rfl, rfl, rfl, rfl, rfl, rfl, rfl, rfl, rfl, rfl, rfl, rfl, rfl⟩, fun _ => ⟨rfl, rfl, rfl, rfl, rfl, rfl, rfl, rfl⟩⟩) (hm_k (mC (fun _ h => m_value h)) (fun _ h => k_value h)))
theorem q_value {a : Int} {σ : zS} (I : Inv2 σ) : two (g_c_value a σ) (g_m_value a) (fun v w s => Inv2 s ∧ v = w) := by
  obtain ⟨v, s1, e1, w, s2, e2, J⟩ := q0_value (a := a) I
  refine ⟨v, s1, e1, w, s2, e2, J, ?_⟩
  have hv := p_cvalue I.1.1 I.2.1.1.1 I.2.1.wc I.2.1.ok v s1 e1
  obtain ⟨-, G1, -⟩ := zP'.of (g_c_value_sp I.1.1) v s1 e1
  have q4 : s1 144 = σ 144 := funext (fun j => G1 144 j (Or.inl (by decide)))
  have q7 : s1 147 = σ 147 := funext (fun j => G1 147 j (Or.inl (by decide)))
  have h10 := I.1.2.1.2.1.2.2.2.2.1
  obtain ⟨s3, e3⟩ := t_cvalue (σ := s1) (B := bxs σ) (k := a) (by rw [q4]; exact h10) (fun r hr => by rw [q4]; exact I.1.2.1.2.1.2.2.2.2.2.2 r hr) (I.2.1.wr q4) (I.2.1.ok7 q7)
  rw [e2] at e3
  injection e3 with e3
  injection e3 with e3 _
  have b3 : σ 65 5 = σ 144 10 := I.2.1.2.2.1
  rw [hv, e3, b3, q4]
  by_cases c : 0 ≤ a ∧ a < σ 144 10
  · obtain ⟨-, -, -, g4, -, -⟩ := I.2.1.2.2.2.2 a.toNat (by omega) (by omega)
    have g4 : σ 66 ((a.toNat : Nat) : Int) = σ 144 (300 + 6 * ((a.toNat : Nat) : Int)) := g4
    rw [if_pos c, if_pos c]
    unfold VR
    rw [q4, q7, val_eq I.2.1.1, ← g4, show ((a.toNat : Nat) : Int) = a by omega]
  · rw [if_neg c, if_neg c]
theorem q_setting {a : Int} {σ : zS} (I : Inv2 σ) : two (g_c_setting a σ) (g_m_setting a) (fun _ _ s => Inv2 s) := ft (two_k I.2 I.1.1 (tt (o_setting I.1)) (hc_p I.1 (g_c_setting_sp I.1.1)) (hm_k (mP (fun _ _ => m_setting)) (k_same (fun _ _ => m_setting))))
theorem q_answer {a : Int} {σ : zS} (I : Inv2 σ) : two (g_c_answer a σ) (g_m_answer a) (fun _ _ s => Inv2 s) := ft (two_k I.2 I.1.1 (tt (o_answer I.1)) (hc_p I.1 (g_c_answer_sp I.1.1)) (hm_k (mP (fun _ h => m_answer h)) (k_same (fun _ h => m_answer h))))
theorem q_paper {a : Int} {σ : zS} (I : Inv2 σ) : two (g_c_paper a σ) (g_m_paper a) (fun _ _ s => Inv2 s) := ft (two_k I.2 I.1.1 (tt (o_paper I.1)) (hc_p I.1 (g_c_paper_sp I.1.1)) (hm_k (mP (fun _ h => m_paper h)) (k_same (fun _ h => m_paper h))))
theorem q_find {a : Int} {σ : zS} (I : Inv2 σ) : two (g_c_find a σ) (g_m_find a) (fun _ _ s => Inv2 s) := ft (two_k I.2 I.1.1 (tt (o_find I.1)) (hc_p I.1 (g_c_find_sp I.1.1)) (hm_k (mP (fun _ h => m_find h)) (k_same (fun _ h => m_find h))))
theorem q_piece {a b : Int} {σ : zS} (I : Inv2 σ) : two (g_c_piece a b σ) (g_m_piece a b) (fun _ _ s => Inv2 s) := ft (two_k I.2 I.1.1 (tt (o_piece I.1)) (hc_p I.1 (g_c_piece_sp I.1.1)) (hm_k (mP (fun _ h => m_piece h)) (k_same (fun _ h => m_piece h))))
theorem q_region {a b : Int} {σ : zS} (I : Inv2 σ) : two (g_c_region a b σ) (g_m_region_248 a b) (fun _ _ s => Inv2 s) := ft (two_k I.2 I.1.1 (tt (o_region I.1)) (hc_p I.1 (g_c_region_sp I.1.1)) (hm_k (mP (fun _ h => m_region h)) (k_same (fun _ h => m_region h))))
theorem q_weight {a : Int} {σ : zS} (I : Inv2 σ) : two (g_c_weight a σ) (g_m_weight a) (fun _ _ s => Inv2 s) := ft (two_k I.2 I.1.1 (tt (o_weight I.1)) (hc_p I.1 (g_c_weight_sp I.1.1)) (hm_k (mP (fun _ h => m_weight h)) (k_same (fun _ h => m_weight h))))
theorem q_told {a : Int} {σ : zS} (I : Inv2 σ) : two (g_c_told a σ) (g_m_told a) (fun _ _ s => Inv2 s) := ft (two_k I.2 I.1.1 (tt (o_told I.1)) (hc_p I.1 (g_c_told_sp I.1.1)) (hm_k (mP (fun _ h => m_told h)) (k_same (fun _ h => m_told h))))
theorem q_keep {a : Int} {σ : zS} (I : Inv2 σ) : two (g_c_keep a σ) (g_m_keep a) (fun _ _ s => Inv2 s) := ft (two_k I.2 I.1.1 (tt (o_keep I.1)) (hc_p I.1 (g_c_keep_sp I.1.1)) (hm_k (mP (fun _ h => m_keep h)) (k_same (fun _ h => m_keep h))))
theorem q0_changes {a : Int} {σ : zS} (I : Inv2 σ) : two (g_c_changes a σ) (g_m_changes a) (fun _ _ s => Inv2 s) := ft (two_k I.2 I.1.1 (tt (o_changes I.1)) (hc_p I.1 (g_c_changes_sp I.1.1)) (hm_k (mP (fun _ h => m_changes h)) (k_same (fun _ h => m_changes h))))
theorem q_changes {a : Int} {σ : zS} (I : Inv2 σ) : two (g_c_changes a σ) (g_m_changes a) (fun v w s => Inv2 s ∧ v = w) := by
  have b3 : σ 65 5 = σ 144 10 := I.2.1.2.2.1
  refine ⟨_, σ, p_changes I.1.1, _, σ, t_changes I.1.2.1.2.1.2.2.2.2.1, I, ?_⟩
  rw [b3]
  by_cases c : 0 ≤ a ∧ a < σ 144 10
  · obtain ⟨-, -, -, -, -, g6⟩ := I.2.1.2.2.2.2 a.toNat (by have := I.1.2.1.2.1.2.2.2.2.1; omega) (by omega)
    have g6 : σ 68 ((a.toNat : Nat) : Int) = σ 144 (305 + 6 * ((a.toNat : Nat) : Int)) := g6
    rw [show ((a.toNat : Nat) : Int) = a by omega] at g6
    rw [if_pos c, if_pos c]
    exact g6
  · rw [if_neg c, if_neg c]
theorem q_get {a b : Int} {σ : zS} (I : Inv2 σ) : two (g_c_get a b σ) (g_m_get a b) (fun _ _ s => Inv2 s) := ft (two_k I.2 I.1.1 (tt (o_get I.1)) (hc_p I.1 (g_c_get_sp I.1.1)) (hm_k (mP (fun _ h => m_get h)) (k_same (fun _ h => m_get h))))
theorem q_lay {a b : Int} {σ : zS} (hb : -2147483648 ≤ b ∧ b < 2147483648) (I : Inv2 σ) : two (g_c_lay a b σ) (g_m_lay a b) (fun _ _ s => Inv2 s) := ft (two_k I.2 I.1.1 (tt (o_lay hb I.1)) (hc_i I.1 (g_c_lay_sp I.1.1) ⟨fun _ => ⟨rfl, rfl, rfl, rfl, rfl, rfl, rfl, rfl, rfl, rfl, rfl, rfl, rfl, rfl, rfl, rfl, rfl, rfl, rfl⟩, fun _ => ⟨rfl, rfl, rfl, rfl, rfl, rfl, rfl, rfl⟩⟩) (hm_k (fun s h => by
  obtain ⟨w, s2, e, h1, h2⟩ := m_lay (l := a) h hb
  exact ⟨w, s2, e, h1, h2.i⟩) (fun _ h => k_lay hb h)))
theorem q_judge {a b : Int} {σ : zS} (hb : -2147483648 ≤ b ∧ b < 2147483648) (I : Inv2 σ) : two (g_c_judge a b σ) (g_m_judge a b) (fun _ _ s => Inv2 s) := ft (two_k I.2 I.1.1 (tt (o_judge hb I.1)) (hc_p I.1 (g_c_judge_sp I.1.1)) (hm_k (mP (fun _ h => m_judge h hb)) (k_same (fun _ h => m_judge h hb))))
theorem q_settings {σ : zS} (I : Inv2 σ) : two (g_c_settings σ) g_m_settings (fun _ _ s => Inv2 s) := ft (two_k I.2 I.1.1 (tt (o_settings I.1)) (hc_i I.1 (g_c_settings_sp I.1.1) ⟨fun _ => ⟨rfl, rfl, rfl, rfl, rfl, rfl, rfl, rfl, rfl, rfl, rfl, rfl, rfl, rfl, rfl, rfl, rfl, rfl, rfl⟩, fun _ => ⟨rfl, rfl, rfl, rfl, rfl, rfl, rfl, rfl⟩⟩) (fun s hs => by
  obtain ⟨w, s2, e, -, -, h⟩ := m_settings hs
  exact ⟨w, s2, e, zP'.of (k_settings hs) w s2 e, fun a j k => h a j (by omega)⟩))
theorem q_run {σ : zS} (I : Inv2 σ) : two (g_c_run σ) g_m_run (fun _ _ s => Inv2 s) := ft (two_k I.2 I.1.1 (tt (o_run I.1)) (hc_i I.1 (g_c_run_sp I.1.1) ⟨fun _ => ⟨rfl, rfl, rfl, rfl, rfl, rfl, rfl, rfl, rfl, rfl, rfl, rfl, rfl, rfl, rfl, rfl, rfl, rfl, rfl⟩, fun _ => ⟨rfl, rfl, rfl, rfl, rfl, rfl, rfl, rfl⟩⟩) (fun s hs => by
  obtain ⟨w, s2, e, -, -, h⟩ := m_run hs
  exact ⟨w, s2, e, zP'.of (k_run hs) w s2 e, fun a j k => h a j (by omega)⟩))
theorem q_load {σ : zS} (I : Inv2 σ) : two (g_c_load σ) g_m_load (fun _ _ s => Inv2 s) := ft (two_k I.2 I.1.1 (tt (o_load I.1)) (hc_i I.1 (g_c_load_sp I.1.1) ⟨fun _ => ⟨rfl, rfl, rfl, rfl, rfl, rfl, rfl, rfl, rfl, rfl, rfl, rfl, rfl, rfl, rfl, rfl, rfl, rfl, rfl⟩, fun _ => ⟨rfl, rfl, rfl, rfl, rfl, rfl, rfl, rfl⟩⟩) (fun s hs => by
  obtain ⟨w, s2, e, -, -, h⟩ := m_load hs
  exact ⟨w, s2, e, zP'.of (k_load hs) w s2 e, fun a j k => h a j (by omega)⟩))
theorem q_clear {σ : zS} (I : Inv2 σ) : two (g_c_clear σ) g_m_clear (fun v w s => Inv2 s ∧ v = w) := two_k I.2 I.1.1 (o_clear I.1) (hc_i I.1 (g_c_clear_sp I.1.1) ⟨fun _ => ⟨rfl, rfl, rfl, rfl, rfl, rfl, rfl, rfl, rfl, rfl, rfl, rfl, rfl, rfl, rfl, rfl, rfl, rfl, rfl⟩, fun _ => ⟨rfl, rfl, rfl, rfl, rfl, rfl, rfl, rfl⟩⟩) (fun s hs => by
  obtain ⟨s2, e, -, -, h⟩ := m_clear hs
  exact ⟨_, s2, e, zP'.of (k_clear hs) _ s2 e, fun a j k => h a j (by omega)⟩)
theorem q_feed {x : Int} {σ : zS} (I : Inv2 σ) : two (g_c_feed x σ) (g_m_feed x) (fun v w s => Inv2 s ∧ v = w) := two_k I.2 I.1.1 (o_feed I.1) (hc_i I.1 (g_c_feed_sp I.1.1) ⟨fun _ => ⟨rfl, rfl, rfl, rfl, rfl, rfl, rfl, rfl, rfl, rfl, rfl, rfl, rfl, rfl, rfl, rfl, rfl, rfl, rfl⟩, fun _ => ⟨rfl, rfl, rfl, rfl, rfl, rfl, rfl, rfl⟩⟩) (fun s hs => by
  obtain ⟨s2, e, -, -, h⟩ := m_feed (x := x) hs
  exact ⟨_, s2, e, zP'.of (k_feed hs) _ s2 e, fun a j k => h a j (by omega) (by omega)⟩)
theorem q_set {l i v0 : Int} {σ : zS} (I : Inv2 σ) : two (g_c_set l i v0 σ) (g_m_set l i v0) (fun v w s => Inv2 s ∧ v = w) := two_k I.2 I.1.1 (o_set I.1) (hc_i I.1 (g_c_set_sp I.1.1) ⟨fun _ => ⟨rfl, rfl, rfl, rfl, rfl, rfl, rfl, rfl, rfl, rfl, rfl, rfl, rfl, rfl, rfl, rfl, rfl, rfl, rfl⟩, fun _ => ⟨rfl, rfl, rfl, rfl, rfl, rfl, rfl, rfl⟩⟩) (fun s hs => by
  obtain ⟨s2, e, -, h⟩ := m_set (l := l) (i := i) (v := v0) hs
  exact ⟨_, s2, e, zP'.of (k_set hs) _ s2 e, fun a j k => h a j (by omega)⟩)
theorem q_list {l x : Int} {σ : zS} (I : Inv2 σ) : two (g_c_list l x σ) (g_m_list l x) (fun v w s => Inv2 s ∧ v = w) := two_k I.2 I.1.1 (o_list I.1) (hc_i I.1 (g_c_list_sp I.1.1) ⟨fun _ => ⟨rfl, rfl, rfl, rfl, rfl, rfl, rfl, rfl, rfl, rfl, rfl, rfl, rfl, rfl, rfl, rfl, rfl, rfl, rfl⟩, fun _ => ⟨rfl, rfl, rfl, rfl, rfl, rfl, rfl, rfl⟩⟩) (fun s hs => by
  obtain ⟨s2, e, -, h, -⟩ := m_list (l := l) (x := x) hs
  exact ⟨_, s2, e, zP'.of (k_list hs) _ s2 e, fun a j k => h a j (by omega)⟩)
theorem q_move {l i o j x : Int} {σ : zS} (hi : i < 2147483648) (hj : j < 2147483648) (I : Inv2 σ) : two (g_c_move l i o j x σ) (g_m_move l i o j x) (fun v w s => Inv2 s ∧ v = w) := two_k I.2 I.1.1 (o_move hi hj I.1) (hc_i I.1 (g_c_move_sp I.1.1) ⟨fun _ => ⟨rfl, rfl, rfl, rfl, rfl, rfl, rfl, rfl, rfl, rfl, rfl, rfl, rfl, rfl, rfl, rfl, rfl, rfl, rfl⟩, fun _ => ⟨rfl, rfl, rfl, rfl, rfl, rfl, rfl, rfl⟩⟩) (fun s hs => by
  obtain ⟨s2, e, -, h⟩ := m_move (l := l) (i := i) (o := o) (j0 := j) (x := x) hs hi hj
  exact ⟨_, s2, e, zP'.of (k_move hi hj hs) _ s2 e, fun a j' k => h a j' (by omega)⟩)
/-! the start -/
theorem Inv2_s0 : Inv2 s0 := by
  refine ⟨Inv_s0, ?_⟩
  have z : ∀ a : Nat, s0rng a 0 0 = true → a ≠ 169 → ∀ j, s0 a j = 0 := fun a h ha j => by
    have h := s0_in h (by decide) ha j
    omega
  have r0 : ∀ i : Fin 60, s0 144 (20 + 3 * ((i.val : Nat) : Int)) = 0 ∧ s0 144 (21 + 3 * ((i.val : Nat) : Int)) = 0 ∧ s0 144 (22 + 3 * ((i.val : Nat) : Int)) = 0 ∧ s0 147 (1 + ((i.val : Nat) : Int)) = 0 := by decide +kernel
  have eI : inS s0 144 = fun _ => false := by
    funext r
    unfold inS
    refine decide_eq_false (fun h => ?_)
    have := (r0 ⟨r, h.1⟩).1
    have h2 := h.2
    rw [this] at h2
    exact absurd h2 (by decide)
  have h6 : s0 143 6 = 0 := by decide +kernel
  refine ⟨⟨⟨⟨?_, ?_, ?_, ?_⟩, fun r hr => ?_⟩, by decide +kernel, by decide +kernel, fun t _ h => ?_, fun k _ h => ?_⟩, ?_, fun h => absurd h6 h⟩
  · rw [eI]; intro r h; cases h
  · rw [eI]
    intro i r hi hr
    rw [z 46 (by decide +kernel) (by decide), z 47 (by decide +kernel) (by decide), bq_0]
    exact ⟨rfl, rfl⟩
  · have h : s0 41 4 = 0 := by decide +kernel
    unfold ordL
    rw [h]
    exact List.Pairwise.nil
  · rw [eI]
    intro v
    have h : s0 41 4 = 0 := by decide +kernel
    unfold ordL
    rw [h]
    exact ⟨fun hh => (by cases hh), fun ⟨_, _, hh⟩ => (by cases hh)⟩
  · obtain ⟨g1, g2, g3, g4⟩ := r0 ⟨r, hr⟩
    have g1 : s0 144 (20 + 3 * (r : Int)) = 0 := g1
    have g2 : s0 144 (21 + 3 * (r : Int)) = 0 := g2
    have g3 : s0 144 (22 + 3 * (r : Int)) = 0 := g3
    have g4 : s0 147 (1 + (r : Int)) = 0 := g4
    rw [g1, g2, g3, g4, z 42 (by decide +kernel) (by decide), z 43 (by decide +kernel) (by decide), z 44 (by decide +kernel) (by decide)]
    exact ⟨Or.inl rfl, rfl, rfl, rfl, by decide⟩
  · have h9 : s0 144 9 = 0 := by decide +kernel
    rw [h9] at h
    exact absurd h (by omega)
  · have h9 : s0 144 10 = 0 := by decide +kernel
    rw [h9] at h
    exact absurd h (by omega)
  · have h2 : s0 39 2 = 0 := by decide +kernel
    exact ⟨fun h => absurd h2 h, fun h => absurd h6 h⟩
end
section
/-! 67.frames -/
/-! WHAT THE REFERENCE'S CALLS LEAVE AS IT WAS, in full -/
theorem f_spell {σ : zS} (h : MI σ) : zP' (g_m_spell σ) (fun _ s => ∀ a j, a ≠ 163 → (a ≠ 143 ∨ j ≠ 29) → s a j = σ a j) := by
  obtain ⟨N, hN2, hN, -⟩ := h.1
  unfold g_m_spell
  try dsimp only
  have q29 : zu σ 143 29 0 143 29 = 0 := zu_e rfl
  obtain ⟨v, s, e1, e2⟩ := s_spell7 hN2 N 0 zK (zu σ 143 29 0) (by omega) (by show _ < 1000000; omega) (by rw [zu_a (by decide)]; exact hN) (by omega) (by omega)
  exact zP'.of ⟨v, s, e1, fun a j k1 k2 => by rw [e2.1 a j (by omega) (by omega), zu_c (by omega)]⟩
theorem f_explain {x0 x1 y0 y1 : Int} {σ : zS} (h : MI σ) : zP' (g_m_explain x0 x1 y0 y1 σ) (fun _ s => ∀ a j, a ≠ 163 → (a ≠ 143 ∨ (j ≠ 10 ∧ j ≠ 29)) → a ≠ 150 → a ≠ 151 → a ≠ 152 → a ≠ 153 → s a j = σ a j) := by
  unfold g_m_explain
  by_cases c : bOk (x0, x1, y0, y1)
  · rw [s_isBox_t c]
    rw [Option.bind_some]
    try dsimp only
    rw [if_pos (by decide), s_sets (by omega) (by rw [l152]; omega) (by rw [l152]; omega)]
    rw [Option.bind_some]
    try dsimp only
    generalize hs0 : zb σ 152 0 (x0, x1, y0, y1) = s0'
    have q0 : ∀ a j, a ≠ 152 → s0' a j = σ a j := fun a j k1 => by rw [← hs0, zb_a k1]
    obtain ⟨s1, M, N, e1, e2, e3, e4, e5, e6⟩ := s_missM (σ := s0') c (by rw [← hs0]; exact zb_bx rfl) (NI_fr h.1 (fun j _ => q0 144 j (by decide)))
    rw [e1]
    rw [Option.bind_some]
    try dsimp only
    have q1 : ∀ a j, a ≠ 150 → a ≠ 151 → (a ≠ 143 ∨ j ≠ 10) → a ≠ 152 → s1 a j = σ a j := fun a j k1 k2 k3 k4 => (e2 a j k1 k2 k3).trans (q0 a j k4)
    have q29 : zu s1 143 29 0 143 29 = 0 := zu_e rfl
    obtain ⟨v, s', g1, g2⟩ := s_exp39 (M := M) (N := N) (by omega) e6 N 0 zK (zu s1 143 29 0) (by omega) (by show _ < 1000000; omega) (by rw [zu_a (by decide), e2 144 0 (by decide) (by decide) (by decide)]; exact e5) (by rw [zu_i (by decide)]; exact e3) (by omega) (by omega)
    exact zP'.of ⟨v, s', g1, fun a j k1 k2 k3 k4 k5 k6 => by rw [g2.1 a j (by omega) (by omega) (by omega), zu_c (by omega), q1 a j (by omega) (by omega) (by omega) (by omega)]⟩
  · rw [s_isBox_f c]
    rw [Option.bind_some]
    try dsimp only
    rw [if_neg (by decide)]
    exact zP'.ret (fun _ _ _ _ _ _ _ _ => rfl)
theorem f_probe {x0 x1 y0 y1 : Int} {σ : zS} (h : MI σ) : zP' (g_m_probe x0 x1 y0 y1 σ) (fun _ s => ∀ a j, a ≠ 165 → (a ≠ 143 ∨ (j ≠ 10 ∧ j ≠ 32)) → a ≠ 150 → a ≠ 151 → a ≠ 152 → s a j = σ a j) := by
  unfold g_m_probe
  by_cases c : bOk (x0, x1, y0, y1)
  · rw [s_isBox_t c]
    rw [Option.bind_some]
    try dsimp only
    rw [if_pos (by decide), s_sets (by omega) (by rw [l152]; omega) (by rw [l152]; omega)]
    rw [Option.bind_some]
    try dsimp only
    generalize hs0 : zb σ 152 0 (x0, x1, y0, y1) = s0'
    have q0 : ∀ a j, a ≠ 152 → s0' a j = σ a j := fun a j k1 => by rw [← hs0, zb_a k1]
    obtain ⟨s1, M, N, e1, e2, e3, e4, e5, e6⟩ := s_missM (σ := s0') c (by rw [← hs0]; exact zb_bx rfl) (NI_fr h.1 (fun j _ => q0 144 j (by decide)))
    rw [e1]
    rw [Option.bind_some]
    try dsimp only
    have q1 : ∀ a j, a ≠ 150 → a ≠ 151 → (a ≠ 143 ∨ j ≠ 10) → a ≠ 152 → s1 a j = σ a j := fun a j k1 k2 k3 k4 => (e2 a j k1 k2 k3).trans (q0 a j k4)
    obtain ⟨v, s', g1, g2, g3⟩ := s_probe39 (M := M) (N := N) (by omega) e6 N 0 zK (zu s1 143 32 0) 0 (by omega) (by show _ < 1000000; omega) (by rw [zu_a (by decide), e2 144 0 (by decide) (by decide) (by decide)]; exact e5) (by rw [zu_i (by decide)]; exact e3) (zu_e rfl) (by omega)
    exact zP'.of ⟨v, s', g1, fun a j k1 k2 k3 k4 k5 => by rw [g3 a j (by omega) (by omega), zu_c (by omega), q1 a j (by omega) (by omega) (by omega) (by omega)]⟩
  · rw [s_isBox_f c]
    rw [Option.bind_some]
    try dsimp only
    rw [if_neg (by decide)]
    exact zP'.ret (fun _ _ _ _ _ _ _ => rfl)
theorem f_query {x x0 x1 y0 y1 : Int} {σ : zS} (h : MI σ) : zP' (g_m_query x x0 x1 y0 y1 σ) (fun _ s => ∀ a j, a ≠ 152 → (a ≠ 144 ∨ (9 ≤ j ∧ j < 200) ∨ (260 ≤ j ∧ j < 340)) → (a ≠ 147 ∨ (1 ≤ j ∧ j < 61)) → a ≠ 150 → a ≠ 151 → a ≠ 153 → a ≠ 154 → a ≠ 155 → (a ≠ 143 ∨ (j ≠ 10 ∧ j ≠ 14 ∧ j ≠ 15 ∧ j ≠ 21 ∧ j ≠ 22 ∧ j ≠ 23)) → s a j = σ a j) := by
  obtain ⟨v, s, e1, -, -, e4⟩ := s_query (x := x) (x0 := x0) (x1 := x1) (y0 := y0) (y1 := y1) h.2.1 h.1
  rw [e1]
  exact zP'.ret e4
theorem f_flush {σ : zS} : zP' (g_m_flush σ) (fun _ s => ∀ a j, (a ≠ 144 ∨ j ≠ 0) → s a j = σ a j) := zP'.ret (fun a j k => zu_c k)
theorem f_again {x y : Int} {σ : zS} (h : MI σ) : zP' (g_m_again x y σ) (fun _ s => ∀ a j, (a ≠ 144 ∨ (0 ≤ j ∧ j < 2740)) → (a ≠ 147 ∨ (0 ≤ j ∧ j < 361)) → a ≠ 146 → a ≠ 149 → a ≠ 150 → a ≠ 151 → a ≠ 152 → a ≠ 153 → (a ≠ 143 ∨ j ≠ 10) → s a j = σ a j) := by
  obtain ⟨v, s, e, e1, e2, e3⟩ := s_again (x := x) (y := y) h.2.1
  rw [e]
  refine zP'.ret (fun a j k1 k2 k3 k4 k5 k6 k7 k8 k9 => ?_)
  by_cases c4 : a = 144
  · subst c4
    have hj := k1.resolve_left (fun h => h rfl)
    exact e1 j hj.1 hj.2
  · by_cases c7 : a = 147
    · subst c7
      have hj := k2.resolve_left (fun h => h rfl)
      exact e2 j hj.1 hj.2
    · exact e3 a j c4 c7 k3 k4 k5 k6 k7 k8 k9
theorem f_least {x : Int} {σ : zS} (h : MI σ) : zP' (g_m_least x σ) (fun _ s => ∀ a j, (a ≠ 144 ∨ (0 ≤ j ∧ j < 2740)) → (a ≠ 147 ∨ (0 ≤ j ∧ j < 361)) → a ≠ 146 → a ≠ 149 → a ≠ 150 → a ≠ 151 → a ≠ 152 → a ≠ 153 → (a ≠ 143 ∨ j ≠ 10) → s a j = σ a j) := by
  obtain ⟨v, s, e, e1, e2, e3⟩ := s_least (x := x) h.2.1
  rw [e]
  refine zP'.ret (fun a j k1 k2 k3 k4 k5 k6 k7 k8 k9 => ?_)
  by_cases c4 : a = 144
  · subst c4
    have hj := k1.resolve_left (fun h => h rfl)
    exact e1 j hj.1 hj.2
  · by_cases c7 : a = 147
    · subst c7
      have hj := k2.resolve_left (fun h => h rfl)
      exact e2 j hj.1 hj.2
    · exact e3 a j c4 c7 k3 k4 k5 k6 k7 k8 k9
theorem f_value {x : Int} {σ : zS} (h : MI σ) : zP' (g_m_value x σ) (fun _ s => frG σ s) := by
  obtain ⟨v, s, e, e1⟩ := s_value (k := x) h.2.1.2.2.2.2.1
  rw [e]
  exact zP'.ret e1
theorem f_put {r x y v : Int} {σ : zS} (h : MI σ) : zP' (g_m_put r x y v σ) (fun _ s => frP σ s) := by
  obtain ⟨c, s, e, -, -, e1⟩ := s_put (r := r) (x := x) (y := y) (v := v) h.2.1 h.1
  rw [e]
  exact zP'.ret e1
theorem f_take {r : Int} {σ : zS} (h : MI σ) : zP' (g_m_take r σ) (fun _ s => frP σ s) := by
  obtain ⟨c, s, e, -, -, e1⟩ := s_take (r := r) h.2.1 h.1
  rw [e]
  exact zP'.ret e1
theorem f_clear {σ : zS} (h : MI σ) : zP' (g_m_clear σ) (fun _ s => ∀ a j, (a ≠ 143 ∨ j ≠ 20) → s a j = σ a j) := by
  obtain ⟨s, e, -, -, e3⟩ := m_clear h
  rw [e]
  exact zP'.ret (fun a j k => e3 a j (by omega))
theorem f_feed {x : Int} {σ : zS} (h : MI σ) : zP' (g_m_feed x σ) (fun _ s => ∀ a j, a ≠ 159 → (a ≠ 143 ∨ j ≠ 20) → s a j = σ a j) := by
  obtain ⟨s, e, -, -, e3⟩ := m_feed (x := x) h
  rw [e]
  exact zP'.ret (fun a j k1 k2 => e3 a j k1 (by omega))
theorem f_list {l x : Int} {σ : zS} (h : MI σ) : zP' (g_m_list l x σ) (fun _ s => ∀ a j, a ≠ 166 → a ≠ 167 → s a j = σ a j) := by
  obtain ⟨s, e, -, e3, -⟩ := m_list (l := l) (x := x) h
  rw [e]
  exact zP'.ret (fun a j k1 k2 => e3 a j (by omega))
theorem f_set {l i v : Int} {σ : zS} (h : MI σ) : zP' (g_m_set l i v σ) (fun _ s => ∀ a j, a ≠ 167 → s a j = σ a j) := by
  obtain ⟨s, e, -, e3⟩ := m_set (l := l) (i := i) (v := v) h
  rw [e]
  exact zP'.ret e3
theorem f_move {l i o j0 x : Int} {σ : zS} (hi : i < 2147483648) (hj : j0 < 2147483648) (h : MI σ) : zP' (g_m_move l i o j0 x σ) (fun _ s => ∀ a j, a ≠ 167 → s a j = σ a j) := by
  obtain ⟨s, e, -, e3⟩ := m_move (l := l) (o := o) (x := x) h hi hj
  rw [e]
  exact zP'.ret e3
theorem f_lay {l i : Int} {σ : zS} (hi : -2147483648 ≤ i ∧ i < 2147483648) (h : MI σ) : zP' (g_m_lay l i σ) (fun _ s => ∀ a j, a ≠ 167 → s a j = σ a j) := by
  obtain ⟨v, s, e, -, e3⟩ := m_lay (l := l) h hi
  rw [e]
  exact zP'.ret e3
end
section
/-! 68.parse -/
/-! READING THE TAPE, told once for both sides: numbers and signs -/
def numF (f : Int → Int) (L : Int) : Nat → Int → Int → Int × Int
  | 0, p, v => (v, p)
  | w + 1, p, v => if p < L ∧ 48 ≤ f p ∧ f p ≤ 57 then numF f L w (p + 1) (10 * v + f p - 48) else (v, p)
/-- the class's tape: its length, its place; sound: no fault yet -/
def tpI (σ : zS) : Prop := (0 ≤ σ 120 1 ∧ σ 120 1 ≤ 160) ∧ (0 ≤ σ 120 2 ∧ σ 120 2 ≤ 160) ∧ ∀ j : Int, 0 ≤ j → j < σ 120 1 → 1 ≤ σ 121 j ∧ σ 121 j ≤ 127
def tpH (σ : zS) : Int := if σ 120 2 < σ 120 1 then σ 121 (σ 120 2) else 0
theorem p_here {σ : zS} (h : tpI σ) (hs : σ 120 3 = -1) : g_ta_here σ = some (tpH σ, σ) := by
  obtain ⟨h1, h2, h3⟩ := h
  unfold g_ta_here tpH
  try dsimp +instances only
  rw [if_neg (by omega), if_neg (by omega)]
  by_cases c : σ 120 1 ≤ σ 120 2
  · rw [if_pos c, if_neg (by omega)]
  · rw [if_neg c, if_neg (by omega), if_pos (by omega), if_pos (by omega)]
theorem p_here0 {σ : zS} (hs : σ 120 3 ≠ -1) : g_ta_here σ = some (0, σ) := by
  unfold g_ta_here
  try dsimp +instances only
  rw [if_pos hs]
theorem p_blame {x : Int} {σ : zS} : g_ta_blame x σ = some ((), if σ 120 3 = -1 then zu σ 120 3 x else σ) := by
  unfold g_ta_blame
  try dsimp +instances only
  by_cases c : σ 120 3 = -1
  · rw [if_neg (fun h => h c), if_pos c]
  · rw [if_pos c, if_neg c]
/-- only the place and the fault may change -/
def frTa (σ s : zS) : Prop := ∀ a j, (a ≠ 120 ∨ (j ≠ 2 ∧ j ≠ 3)) → s a j = σ a j
theorem frTa.refl (σ : zS) : frTa σ σ := fun _ _ _ => rfl
theorem frTa.trans {σ s t : zS} (h1 : frTa σ s) (h2 : frTa s t) : frTa σ t := fun a j k => (h2 a j k).trans (h1 a j k)
theorem frTa.u {σ : zS} {i v : Int} (h : i = 2 ∨ i = 3) : frTa σ (zu σ 120 i v) := fun a j k => zu_c (by omega)
theorem p_wants {x : Int} {σ : zS} (h : tpI σ) (hs : σ 120 3 = -1) (hx : 1 ≤ x) : zP' (g_ta_wants x σ) (fun _ s => frTa σ s ∧ (tpH σ = x → s 120 2 = σ 120 2 + 1 ∧ s 120 3 = -1) ∧ (tpH σ ≠ x → s 120 3 = σ 120 2)) := by
  unfold g_ta_wants
  rw [p_here h hs]
  rw [Option.bind_some]
  try dsimp +instances only
  by_cases c : tpH σ ≠ x
  · rw [if_pos c, p_blame, if_pos hs]
    rw [Option.bind_some]
    try dsimp +instances only
    exact zP'.ret ⟨frTa.u (Or.inr rfl), fun e => absurd e c, fun _ => zu_e rfl⟩
  · rw [if_neg c, w32_id (x := σ 120 2 + 1) (by have := h.2.1; omega) (by have := h.2.1; omega)]
    refine zP'.ret ⟨frTa.u (Or.inl rfl), fun _ => ⟨zu_e rfl, (zu_i (by decide)).trans hs⟩, fun e => absurd e c⟩
theorem p_num12 {w lo hi x4 : Int} : ∀ (n k : Nat) (v p : Int) (σ : zS), tpI σ → σ 120 3 = -1 → σ 120 2 = p → (k : Int) ≤ w → w ≤ 9 → 0 ≤ v → v < 1000000000 → (v + 1) * 10 ^ (w.toNat - k) ≤ 1000000000 → zP' (g_ta_number_L12 n w lo hi x4 v (k : Int) σ) (fun r s => frTa σ s ∧ r = (numF (σ 121) (σ 120 1) (w.toNat - k) p v).1 ∧ (((numF (σ 121) (σ 120 1) (w.toNat - k) p v).2 ≠ x4 ∧ lo ≤ r ∧ r ≤ hi → s 120 2 = (numF (σ 121) (σ 120 1) (w.toNat - k) p v).2 ∧ s 120 3 = -1) ∧ (¬ ((numF (σ 121) (σ 120 1) (w.toNat - k) p v).2 ≠ x4 ∧ lo ≤ r ∧ r ≤ hi) → s 120 3 = x4)))
  | 0, _, _, _, _, _, _, _, _, _, _, _, _ => zP'.no
  | n + 1, k, v, p, σ, h, hs, hp, hk, hw, hv, hv2, hb => by
    have fin : numF (σ 121) (σ 120 1) (w.toNat - k) p v = (v, p) → zP' (g_ta_number_L67 lo hi x4 v σ) (fun r s => frTa σ s ∧ r = (numF (σ 121) (σ 120 1) (w.toNat - k) p v).1 ∧ (((numF (σ 121) (σ 120 1) (w.toNat - k) p v).2 ≠ x4 ∧ lo ≤ r ∧ r ≤ hi → s 120 2 = (numF (σ 121) (σ 120 1) (w.toNat - k) p v).2 ∧ s 120 3 = -1) ∧ (¬ ((numF (σ 121) (σ 120 1) (w.toNat - k) p v).2 ≠ x4 ∧ lo ≤ r ∧ r ≤ hi) → s 120 3 = x4))) := fun e => by
      rw [e]
      have bad : ¬ (p ≠ x4 ∧ lo ≤ v ∧ v ≤ hi) → zP' (g_ta_number_L88 x4 v σ) (fun r s => frTa σ s ∧ r = v ∧ ((p ≠ x4 ∧ lo ≤ r ∧ r ≤ hi → s 120 2 = p ∧ s 120 3 = -1) ∧ (¬ (p ≠ x4 ∧ lo ≤ r ∧ r ≤ hi) → s 120 3 = x4))) := fun hn => by
        unfold g_ta_number_L88
        rw [p_blame, if_pos hs]
        rw [Option.bind_some]
        try dsimp +instances only
        exact zP'.ret ⟨frTa.u (Or.inr rfl), rfl, fun e => absurd e hn, fun _ => zu_e rfl⟩
      unfold g_ta_number_L67
      try dsimp +instances only
      rw [hp]
      refine zP'.ite (fun c => bad (fun h => h.1 c)) (fun c => zP'.ite (fun c2 => bad (fun h => by omega)) (fun c2 => zP'.ite (fun c3 => zP'.ret ⟨frTa.refl σ, rfl, fun _ => ⟨hp, hs⟩, fun hn => absurd ⟨c, by omega, c3⟩ hn⟩) (fun c3 => bad (fun h => c3 h.2.2))))
    unfold g_ta_number_L12
    refine zP'.ite (fun c => fin (by rw [show w.toNat - k = 0 by omega]; rfl)) (fun c => ?_)
    obtain ⟨m, hm⟩ : ∃ m, w.toNat - k = m + 1 := ⟨w.toNat - k - 1, by omega⟩
    have hm2 : w.toNat - (k + 1) = m := by omega
    rw [p_here h hs]
    rw [Option.bind_some]
    try dsimp +instances only
    have hstop : ¬ (p < σ 120 1 ∧ 48 ≤ σ 121 p ∧ σ 121 p ≤ 57) → numF (σ 121) (σ 120 1) (w.toNat - k) p v = (v, p) := fun hn => by
      rw [hm]
      exact if_neg hn
    have hH : tpH σ = if p < σ 120 1 then σ 121 p else 0 := by
      unfold tpH
      rw [hp]
    refine zP'.ite (fun c1 => fin (hstop (fun hn => by rw [hH, if_pos hn.1] at c1; omega))) (fun c1 => ?_)
    rw [p_here h hs]
    rw [Option.bind_some]
    try dsimp +instances only
    refine zP'.ite (fun c2 => fin (hstop (fun hn => by rw [hH, if_pos hn.1] at c2; omega))) (fun c2 => ?_)
    rw [p_here h hs]
    rw [Option.bind_some]
    try dsimp +instances only
    have hpl : p < σ 120 1 := by
      by_cases cp : p < σ 120 1
      · exact cp
      · rw [hH, if_neg cp] at c1
        exact absurd c1 (by omega)
    rw [hH, if_pos hpl] at c1 c2 ⊢
    have hstep : numF (σ 121) (σ 120 1) (w.toNat - k) p v = numF (σ 121) (σ 120 1) m (p + 1) (10 * v + σ 121 p - 48) := by
      rw [hm]
      exact if_pos ⟨hpl, by omega, by omega⟩
    have h2 := h.1
    have h3 := h.2.1
    have hpow : (v + 1) * 10 ^ (m + 1) ≤ 1000000000 := by rw [← hm]; exact hb
    have hpow1 : (1 : Int) ≤ 10 ^ m := by
      have : (0 : Int) < 10 ^ m := Int.pow_pos (by decide)
      omega
    have hv10 : (10 * v + 9 + 1) * 10 ^ m ≤ 1000000000 := by
      have e : (10 * v + 9 + 1) * (10 : Int) ^ m = (v + 1) * 10 ^ (m + 1) := by
        rw [Int.pow_succ, Int.mul_comm (10 ^ m) 10, ← Int.mul_assoc]
        congr 1
        omega
      rw [e]
      exact hpow
    have hle : 10 * v + 9 + 1 ≤ (10 * v + 9 + 1) * 10 ^ m := by
      have := Int.mul_le_mul_of_nonneg_left hpow1 (show 0 ≤ 10 * v + 9 + 1 by omega)
      omega
    rw [w32_id (x := v * 10) (by omega) (by omega), w32_id (x := v * 10 + σ 121 p) (by omega) (by omega), w32_id (x := v * 10 + σ 121 p - 48) (by omega) (by omega), w32_id (x := σ 120 2 + 1) (by omega) (by omega), w32_id (x := (k : Int) + 1) (by omega) (by omega), hp, show (k : Int) + 1 = ((k + 1 : Nat) : Int) by omega, show v * 10 + σ 121 p - 48 = 10 * v + σ 121 p - 48 by omega]
    generalize hz : zu σ 120 2 (p + 1) = s1
    have q : ∀ a j, (a ≠ 120 ∨ j ≠ 2) → s1 a j = σ a j := fun a j hh => by rw [← hz]; exact zu_c hh
    have q121 : s1 121 = σ 121 := funext (fun j => q 121 j (Or.inl (by decide)))
    have q1 : s1 120 1 = σ 120 1 := q 120 1 (Or.inr (by decide))
    have q2 : s1 120 2 = p + 1 := by rw [← hz]; exact zu_e rfl
    have hmul : (10 * v + σ 121 p - 48 + 1) * 10 ^ m ≤ 1000000000 := Int.le_trans (Int.mul_le_mul_of_nonneg_right (show 10 * v + σ 121 p - 48 + 1 ≤ 10 * v + 9 + 1 by omega) (by omega)) hv10
    have IH := p_num12 (w := w) (lo := lo) (hi := hi) (x4 := x4) n (k + 1) (10 * v + σ 121 p - 48) (p + 1) s1 ⟨by rw [q1]; exact h2, by rw [q2]; omega, by rw [q1, q121]; exact h.2.2⟩ (by rw [q 120 3 (Or.inr (by decide))]; exact hs) q2 (by omega) hw (by omega) (by omega) (by rw [hm2]; exact hmul)
    rw [hm2, q121, q1, ← hstep] at IH
    exact IH.imp (fun r s pp => ⟨fun a j kk => (pp.1 a j kk).trans (q a j (by omega)), pp.2⟩)
theorem p_number {w lo hi : Int} {σ : zS} (h : tpI σ) (hs : σ 120 3 = -1) (hw : 0 ≤ w ∧ w ≤ 9) : zP' (g_ta_number w lo hi σ) (fun r s => frTa σ s ∧ r = (numF (σ 121) (σ 120 1) w.toNat (σ 120 2) 0).1 ∧ (((numF (σ 121) (σ 120 1) w.toNat (σ 120 2) 0).2 ≠ σ 120 2 ∧ lo ≤ r ∧ r ≤ hi → s 120 2 = (numF (σ 121) (σ 120 1) w.toNat (σ 120 2) 0).2 ∧ s 120 3 = -1) ∧ (¬ ((numF (σ 121) (σ 120 1) w.toNat (σ 120 2) 0).2 ≠ σ 120 2 ∧ lo ≤ r ∧ r ≤ hi) → s 120 3 = σ 120 2))) := by
  have hp : ∀ w : Fin 10, ((0 : Int) + 1) * 10 ^ (w.val - 0) ≤ 1000000000 := by decide
  have hp := hp ⟨w.toNat, by omega⟩
  exact p_num12 zK 0 0 (σ 120 2) σ h hs rfl (by omega) hw.2 (by omega) (by omega) hp
/-! the reference -/
theorem t_num84 {lo hi x : Int} {σ : zS} (hs : σ 143 22 < 0) : ∃ b s, g_m_isNumber_L84 lo hi x σ = some (b, s) ∧ fr3 σ s ∧ (lo ≤ σ 143 23 ∧ σ 143 23 ≤ hi → b = 1 ∧ s = σ) ∧ (¬ (lo ≤ σ 143 23 ∧ σ 143 23 ≤ hi) → b = 0 ∧ s 143 22 = x) := by
  unfold g_m_isNumber_L84
  try dsimp +instances only
  by_cases c : lo ≤ σ 143 23 ∧ σ 143 23 ≤ hi
  · rw [s_isIn_t c.1 c.2]
    rw [Option.bind_some]
    try dsimp +instances only
    rw [if_pos (by decide)]
    exact ⟨1, σ, rfl, fr3.refl σ, fun _ => ⟨rfl, rfl⟩, fun h => absurd c h⟩
  · rw [s_isIn_f (by omega)]
    rw [Option.bind_some]
    try dsimp +instances only
    rw [if_neg (by decide)]
    unfold g_m_fails
    try dsimp +instances only
    rw [if_neg (by omega)]
    rw [Option.bind_some]
    try dsimp +instances only
    rw [if_pos rfl]
    exact ⟨0, _, rfl, fr3.u (by omega), fun h => absurd h c, fun _ => ⟨rfl, zu_e rfl⟩⟩
theorem t_num33 {w lo hi x : Int} (hw : w ≤ 9) : ∀ (d k n : Nat) (v p : Int) (σ : zS), w.toNat = k + d → d < n → pI σ → σ 143 22 < 0 → σ 143 21 = p → σ 143 23 = v → 0 ≤ v → (v + 1) * 10 ^ d ≤ 1000000000 → (∀ j : Int, 0 ≤ j → j < σ 143 20 → 1 ≤ σ 159 j ∧ σ 159 j ≤ 127) → ∃ b s, g_m_isNumber_L33 n w lo hi x (k : Int) σ = some (b, s) ∧ fr3 σ s ∧ (lo ≤ (numF (σ 159) (σ 143 20) d p v).1 ∧ (numF (σ 159) (σ 143 20) d p v).1 ≤ hi → b = 1 ∧ s 143 21 = (numF (σ 159) (σ 143 20) d p v).2 ∧ s 143 23 = (numF (σ 159) (σ 143 20) d p v).1 ∧ s 143 22 = σ 143 22) ∧ (¬ (lo ≤ (numF (σ 159) (σ 143 20) d p v).1 ∧ (numF (σ 159) (σ 143 20) d p v).1 ≤ hi) → b = 0 ∧ s 143 22 = x)
  | _, _, 0, _, _, _, _, h, _, _, _, _, _, _, _ => absurd h (Nat.not_lt_zero _)
  | d, k, n + 1, v, p, σ, hk, hn, hI, hs, hp, hv, hv0, hb, hbt => by
    have fin : numF (σ 159) (σ 143 20) d p v = (v, p) → ∃ b s, g_m_isNumber_L84 lo hi x σ = some (b, s) ∧ fr3 σ s ∧ (lo ≤ (numF (σ 159) (σ 143 20) d p v).1 ∧ (numF (σ 159) (σ 143 20) d p v).1 ≤ hi → b = 1 ∧ s 143 21 = (numF (σ 159) (σ 143 20) d p v).2 ∧ s 143 23 = (numF (σ 159) (σ 143 20) d p v).1 ∧ s 143 22 = σ 143 22) ∧ (¬ (lo ≤ (numF (σ 159) (σ 143 20) d p v).1 ∧ (numF (σ 159) (σ 143 20) d p v).1 ≤ hi) → b = 0 ∧ s 143 22 = x) := fun e => by
      rw [e]
      obtain ⟨b, s, g1, g2, g3, g4⟩ := t_num84 (lo := lo) (hi := hi) (x := x) hs
      rw [hv] at g3 g4
      refine ⟨b, s, g1, g2, fun c => ?_, g4⟩
      obtain ⟨e1, e2⟩ := g3 c
      rw [e2]
      exact ⟨e1, hp, hv, rfl⟩
    unfold g_m_isNumber_L33
    by_cases c : w ≤ (k : Int)
    · rw [if_pos c]
      exact fin (by rw [show d = 0 by omega]; rfl)
    · rw [if_neg c]
      obtain ⟨m, rfl⟩ : ∃ m, d = m + 1 := ⟨d - 1, by omega⟩
      rw [s_here hI]
      rw [Option.bind_some]
      try dsimp +instances only
      rw [s_isFigure]
      rw [Option.bind_some]
      try dsimp +instances only
      have hH : hereC σ = if σ 143 20 ≤ p then -1 else σ 159 p := by
        unfold hereC
        rw [hp]
      by_cases cf : p < σ 143 20 ∧ 48 ≤ σ 159 p ∧ σ 159 p ≤ 57
      · have hh : hereC σ = σ 159 p := by rw [hH, if_neg (by omega)]
        rw [hh, if_pos cf.2, if_neg (by decide), s_here hI, hh]
        rw [Option.bind_some]
        try dsimp +instances only
        have hstep : numF (σ 159) (σ 143 20) (m + 1) p v = numF (σ 159) (σ 143 20) m (p + 1) (10 * v + σ 159 p - 48) := if_pos cf
        have hpow1 : (1 : Int) ≤ 10 ^ m := by
          have : (0 : Int) < 10 ^ m := Int.pow_pos (by decide)
          omega
        have hv10 : (10 * v + 9 + 1) * 10 ^ m ≤ 1000000000 := by
          have e : (10 * v + 9 + 1) * (10 : Int) ^ m = (v + 1) * 10 ^ (m + 1) := by
            rw [Int.pow_succ, Int.mul_comm (10 ^ m) 10, ← Int.mul_assoc]
            congr 1
            omega
          rw [e]
          exact hb
        have hle : 10 * v + 9 + 1 ≤ (10 * v + 9 + 1) * 10 ^ m := by
          have := Int.mul_le_mul_of_nonneg_left hpow1 (show 0 ≤ 10 * v + 9 + 1 by omega)
          omega
        have hI' := hI
        unfold pI at hI'
        rw [hv, w32_id (x := 10 * v) (by omega) (by omega), w32_id (x := 10 * v + σ 159 p) (by omega) (by omega), w32_id (x := 10 * v + σ 159 p - 48) (by omega) (by omega), zu_i (by decide), hp, w32_id (x := p + 1) (by omega) (by omega), w32_id (x := (k : Int) + 1) (by omega) (by omega), show (k : Int) + 1 = ((k + 1 : Nat) : Int) by omega]
        generalize hz : zu (zu σ 143 23 (10 * v + σ 159 p - 48)) 143 21 (p + 1) = s1
        have q : ∀ a j, (a ≠ 143 ∨ (j ≠ 21 ∧ j ≠ 23)) → s1 a j = σ a j := fun a j hh => by rw [← hz, zu_c (by omega), zu_c (by omega)]
        have q159 : s1 159 = σ 159 := funext (fun j => q 159 j (Or.inl (by decide)))
        have q20 : s1 143 20 = σ 143 20 := q 143 20 (Or.inr (by decide))
        have q22 : s1 143 22 = σ 143 22 := q 143 22 (Or.inr (by decide))
        have q21 : s1 143 21 = p + 1 := by rw [← hz]; exact zu_e rfl
        have q23 : s1 143 23 = 10 * v + σ 159 p - 48 := by rw [← hz, zu_i (by decide)]; exact zu_e rfl
        have hmul : (10 * v + σ 159 p - 48 + 1) * 10 ^ m ≤ 1000000000 := Int.le_trans (Int.mul_le_mul_of_nonneg_right (show 10 * v + σ 159 p - 48 + 1 ≤ 10 * v + 9 + 1 by omega) (by omega)) hv10
        obtain ⟨b, s, g1, g2, g3, g4⟩ := t_num33 (w := w) (lo := lo) (hi := hi) (x := x) hw m (k + 1) n (10 * v + σ 159 p - 48) (p + 1) s1 (by omega) (by omega) (by unfold pI; rw [q20, q21]; omega) (by rw [q22]; exact hs) q21 q23 (by omega) hmul (by rw [q20, q159]; exact hbt)
        rw [q159, q20, ← hstep, q22] at g3
        rw [q159, q20, ← hstep] at g4
        exact ⟨b, s, g1, fun a j kk => (g2 a j kk).trans (q a j (by omega)), g3, g4⟩
      · have hn : ¬ (48 ≤ hereC σ ∧ hereC σ ≤ 57) := fun h => by
          rw [hH] at h
          by_cases cp : σ 143 20 ≤ p
          · rw [if_pos cp] at h
            exact absurd h (by omega)
          · rw [if_neg cp] at h
            exact cf ⟨by omega, h⟩
        rw [if_neg hn, if_pos rfl]
        exact fin (if_neg cf)
/-! behind a fault the class reads nothing more -/
theorem p_blame0 {x : Int} {σ : zS} (hs : σ 120 3 ≠ -1) : g_ta_blame x σ = some ((), σ) := by
  rw [p_blame, if_neg hs]
theorem p_wants0 {x : Int} {σ : zS} (hs : σ 120 3 ≠ -1) (hx : x ≠ 0) : g_ta_wants x σ = some ((), σ) := by
  unfold g_ta_wants
  rw [p_here0 hs]
  rw [Option.bind_some]
  try dsimp +instances only
  rw [if_pos (Ne.symm hx), p_blame0 hs]
  rfl
theorem p_takes0 {x : Int} {σ : zS} (hs : σ 120 3 ≠ -1) (hx : x ≠ 0) : g_ta_takes x σ = some (0, σ) := by
  unfold g_ta_takes
  rw [p_here0 hs]
  rw [Option.bind_some]
  try dsimp +instances only
  rw [if_neg (Ne.symm hx)]
theorem p_another0 {x : Int} {σ : zS} (hs : σ 120 3 ≠ -1) : g_ta_another x σ = some (0, σ) := by
  have e : g_ta_another_L15 σ = some (0, σ) := by
    unfold g_ta_another_L15
    rw [p_here0 hs]
    rw [Option.bind_some]
    try dsimp +instances only
    rw [if_pos rfl]
  unfold g_ta_another
  by_cases c : x = 0
  · rw [if_pos c]; exact e
  · rw [if_neg c, p_takes0 hs (by decide)]
    rw [Option.bind_some]
    try dsimp +instances only
    rw [if_pos rfl]
    exact e
theorem p_number0 {w lo hi : Int} {σ : zS} (hs : σ 120 3 ≠ -1) (hw : 0 < w) : zP' (g_ta_number w lo hi σ) (fun _ s => s = σ) := by
  have e : ∀ v, g_ta_number_L67 lo hi (σ 120 2) v σ = some (v, σ) := fun v => by
    unfold g_ta_number_L67 g_ta_number_L88
    try dsimp +instances only
    rw [if_pos rfl, p_blame0 hs]
    rfl
  unfold g_ta_number
  show zP' (g_ta_number_L12 (999999 + 1) w lo hi (σ 120 2) 0 0 σ) _
  unfold g_ta_number_L12
  rw [if_neg (by omega), p_here0 hs]
  rw [Option.bind_some]
  try dsimp +instances only
  rw [if_pos (by decide), e]
  exact zP'.ret rfl
/-! the reference's number and sign, from their heads -/
theorem numF_le {f : Int → Int} {L : Int} : ∀ (w : Nat) (p v : Int), p ≤ (numF f L w p v).2
  | 0, p, v => Int.le_refl p
  | w + 1, p, v => by
    show p ≤ (if p < L ∧ 48 ≤ f p ∧ f p ≤ 57 then numF f L w (p + 1) (10 * v + f p - 48) else (v, p)).2
    split
    · have := numF_le (f := f) (L := L) w (p + 1) (10 * v + f p - 48)
      omega
    · exact Int.le_refl p
def tpR (σ : zS) : Prop := ∀ j : Int, 0 ≤ j → j < σ 143 20 → 1 ≤ σ 159 j ∧ σ 159 j ≤ 127
theorem t_number {w lo hi : Int} {σ : zS} (hI : pI σ) (hs : σ 143 22 < 0) (hw : 1 ≤ w ∧ w ≤ 9) (hbt : tpR σ) : ∃ b s, g_m_isNumber w lo hi σ = some (b, s) ∧ fr3 σ s ∧ ((numF (σ 159) (σ 143 20) w.toNat (σ 143 21) 0).2 ≠ σ 143 21 ∧ lo ≤ (numF (σ 159) (σ 143 20) w.toNat (σ 143 21) 0).1 ∧ (numF (σ 159) (σ 143 20) w.toNat (σ 143 21) 0).1 ≤ hi → b = 1 ∧ s 143 21 = (numF (σ 159) (σ 143 20) w.toNat (σ 143 21) 0).2 ∧ s 143 23 = (numF (σ 159) (σ 143 20) w.toNat (σ 143 21) 0).1 ∧ s 143 22 = σ 143 22) ∧ (¬ ((numF (σ 159) (σ 143 20) w.toNat (σ 143 21) 0).2 ≠ σ 143 21 ∧ lo ≤ (numF (σ 159) (σ 143 20) w.toNat (σ 143 21) 0).1 ∧ (numF (σ 159) (σ 143 20) w.toNat (σ 143 21) 0).1 ≤ hi) → b = 0 ∧ s 143 22 = σ 143 21) := by
  obtain ⟨m, hm⟩ : ∃ m, w.toNat = m + 1 := ⟨w.toNat - 1, by omega⟩
  generalize hz : zu σ 143 23 0 = s1
  have q : ∀ a j, (a ≠ 143 ∨ j ≠ 23) → s1 a j = σ a j := fun a j hh => by rw [← hz]; exact zu_c hh
  have q159 : s1 159 = σ 159 := funext (fun j => q 159 j (Or.inl (by decide)))
  have q20 : s1 143 20 = σ 143 20 := q 143 20 (Or.inr (by decide))
  have q21 : s1 143 21 = σ 143 21 := q 143 21 (Or.inr (by decide))
  have q22 : s1 143 22 = σ 143 22 := q 143 22 (Or.inr (by decide))
  have hI1 : pI s1 := by
    unfold pI at hI ⊢
    rw [q20, q21]
    exact hI
  have f1 : fr3 σ s1 := fun a j k => q a j (by omega)
  unfold g_m_isNumber
  try dsimp +instances only
  rw [hz, s_here hI1]
  rw [Option.bind_some]
  try dsimp +instances only
  rw [s_isFigure]
  rw [Option.bind_some]
  try dsimp +instances only
  have hH : hereC s1 = if σ 143 20 ≤ σ 143 21 then -1 else σ 159 (σ 143 21) := by
    unfold hereC
    rw [q20, q21, q159]
  by_cases cf : σ 143 21 < σ 143 20 ∧ 48 ≤ σ 159 (σ 143 21) ∧ σ 159 (σ 143 21) ≤ 57
  · have hh : hereC s1 = σ 159 (σ 143 21) := by rw [hH, if_neg (by omega)]
    rw [hh, if_pos cf.2, if_pos (by decide)]
    have hp : ∀ w : Fin 10, ((0 : Int) + 1) * 10 ^ w.val ≤ 1000000000 := by decide
    obtain ⟨b, s, g1, g2, g3, g4⟩ := t_num33 (w := w) (lo := lo) (hi := hi) (x := σ 143 21) hw.2 w.toNat 0 zK 0 (σ 143 21) s1 (by omega) (by show _ < 1000000; omega) hI1 (by rw [q22]; exact hs) q21 (by rw [← hz]; exact zu_e rfl) (by omega) (hp ⟨w.toNat, by omega⟩) (by rw [q20, q159]; exact hbt)
    rw [q159, q20, q22] at g3
    rw [q159, q20] at g4
    have hne : (numF (σ 159) (σ 143 20) w.toNat (σ 143 21) 0).2 ≠ σ 143 21 := by
      rw [hm]
      have e : numF (σ 159) (σ 143 20) (m + 1) (σ 143 21) 0 = numF (σ 159) (σ 143 20) m (σ 143 21 + 1) (10 * 0 + σ 159 (σ 143 21) - 48) := if_pos cf
      rw [e]
      have := numF_le (f := σ 159) (L := σ 143 20) m (σ 143 21 + 1) (10 * 0 + σ 159 (σ 143 21) - 48)
      omega
    exact ⟨b, s, g1, f1.trans g2, fun h => g3 h.2, fun h => g4 (fun h2 => h ⟨hne, h2⟩)⟩
  · have hn : ¬ (48 ≤ hereC s1 ∧ hereC s1 ≤ 57) := fun h => by
      rw [hH] at h
      by_cases cp : σ 143 20 ≤ σ 143 21
      · rw [if_pos cp] at h
        exact absurd h (by omega)
      · rw [if_neg cp] at h
        exact cf ⟨by omega, h⟩
    have e : numF (σ 159) (σ 143 20) w.toNat (σ 143 21) 0 = (0, σ 143 21) := by
      rw [hm]
      exact if_neg cf
    rw [if_neg hn, if_neg (by decide), e]
    unfold g_m_fails
    try dsimp +instances only
    rw [q22, if_neg (by omega)]
    rw [Option.bind_some]
    try dsimp +instances only
    rw [if_pos (Or.inl rfl), q21]
    exact ⟨0, _, rfl, f1.trans (fr3.u (by omega)), fun h => absurd rfl h.1, fun _ => ⟨rfl, zu_e rfl⟩⟩
theorem t_isSign {x : Int} {σ : zS} (hI : pI σ) (hs : σ 143 22 < 0) (hx : 1 ≤ x) : ∃ b s, g_m_isSign x σ = some (b, s) ∧ fr3 σ s ∧ (hereC σ = x → b = 1 ∧ s 143 21 = σ 143 21 + 1 ∧ s 143 22 = σ 143 22) ∧ (hereC σ ≠ x → b = 0 ∧ s 143 22 = σ 143 21) := by
  unfold g_m_isSign
  rw [s_here hI]
  rw [Option.bind_some]
  try dsimp +instances only
  by_cases c : hereC σ = x
  · have hp := hereC_lt c (by omega)
    have hI' := hI
    unfold pI at hI'
    rw [if_pos c, w32_id (x := σ 143 21 + 1) (by omega) (by omega)]
    exact ⟨1, _, rfl, fr3.u (by omega), fun _ => ⟨rfl, zu_e rfl, zu_i (by decide)⟩, fun h => absurd c h⟩
  · rw [if_neg c]
    unfold g_m_fails
    try dsimp +instances only
    rw [if_neg (by omega)]
    rw [Option.bind_some]
    try dsimp +instances only
    rw [if_pos (Or.inl rfl)]
    exact ⟨0, _, rfl, fr3.u (by omega), fun h => absurd h c, fun _ => ⟨rfl, zu_e rfl⟩⟩
theorem p_takes {x : Int} {σ : zS} (h : tpI σ) (hs : σ 120 3 = -1) (hx : 1 ≤ x) : g_ta_takes x σ = some (if tpH σ = x then 1 else 0, if tpH σ = x then zu σ 120 2 (σ 120 2 + 1) else σ) := by
  unfold g_ta_takes
  rw [p_here h hs]
  rw [Option.bind_some]
  try dsimp +instances only
  by_cases c : tpH σ = x
  · rw [if_pos c, if_pos c, if_pos c, w32_id (x := σ 120 2 + 1) (by have := h.2.1; omega) (by have := h.2.1; omega)]
  · rw [if_neg c, if_neg c, if_neg c]
end
section
/-! 69.word -/
/-! READING THE TAPE: words, told once for both sides -/
def wend (f : Int → Int) (L : Int) : Nat → Int → Int
  | 0, p => p
  | n + 1, p => if p < L ∧ 97 ≤ f p ∧ f p ≤ 122 then wend f L n (p + 1) else p
theorem wend_le {f : Int → Int} {L : Int} : ∀ (n : Nat) (p : Int), p ≤ wend f L n p
  | 0, p => Int.le_refl p
  | n + 1, p => by
    show p ≤ (if p < L ∧ 97 ≤ f p ∧ f p ≤ 122 then wend f L n (p + 1) else p)
    split
    · have := wend_le (f := f) (L := L) n (p + 1)
      omega
    · exact Int.le_refl p
theorem wend_L {f : Int → Int} {L : Int} : ∀ (n : Nat) (p : Int), p ≤ L → wend f L n p ≤ L
  | 0, p, h => h
  | n + 1, p, h => by
    show (if p < L ∧ 97 ≤ f p ∧ f p ≤ 122 then wend f L n (p + 1) else p) ≤ L
    split
    · rename_i c
      exact wend_L n (p + 1) (by omega)
    · exact h
theorem wend_ext {f g : Int → Int} {L : Int} : ∀ (n : Nat) (p : Int), (∀ j, p ≤ j → j < L → f j = g j) → wend f L n p = wend g L n p
  | 0, _, _ => rfl
  | n + 1, p, h => by
    show (if p < L ∧ 97 ≤ f p ∧ f p ≤ 122 then wend f L n (p + 1) else p) = (if p < L ∧ 97 ≤ g p ∧ g p ≤ 122 then wend g L n (p + 1) else p)
    by_cases c : p < L
    · rw [h p (Int.le_refl p) c, wend_ext n (p + 1) (fun j h1 h2 => h j (by omega) h2)]
    · rw [if_neg (fun e => c e.1), if_neg (fun e => c e.1)]
/-- n signs of a row from i on are those of the tape from b on -/
def wsm (c f : Int → Int) : Nat → Int → Int → Bool
  | 0, _, _ => true
  | n + 1, b, i => decide (f b = c i) && wsm c f n (b + 1) (i + 1)
theorem wsm_ext {c c' f g : Int → Int} : ∀ (n : Nat) (b i : Int), (∀ j, b ≤ j → j < b + (n : Int) → f j = g j) → (∀ j, i ≤ j → j < i + (n : Int) → c j = c' j) → wsm c f n b i = wsm c' g n b i
  | 0, _, _, _, _ => rfl
  | n + 1, b, i, h, h2 => by
    show (decide (f b = c i) && wsm c f n (b + 1) (i + 1)) = (decide (g b = c' i) && wsm c' g n (b + 1) (i + 1))
    rw [h b (by omega) (by omega), h2 i (by omega) (by omega), wsm_ext n (b + 1) (i + 1) (fun j h3 h4 => h j (by omega) (by omega)) (fun j h3 h4 => h2 j (by omega) (by omega))]
def wsE (c f : Int → Int) (b e st i : Int) : Bool := decide (e - b = i - st) && wsm c f (i - st).toNat b st
/-- which word of a row of n signs more, from i on, the word begun at st, the which-th -/
def wordG (c f : Int → Int) (b e : Int) : Nat → Int → Int → Int → Int
  | 0, i, st, w => if wsE c f b e st i = true then w else -1
  | n + 1, i, st, w => if c i = 32 then (if wsE c f b e st i = true then w else wordG c f b e n (i + 1) (i + 1) (w + 1)) else wordG c f b e n (i + 1) st w
def wordV (a Ln : Nat) (f : Int → Int) (L p : Int) : Int := wordG (charC a) f p (wend f L 160 p) Ln 0 0 0
theorem wordG_ge {c f : Int → Int} {b e : Int} : ∀ (n : Nat) (i st w : Int), wordG c f b e n i st w = -1 ∨ w ≤ wordG c f b e n i st w
  | 0, i, st, w => by
    show (if wsE c f b e st i = true then w else -1) = -1 ∨ w ≤ (if wsE c f b e st i = true then w else -1)
    split
    · exact Or.inr (Int.le_refl w)
    · exact Or.inl rfl
  | n + 1, i, st, w => by
    show (if c i = 32 then (if wsE c f b e st i = true then w else wordG c f b e n (i + 1) (i + 1) (w + 1)) else wordG c f b e n (i + 1) st w) = -1 ∨ w ≤ (if c i = 32 then (if wsE c f b e st i = true then w else wordG c f b e n (i + 1) (i + 1) (w + 1)) else wordG c f b e n (i + 1) st w)
    split
    · split
      · exact Or.inr (Int.le_refl w)
      · rcases wordG_ge (c := c) (f := f) (b := b) (e := e) n (i + 1) (i + 1) (w + 1) with h | h
        · exact Or.inl h
        · exact Or.inr (by omega)
    · exact wordG_ge n (i + 1) st w
theorem wordG_ext {c c' f g : Int → Int} {b e : Int} (h : ∀ j, b ≤ j → j < e → f j = g j) : ∀ (n : Nat) (i st w : Int), st ≤ i → (∀ j, st ≤ j → j < i + (n : Int) → c j = c' j) → wordG c f b e n i st w = wordG c' g b e n i st w := by
  have hE : ∀ st i : Int, st ≤ i → (∀ j, st ≤ j → j < i → c j = c' j) → wsE c f b e st i = wsE c' g b e st i := fun st i hs h2 => by
    unfold wsE
    by_cases ce : e - b = i - st
    · rw [wsm_ext (i - st).toNat b st (fun j h3 h4 => h j h3 (by omega)) (fun j h3 h4 => h2 j h3 (by omega))]
    · rw [decide_eq_false ce, Bool.false_and, Bool.false_and]
  intro n
  induction n with
  | zero =>
    intro i st w hs h2
    show (if wsE c f b e st i = true then w else -1) = (if wsE c' g b e st i = true then w else -1)
    rw [hE st i hs (fun j h3 h4 => h2 j h3 (by omega))]
  | succ n ih =>
    intro i st w hs h2
    show (if c i = 32 then (if wsE c f b e st i = true then w else wordG c f b e n (i + 1) (i + 1) (w + 1)) else wordG c f b e n (i + 1) st w) = (if c' i = 32 then (if wsE c' g b e st i = true then w else wordG c' g b e n (i + 1) (i + 1) (w + 1)) else wordG c' g b e n (i + 1) st w)
    rw [hE st i hs (fun j h3 h4 => h2 j h3 (by omega)), h2 i hs (by omega), ih (i + 1) (i + 1) (w + 1) (Int.le_refl _) (fun j h3 h4 => h2 j (by omega) (by omega)), ih (i + 1) st w (by omega) (fun j h3 h4 => h2 j h3 (by omega))]
theorem wordV_ext {a a' Ln : Nat} {f g : Int → Int} {L p : Int} (hp : p ≤ L) (h : ∀ j, p ≤ j → j < L → f j = g j) (hc : ∀ j : Int, 0 ≤ j → j < (Ln : Int) → charC a j = charC a' j) : wordV a Ln f L p = wordV a' Ln g L p := by
  unfold wordV
  rw [wend_ext 160 p h]
  exact wordG_ext (fun j h1 h2 => h j h1 (by have := wend_L (f := g) (L := L) 160 p hp; omega)) Ln 0 0 0 (Int.le_refl 0) (fun j h1 h2 => hc j h1 (by omega))
/-- the tape of the class, its place not behind its end -/
def tpL (σ : zS) : Prop := (0 ≤ σ 120 1 ∧ σ 120 1 ≤ 160) ∧ (0 ≤ σ 120 2 ∧ σ 120 2 ≤ σ 120 1) ∧ ∀ j : Int, 0 ≤ j → j < σ 120 1 → 1 ≤ σ 121 j ∧ σ 121 j ≤ 127
theorem tpL.i {σ : zS} (h : tpL σ) : tpI σ := ⟨h.1, ⟨h.2.1.1, Int.le_trans h.2.1.2 h.1.2⟩, h.2.2⟩
theorem tpL.mv {σ s : zS} (h : tpL σ) (e : frTa σ s) (h2 : 0 ≤ s 120 2 ∧ s 120 2 ≤ σ 120 1) : tpL s := by
  have e1 : s 120 1 = σ 120 1 := e 120 1 (Or.inr (by decide))
  have e2 : s 121 = σ 121 := funext (fun j => e 121 j (Or.inl (by decide)))
  unfold tpL
  rw [e1, e2]
  exact ⟨h.1, h2, h.2.2⟩
/-! the class's word -/
def swk (a Ln : Nat) : Prop := zLI (a + 18) = (Ln : Int) ∧ iShr (zLI (a + 18)) 0 = zLI (a + 18) ∧ Ln ≤ 100
theorem p_same40 {a Ln : Nat} (hw : swk a Ln) {i j b : Int} {σ : zS} (hi : 0 ≤ i ∧ i ≤ j ∧ j ≤ (Ln : Int)) (hb : 0 ≤ b ∧ b + (j - i) ≤ 160) : ∀ (n k : Nat), (k : Int) ≤ j - i → zP' (g_ta_isSame_L40 a n i j b (k : Int) σ) (fun v s => s = σ ∧ v = bI (wsm (charC a) (σ 121) (j - i - (k : Int)).toNat (b + (k : Int)) (i + (k : Int))))
  | 0, _, _ => zP'.no
  | n + 1, k, hk => by
    obtain ⟨w1, w2, w3⟩ := hw
    unfold g_ta_isSame_L40
    rw [w32_id (x := j - i) (by omega) (by omega)]
    refine zP'.ite (fun c => zP'.ret ⟨rfl, ?_⟩) (fun c => ?_)
    · rw [show (j - i - (k : Int)).toNat = 0 by omega]
      rfl
    · obtain ⟨m, hm⟩ : ∃ m, (j - i - (k : Int)).toNat = m + 1 := ⟨(j - i - (k : Int)).toNat - 1, by omega⟩
      have hm2 : (j - i - ((k + 1 : Nat) : Int)).toNat = m := by omega
      rw [s_length w2]
      rw [Option.bind_some]
      try dsimp +instances only
      rw [w32_id (x := i + (k : Int)) (by omega) (by omega), if_neg (by omega)]
      refine zP'.gd (fun _ => ?_)
      try dsimp +instances only
      rw [w32_id (x := b + (k : Int)) (by omega) (by omega), s_charAt (by omega)]
      rw [Option.bind_some]
      try dsimp +instances only
      rw [hm]
      refine zP'.ite (fun c2 => ?_) (fun c2 => zP'.ret ⟨rfl, ?_⟩)
      · rw [w32_id (x := (k : Int) + 1) (by omega) (by omega), show (k : Int) + 1 = ((k + 1 : Nat) : Int) by omega]
        refine (p_same40 ⟨w1, w2, w3⟩ hi hb n (k + 1) (by omega)).imp (fun v s p => ⟨p.1, ?_⟩)
        rw [p.2, hm2]
        show _ = bI (decide (σ 121 (b + (k : Int)) = charC a (i + (k : Int))) && wsm (charC a) (σ 121) m (b + (k : Int) + 1) (i + (k : Int) + 1))
        rw [decide_eq_true c2, Bool.true_and, show b + ((k + 1 : Nat) : Int) = b + (k : Int) + 1 by omega, show i + ((k + 1 : Nat) : Int) = i + (k : Int) + 1 by omega]
      · show 0 = bI (decide (σ 121 (b + (k : Int)) = charC a (i + (k : Int))) && wsm (charC a) (σ 121) m (b + (k : Int) + 1) (i + (k : Int) + 1))
        rw [decide_eq_false c2, Bool.false_and]
        rfl
theorem p_same {a Ln : Nat} (hw : swk a Ln) {i j b : Int} {σ : zS} (hs : σ 120 3 = -1) (hi : 0 ≤ i ∧ i ≤ j ∧ j ≤ (Ln : Int)) (hb : 0 ≤ b ∧ b ≤ σ 120 2 ∧ σ 120 2 ≤ 160) : zP' (g_ta_isSame a i j b σ) (fun v s => s = σ ∧ v = bI (wsE (charC a) (σ 121) b (σ 120 2) i j)) := by
  have w3 := hw.2.2
  unfold g_ta_isSame
  have e : g_ta_isSound σ = some (1, σ) := by
    unfold g_ta_isSound
    exact if_neg (fun h => h hs)
  rw [e]
  rw [Option.bind_some]
  try dsimp +instances only
  rw [if_neg (by decide), if_neg (by omega), if_neg (by omega), w32_id (x := σ 120 2 - b) (by omega) (by omega), w32_id (x := j - i) (by omega) (by omega)]
  unfold wsE
  refine zP'.ite (fun c => ?_) (fun c => zP'.ret ⟨rfl, ?_⟩)
  · refine (p_same40 hw (σ := σ) (i := i) (j := j) (b := b) hi ⟨hb.1, by omega⟩ zK 0 (by omega)).imp (fun v s p => ⟨p.1, ?_⟩)
    rw [p.2, decide_eq_true c, Bool.true_and, show j - i - ((0 : Nat) : Int) = j - i by omega, show b + ((0 : Nat) : Int) = b by omega, show i + ((0 : Nat) : Int) = i by omega]
  · rw [decide_eq_false c, Bool.false_and]
    rfl
theorem p_word56 {a Ln : Nat} (hw : swk a Ln) {b : Int} {σ : zS} (hs : σ 120 3 = -1) (hb : 0 ≤ b ∧ b ≤ σ 120 2 ∧ σ 120 2 ≤ 160) : ∀ (n d : Nat) (w st i : Int), 0 ≤ st ∧ st ≤ i → i + (d : Int) = (Ln : Int) → 0 ≤ w ∧ w ≤ i → zP' (g_ta_word_L56 a n b w st i σ) (fun v s => v = wordG (charC a) (σ 121) b (σ 120 2) d i st w ∧ (v = -1 → s = zu σ 120 3 b) ∧ (v ≠ -1 → s = σ))
  | 0, _, _, _, _, _, _, _ => zP'.no
  | n + 1, d, w, st, i, hst, hi, hwh => by
    have w1 := hw.1
    have w2 := hw.2.1
    have w3 := hw.2.2
    have stop : ∀ (w' st' i' : Int), (Ln : Int) < i' → zP' (g_ta_word_L56 a n b w' st' i' σ) (fun v s => v = -1 ∧ s = zu σ 120 3 b) := fun w' st' i' hh => by
      cases n with
      | zero => exact zP'.no
      | succ n =>
        unfold g_ta_word_L56
        rw [s_length w2]
        rw [Option.bind_some]
        try dsimp +instances only
        rw [if_pos (by omega), p_blame, if_pos hs]
        rw [Option.bind_some]
        exact zP'.ret ⟨rfl, rfl⟩
    unfold g_ta_word_L56
    rw [s_length w2]
    rw [Option.bind_some]
    try dsimp +instances only
    rw [if_neg (by omega), s_length w2]
    rw [Option.bind_some]
    try dsimp +instances only
    have es := w32_id (x := i + 1) (by omega) (by omega)
    have ew := w32_id (x := w + 1) (by omega) (by omega)
    cases d with
    | zero =>
      rw [if_pos (by omega)]
      unfold g_ta_word_L85
      refine zP'.bind (p_same hw hs (i := st) (j := i) (b := b) ⟨hst.1, hst.2, by omega⟩ hb) (fun v s p => ?_)
      obtain ⟨p1, p2⟩ := p
      try dsimp +instances only
      rw [p1, p2]
      show zP' _ (fun v s => v = (if wsE (charC a) (σ 121) b (σ 120 2) st i = true then w else -1) ∧ (v = -1 → s = zu σ 120 3 b) ∧ (v ≠ -1 → s = σ))
      cases hE : wsE (charC a) (σ 121) b (σ 120 2) st i with
      | true =>
        rw [if_neg (by decide), if_pos rfl]
        exact zP'.ret ⟨rfl, fun h => by omega, fun _ => rfl⟩
      | false =>
        rw [if_pos (by decide), if_neg (by decide)]
        unfold g_ta_word_L109
        rw [es, ew]
        exact (stop (w + 1) (i + 1) (i + 1) (by omega)).imp (fun v s q => ⟨q.1, fun _ => q.2, fun h => absurd q.1 h⟩)
    | succ d =>
      rw [if_neg (by omega), s_charAt (by omega)]
      rw [Option.bind_some]
      try dsimp +instances only
      show zP' _ (fun v s => v = (if charC a i = 32 then (if wsE (charC a) (σ 121) b (σ 120 2) st i = true then w else wordG (charC a) (σ 121) b (σ 120 2) d (i + 1) (i + 1) (w + 1)) else wordG (charC a) (σ 121) b (σ 120 2) d (i + 1) st w) ∧ (v = -1 → s = zu σ 120 3 b) ∧ (v ≠ -1 → s = σ))
      refine zP'.ite (fun c => ?_) (fun c => ?_)
      · rw [if_neg c]
        unfold g_ta_word_L109
        rw [es]
        exact p_word56 hw hs hb n d w st (i + 1) ⟨hst.1, by omega⟩ (by omega) ⟨hwh.1, by omega⟩
      · have c : charC a i = 32 := Classical.byContradiction (fun h => c h)
        rw [if_pos c]
        unfold g_ta_word_L85
        refine zP'.bind (p_same hw hs (i := st) (j := i) (b := b) ⟨hst.1, hst.2, by omega⟩ hb) (fun v s p => ?_)
        obtain ⟨p1, p2⟩ := p
        try dsimp +instances only
        rw [p1, p2]
        cases hE : wsE (charC a) (σ 121) b (σ 120 2) st i with
        | true =>
          rw [if_neg (by decide), if_pos rfl]
          exact zP'.ret ⟨rfl, fun h => by omega, fun _ => rfl⟩
        | false =>
          rw [if_pos (by decide), if_neg (by decide)]
          unfold g_ta_word_L109
          rw [es, ew]
          exact p_word56 hw hs hb n d (w + 1) (i + 1) (i + 1) ⟨by omega, by omega⟩ (by omega) ⟨by omega, by omega⟩
theorem p_word7 {a : Nat} {b : Int} {Q : Int → zS → Prop} : ∀ (n k : Nat) (σ : zS), tpL σ → σ 120 3 = -1 → k ≤ 160 → (∀ s, frTa σ s → s 120 3 = -1 → s 120 2 = wend (σ 121) (σ 120 1) (160 - k) (σ 120 2) → zP' (g_ta_word_L48 a b s) Q) → zP' (g_ta_word_L7 a n b (k : Int) σ) Q
  | 0, _, _, _, _, _, _ => zP'.no
  | n + 1, k, σ, h, hs, hk, kk => by
    have fin : wend (σ 121) (σ 120 1) (160 - k) (σ 120 2) = σ 120 2 → zP' (g_ta_word_L48 a b σ) Q := fun e => kk σ (frTa.refl σ) hs e.symm
    unfold g_ta_word_L7
    refine zP'.ite (fun c => fin (by rw [show 160 - k = 0 by omega]; rfl)) (fun c => ?_)
    obtain ⟨m, hm⟩ : ∃ m, 160 - k = m + 1 := ⟨160 - k - 1, by omega⟩
    have hm2 : 160 - (k + 1) = m := by omega
    have hstop : ¬ (σ 120 2 < σ 120 1 ∧ 97 ≤ σ 121 (σ 120 2) ∧ σ 121 (σ 120 2) ≤ 122) → wend (σ 121) (σ 120 1) (160 - k) (σ 120 2) = σ 120 2 := fun hn => by
      rw [hm]
      exact if_neg hn
    have hH : tpH σ = if σ 120 2 < σ 120 1 then σ 121 (σ 120 2) else 0 := rfl
    rw [p_here h.i hs]
    rw [Option.bind_some]
    try dsimp +instances only
    refine zP'.ite (fun c1 => fin (hstop (fun hn => by rw [hH, if_pos hn.1] at c1; omega))) (fun c1 => ?_)
    rw [p_here h.i hs]
    rw [Option.bind_some]
    try dsimp +instances only
    refine zP'.ite (fun c2 => fin (hstop (fun hn => by rw [hH, if_pos hn.1] at c2; omega))) (fun c2 => ?_)
    have hpl : σ 120 2 < σ 120 1 := by
      by_cases cp : σ 120 2 < σ 120 1
      · exact cp
      · rw [hH, if_neg cp] at c1
        exact absurd c1 (by omega)
    rw [hH, if_pos hpl] at c1 c2
    have h1 := h.1
    have h2 := h.2.1
    rw [w32_id (x := σ 120 2 + 1) (by omega) (by omega), w32_id (x := (k : Int) + 1) (by omega) (by omega), show (k : Int) + 1 = ((k + 1 : Nat) : Int) by omega]
    generalize hz : zu σ 120 2 (σ 120 2 + 1) = s1
    have f1 : frTa σ s1 := by rw [← hz]; exact frTa.u (Or.inl rfl)
    have q1 : s1 120 1 = σ 120 1 := f1 120 1 (Or.inr (by decide))
    have q2 : s1 120 2 = σ 120 2 + 1 := by rw [← hz]; exact zu_e rfl
    have q3 : s1 120 3 = -1 := by rw [← hz, zu_i (by decide)]; exact hs
    have q121 : s1 121 = σ 121 := funext (fun j => f1 121 j (Or.inl (by decide)))
    refine p_word7 n (k + 1) s1 (h.mv f1 (by rw [q2]; omega)) q3 (by omega) (fun s g1 g2 g3 => kk s (f1.trans g1) g2 ?_)
    rw [g3, q121, q1, q2, hm2, hm]
    exact (if_pos ⟨hpl, by omega, by omega⟩).symm
theorem p_word {a Ln : Nat} (hw : swk a Ln) {σ : zS} (h : tpL σ) (hs : σ 120 3 = -1) : zP' (g_ta_word a σ) (fun v s => frTa σ s ∧ v = wordV a Ln (σ 121) (σ 120 1) (σ 120 2) ∧ (v = -1 → s 120 3 = σ 120 2) ∧ (v ≠ -1 → s 120 2 = wend (σ 121) (σ 120 1) 160 (σ 120 2) ∧ s 120 3 = -1)) := by
  have h1 := h.1
  have h2 := h.2.1
  unfold g_ta_word
  refine p_word7 zK 0 σ h hs (by omega) (fun s g1 g2 g3 => ?_)
  have g3 : s 120 2 = wend (σ 121) (σ 120 1) 160 (σ 120 2) := g3
  have l1 := wend_le (f := σ 121) (L := σ 120 1) 160 (σ 120 2)
  have l2 := wend_L (f := σ 121) (L := σ 120 1) 160 (σ 120 2) h2.2
  have q121 : s 121 = σ 121 := funext (fun j => g1 121 j (Or.inl (by decide)))
  unfold g_ta_word_L48
  refine (p_word56 hw (b := σ 120 2) g2 ⟨h2.1, by omega, by omega⟩ zK Ln 0 0 0 ⟨by omega, by omega⟩ (by omega) ⟨by omega, by omega⟩).imp (fun v t p => ?_)
  obtain ⟨p1, p2, p3⟩ := p
  rw [q121, g3] at p1
  refine ⟨?_, p1, fun e => ?_, fun e => ?_⟩
  · by_cases e : v = -1
    · rw [p2 e]
      exact g1.trans (frTa.u (Or.inr rfl))
    · rw [p3 e]
      exact g1
  · rw [p2 e]
    exact zu_e rfl
  · rw [p3 e]
    exact ⟨g3, g2⟩
theorem p_word0 {a Ln : Nat} (hw : swk a Ln) {σ : zS} (hs : σ 120 3 ≠ -1) : zP' (g_ta_word a σ) (fun v s => s = σ ∧ v = -1) := by
  have w1 := hw.1
  have w2 := hw.2.1
  have w3 := hw.2.2
  have e : ∀ i j b, g_ta_isSame a i j b σ = some (0, σ) := fun i j b => by
    unfold g_ta_isSame
    have e : g_ta_isSound σ = some (0, σ) := by
      unfold g_ta_isSound
      exact if_pos hs
    rw [e]
    rw [Option.bind_some]
    try dsimp +instances only
    rw [if_pos rfl]
  have lp : ∀ (n : Nat) (b w st i : Int), 0 ≤ i → zP' (g_ta_word_L56 a n b w st i σ) (fun v s => s = σ ∧ v = -1) := by
    intro n
    induction n with
    | zero => exact fun _ _ _ _ _ => zP'.no
    | succ n ih =>
      intro b w st i hi
      unfold g_ta_word_L56
      rw [s_length w2]
      rw [Option.bind_some]
      try dsimp +instances only
      refine zP'.ite (fun c => ?_) (fun c => ?_)
      · rw [p_blame0 hs]
        rw [Option.bind_some]
        exact zP'.ret ⟨rfl, rfl⟩
      · have es := w32_id (x := i + 1) (by omega) (by omega)
        rw [s_length w2]
        rw [Option.bind_some]
        try dsimp +instances only
        have g : zP' (g_ta_word_L85 a (g_ta_word_L56 a n) b w st i σ) (fun v s => s = σ ∧ v = -1) := by
          unfold g_ta_word_L85
          rw [e]
          rw [Option.bind_some]
          try dsimp +instances only
          rw [if_pos rfl]
          unfold g_ta_word_L109
          rw [es]
          exact ih _ _ _ _ (by omega)
        refine zP'.ite (fun _ => g) (fun c2 => ?_)
        rw [s_charAt (by omega)]
        rw [Option.bind_some]
        try dsimp +instances only
        refine zP'.ite (fun _ => ?_) (fun _ => g)
        unfold g_ta_word_L109
        rw [es]
        exact ih _ _ _ _ (by omega)
  unfold g_ta_word
  show zP' (g_ta_word_L7 a (999999 + 1) (σ 120 2) 0 σ) _
  unfold g_ta_word_L7
  rw [if_neg (by decide), p_here0 hs]
  rw [Option.bind_some]
  try dsimp +instances only
  rw [if_pos (by decide)]
  unfold g_ta_word_L48
  exact lp _ _ _ _ _ (Int.le_refl 0)
/-! the reference's word -/
def tpP (σ : zS) : Prop := (0 ≤ σ 143 20 ∧ σ 143 20 ≤ 160) ∧ (0 ≤ σ 143 21 ∧ σ 143 21 ≤ σ 143 20) ∧ tpR σ
theorem tpP.i {σ : zS} (h : tpP σ) : pI σ := ⟨h.1.1, h.1.2, h.2.1.1⟩
theorem tpP.mv {σ s : zS} (h : tpP σ) (e1 : s 143 20 = σ 143 20) (e2 : s 159 = σ 159) (h2 : 0 ≤ s 143 21 ∧ s 143 21 ≤ σ 143 20) : tpP s := by
  unfold tpP tpR
  rw [e1, e2]
  exact ⟨h.1, h2, h.2.2⟩
theorem t_wordEnd5 {σ : zS} (h : tpP σ) : ∀ (n m : Nat) (k : Int), 0 ≤ k → k ≤ σ 143 20 → σ 143 20 - k ≤ (m : Int) → zP' (g_m_wordEnd_L5 n k σ) (fun e s => s = σ ∧ e = wend (σ 159) (σ 143 20) m k)
  | 0, _, _, _, _, _ => zP'.no
  | n + 1, m, k, h0, h1, hm => by
    have hh := h.1
    unfold g_m_wordEnd_L5
    try dsimp +instances only
    have hstop : ¬ (k < σ 143 20 ∧ 97 ≤ σ 159 k ∧ σ 159 k ≤ 122) → k = wend (σ 159) (σ 143 20) m k := fun hn => by
      cases m with
      | zero => rfl
      | succ m => exact (if_neg hn).symm
    refine zP'.ite (fun c => zP'.ret ⟨rfl, hstop (fun e => by omega)⟩) (fun c => ?_)
    rw [if_pos (by omega)]
    by_cases c2 : 97 ≤ σ 159 k ∧ σ 159 k ≤ 122
    · rw [s_isIn_t c2.1 c2.2]
      rw [Option.bind_some]
      try dsimp +instances only
      rw [if_neg (by decide), w32_id (x := k + 1) (by omega) (by omega)]
      obtain ⟨m, rfl⟩ : ∃ q, m = q + 1 := ⟨m - 1, by omega⟩
      refine (t_wordEnd5 h n m (k + 1) (by omega) (by omega) (by omega)).imp (fun e s p => ⟨p.1, p.2.trans ?_⟩)
      exact (if_pos ⟨by omega, c2.1, c2.2⟩).symm
    · rw [s_isIn_f (by omega)]
      rw [Option.bind_some]
      try dsimp +instances only
      rw [if_pos rfl]
      exact zP'.ret ⟨rfl, hstop (fun e => c2 e.2)⟩
theorem t_word75 {a Ln : Nat} (hw : swk a Ln) {g : Int → Int → Int → zS → Option (Int × zS)} {e w k len : Int} {σ : zS} {Q : Int → zS → Prop} (h : tpP σ) (hk : 0 ≤ k ∧ 0 ≤ len ∧ k + len ≤ (Ln : Int)) (hl : σ 143 21 + len ≤ 160) (yes : wsm (charC a) (σ 159) len.toNat (σ 143 21) k = true → Q w (zu σ 143 21 e)) (no : wsm (charC a) (σ 159) len.toNat (σ 143 21) k = false → zP' (g e (w32 (w + 1)) (w32 (k + w32 (len + 1))) σ) Q) : ∀ (n d : Nat) (j : Int), 0 ≤ j → j + (d : Int) = len → wsm (charC a) (σ 159) len.toNat (σ 143 21) k = wsm (charC a) (σ 159) d (σ 143 21 + j) (k + j) → zP' (g_m_word_L75 a g n e w k len 1 j σ) Q
  | 0, _, _, _, _, _ => zP'.no
  | n + 1, d, j, h0, hd, he => by
    have h1 := h.1
    have h2 := h.2.1
    have w1 := hw.1
    have w3 := hw.2.2
    have out : ∀ f : Int, (f = 0 → wsm (charC a) (σ 159) len.toNat (σ 143 21) k = false) → (f ≠ 0 → wsm (charC a) (σ 159) len.toNat (σ 143 21) k = true) → zP' (g_m_word_L124 a g e w k len f σ) Q := fun f f1 f2 => by
      unfold g_m_word_L124
      exact zP'.ite (fun c => no (f1 c)) (fun c => zP'.ret (yes (f2 c)))
    unfold g_m_word_L75
    refine zP'.ite (fun c => out 1 (fun c1 => absurd c1 (by decide)) (fun _ => ?_)) (fun c => ?_)
    · rw [he, show d = 0 by omega]
      rfl
    · obtain ⟨d, rfl⟩ : ∃ q, d = q + 1 := ⟨d - 1, by omega⟩
      rw [if_neg (by decide), w32_id (x := k + j) (by omega) (by omega), s_charAt (by omega)]
      rw [Option.bind_some]
      try dsimp +instances only
      rw [w32_id (x := σ 143 21 + j) (by omega) (by omega)]
      refine zP'.gd (fun _ => ?_)
      try dsimp +instances only
      have he : wsm (charC a) (σ 159) len.toNat (σ 143 21) k = (decide (σ 159 (σ 143 21 + j) = charC a (k + j)) && wsm (charC a) (σ 159) d (σ 143 21 + j + 1) (k + j + 1)) := he
      refine zP'.ite (fun c2 => ?_) (fun c2 => ?_)
      · have hf : wsm (charC a) (σ 159) len.toNat (σ 143 21) k = false := by
          rw [he, decide_eq_false (fun x => c2 x.symm), Bool.false_and]
        unfold g_m_word_L116
        cases n with
        | zero => exact zP'.no
        | succ n =>
          unfold g_m_word_L75
          refine zP'.ite (fun _ => out 0 (fun _ => hf) (fun c3 => absurd rfl c3)) (fun _ => ?_)
          rw [if_pos rfl]
          exact out 0 (fun _ => hf) (fun c3 => absurd rfl c3)
      · have c2 : charC a (k + j) = σ 159 (σ 143 21 + j) := Classical.byContradiction (fun x => c2 x)
        unfold g_m_word_L116
        rw [w32_id (x := j + 1) (by omega) (by omega)]
        refine t_word75 hw h hk hl yes no n d (j + 1) (by omega) (by omega) ?_
        rw [he, decide_eq_true c2.symm, Bool.true_and, show σ 143 21 + (j + 1) = σ 143 21 + j + 1 by omega, show k + (j + 1) = k + j + 1 by omega]
theorem t_word54 {a Ln : Nat} (hw : swk a Ln) {g : Int → Int → Int → zS → Option (Int × zS)} {e w k len : Int} {σ : zS} {Q : Int → zS → Prop} (h : tpP σ) (hk : 0 ≤ k ∧ 0 ≤ len ∧ k + len ≤ (Ln : Int)) (he : σ 143 21 ≤ e ∧ e ≤ 160) (yes : wsE (charC a) (σ 159) (σ 143 21) e k (k + len) = true → Q w (zu σ 143 21 e)) (no : wsE (charC a) (σ 159) (σ 143 21) e k (k + len) = false → zP' (g e (w32 (w + 1)) (w32 (k + w32 (len + 1))) σ) Q) : zP' (g_m_word_L54 a g e w k len σ) Q := by
  have h2 := h.2.1
  have w3 := hw.2.2
  unfold wsE at yes no
  rw [show k + len - k = len by omega] at yes no
  unfold g_m_word_L54 g_m_word_L70
  try dsimp +instances only
  rw [w32_id (x := e - σ 143 21) (by omega) (by omega)]
  refine zP'.ite (fun c => ?_) (fun c => ?_)
  · have hf : decide (e - σ 143 21 = len) = false := decide_eq_false (fun x => c x.symm)
    rw [hf, Bool.false_and] at no
    have hz : ∀ n, zP' (g_m_word_L75 a g (n + 1) e w k len 0 0 σ) Q := fun n => by
      have out : zP' (g_m_word_L124 a g e w k len 0 σ) Q := by
        unfold g_m_word_L124
        rw [if_pos rfl]
        exact no rfl
      unfold g_m_word_L75
      refine zP'.ite (fun _ => out) (fun _ => ?_)
      rw [if_pos rfl]
      exact out
    exact hz 999999
  · have c : len = e - σ 143 21 := Classical.byContradiction (fun x => c x)
    have ht : decide (e - σ 143 21 = len) = true := decide_eq_true c.symm
    rw [ht, Bool.true_and] at yes no
    exact t_word75 hw h hk (by omega) yes no zK len.toNat 0 (Int.le_refl 0) (by omega) (by rw [show σ 143 21 + 0 = σ 143 21 by omega, show k + 0 = k by omega])
theorem t_word10 {a Ln : Nat} (hw : swk a Ln) (hT : charC a ((Ln : Int) - 1) ≠ 32) {e : Int} {σ : zS} (h : tpP σ) (hs : σ 143 22 < 0) (he : σ 143 21 ≤ e ∧ e ≤ 160) : ∀ (n d : Nat) (w k : Int), 0 ≤ k ∧ 0 ≤ w ∧ w ≤ k → k + (d : Int) = (Ln : Int) → 0 < d → zP' (g_m_word_L10 a n e w k σ) (fun v s => v = wordG (charC a) (σ 159) (σ 143 21) e d k k w ∧ (v = -1 → s = zu σ 143 22 (σ 143 21)) ∧ (v ≠ -1 → s = zu σ 143 21 e)) := by
  intro n
  have w1 := hw.1
  have w2 := hw.2.1
  have w3 := hw.2.2
  induction n with
  | zero => exact fun _ _ _ _ _ _ => zP'.no
  | succ n ih =>
    intro d w k hk hd hd0
    have l22 : ∀ (m q : Nat) (j : Int), 0 ≤ j → k + j + (q : Int) = (Ln : Int) → wordG (charC a) (σ 159) (σ 143 21) e d k k w = wordG (charC a) (σ 159) (σ 143 21) e q (k + j) k w → zP' (g_m_word_L22 a (g_m_word_L10 a n) m e w k j σ) (fun v s => v = wordG (charC a) (σ 159) (σ 143 21) e d k k w ∧ (v = -1 → s = zu σ 143 22 (σ 143 21)) ∧ (v ≠ -1 → s = zu σ 143 21 e)) := by
      intro m
      induction m with
      | zero => exact fun _ _ _ _ _ => zP'.no
      | succ m ihm =>
        intro q j hj hq hG
        have fail : ∀ w' k' : Int, (Ln : Int) ≤ k' → zP' (g_m_word_L10 a n e w' k' σ) (fun v s => v = -1 ∧ s = zu σ 143 22 (σ 143 21)) := fun w' k' hh => by
          cases n with
          | zero => exact zP'.no
          | succ n =>
            unfold g_m_word_L10
            rw [s_length w2]
            rw [Option.bind_some]
            try dsimp +instances only
            rw [if_pos (by omega)]
            unfold g_m_fails
            try dsimp +instances only
            rw [if_neg (by omega)]
            rw [Option.bind_some]
            exact zP'.ret ⟨rfl, rfl⟩
        unfold g_m_word_L22
        rw [s_length w2]
        rw [Option.bind_some]
        try dsimp +instances only
        rw [w32_id (x := k + j) (by omega) (by omega)]
        have e1 := w32_id (x := j + 1) (by omega) (by omega)
        have e2 := w32_id (x := k + (j + 1)) (by omega) (by omega)
        have e3 := w32_id (x := w + 1) (by omega) (by omega)
        refine zP'.ite (fun c => ?_) (fun c => ?_)
        · have q0 : q = 0 := by omega
          subst q0
          have hG : wordG (charC a) (σ 159) (σ 143 21) e d k k w = if wsE (charC a) (σ 159) (σ 143 21) e k (k + j) = true then w else -1 := hG
          rw [hG]
          refine t_word54 hw h ⟨hk.1, hj, by omega⟩ he (fun y => ?_) (fun y => ?_)
          · rw [if_pos y]
            exact ⟨rfl, fun x => by omega, fun _ => rfl⟩
          · rw [y, if_neg (by decide), e1, e2, e3]
            exact (fail (w + 1) (k + (j + 1)) (by omega)).imp (fun v s p => ⟨p.1, fun _ => p.2, fun x => absurd p.1 x⟩)
        · obtain ⟨q, rfl⟩ : ∃ r, q = r + 1 := ⟨q - 1, by omega⟩
          rw [s_charAt (by omega)]
          rw [Option.bind_some]
          try dsimp +instances only
          have hG : wordG (charC a) (σ 159) (σ 143 21) e d k k w = if charC a (k + j) = 32 then (if wsE (charC a) (σ 159) (σ 143 21) e k (k + j) = true then w else wordG (charC a) (σ 159) (σ 143 21) e q (k + j + 1) (k + j + 1) (w + 1)) else wordG (charC a) (σ 159) (σ 143 21) e q (k + j + 1) k w := hG
          refine zP'.ite (fun c2 => ?_) (fun c2 => ?_)
          · rw [if_pos c2] at hG
            rw [hG]
            refine t_word54 hw h ⟨hk.1, hj, by omega⟩ he (fun y => ?_) (fun y => ?_)
            · rw [if_pos y]
              exact ⟨rfl, fun x => by omega, fun _ => rfl⟩
            · rw [y, if_neg (by decide), e1, e2, e3, show k + (j + 1) = k + j + 1 by omega]
              have hq1 : 0 < q := by
                refine Nat.pos_of_ne_zero (fun q0 => hT ?_)
                rw [show (Ln : Int) - 1 = k + j by omega]
                exact c2
              exact ih q (w + 1) (k + j + 1) ⟨by omega, by omega, by omega⟩ (by omega) hq1
          · rw [if_neg c2] at hG
            rw [e1]
            exact ihm q (j + 1) (by omega) (by omega) (by rw [hG, show k + (j + 1) = k + j + 1 by omega])
    unfold g_m_word_L10
    rw [s_length w2]
    rw [Option.bind_some]
    try dsimp +instances only
    rw [if_neg (by omega)]
    exact l22 zK d 0 (Int.le_refl 0) (by omega) (by rw [show k + 0 = k by omega])
theorem t_word {a Ln : Nat} (hw : swk a Ln) (hT : charC a ((Ln : Int) - 1) ≠ 32) (hL : 0 < Ln) {σ : zS} (h : tpP σ) (hs : σ 143 22 < 0) : zP' (g_m_word a σ) (fun v s => fr3 σ s ∧ v = wordV a Ln (σ 159) (σ 143 20) (σ 143 21) ∧ (v = -1 → s 143 22 = σ 143 21) ∧ (v ≠ -1 → s 143 21 = wend (σ 159) (σ 143 20) 160 (σ 143 21) ∧ s 143 22 = σ 143 22)) := by
  have h1 := h.1
  have h2 := h.2.1
  unfold g_m_word g_m_wordEnd
  try dsimp +instances only
  refine zP'.bind (t_wordEnd5 h zK 160 (σ 143 21) h2.1 h2.2 (by omega)) (fun e s p => ?_)
  obtain ⟨p1, pe⟩ := p
  try dsimp +instances only
  rw [p1]
  have l1 := wend_le (f := σ 159) (L := σ 143 20) 160 (σ 143 21)
  have l2 := wend_L (f := σ 159) (L := σ 143 20) 160 (σ 143 21) h2.2
  refine (t_word10 hw hT (e := e) h hs ⟨by omega, by omega⟩ zK Ln 0 0 ⟨by omega, by omega, by omega⟩ (by omega) hL).imp (fun v t q => ?_)
  obtain ⟨q1, q2, q3⟩ := q
  rw [pe] at q1
  refine ⟨?_, q1, fun x => ?_, fun x => ?_⟩
  · by_cases x : v = -1
    · rw [q2 x]
      exact fr3.u (by omega)
    · rw [q3 x]
      exact fr3.u (by omega)
  · rw [q2 x]
    exact zu_e rfl
  · rw [q3 x]
    exact ⟨(zu_e rfl).trans pe, zu_i (by decide)⟩
end
section
/-! 6a.read -/
/-! READERS OF THE TAPE: what each makes of a tape, told once; both sides follow them -/
abbrev zRd : Type := Sum Int (Int × Int)
def cT (σ : zS) : Int → Int := fun j => if 0 ≤ j ∧ j < σ 120 1 then σ 121 j else 0
def mT (σ : zS) : Int → Int := fun j => if 0 ≤ j ∧ j < σ 143 20 then σ 159 j else 0
def numR (w : Nat) (lo hi : Int) (f : Int → Int) (L p : Int) : zRd := if (numF f L w p 0).2 ≠ p ∧ lo ≤ (numF f L w p 0).1 ∧ (numF f L w p 0).1 ≤ hi then .inr (numF f L w p 0) else .inl p
def sgnR (x : Int) (f : Int → Int) (L p : Int) : zRd := if p < L ∧ f p = x then .inr (x, p + 1) else .inl p
def wrdR (a Ln : Nat) (f : Int → Int) (L p : Int) : zRd := if wordV a Ln f L p = -1 then .inl p else .inr (wordV a Ln f L p, wend f L 160 p)
def rBd (p L : Int) : zRd → Prop
  | .inl q => p ≤ q ∧ q ≤ L
  | .inr x => p ≤ x.2 ∧ x.2 ≤ L
theorem numF_L {f : Int → Int} {L : Int} : ∀ (w : Nat) (p v : Int), p ≤ L → (numF f L w p v).2 ≤ L
  | 0, p, v, h => h
  | w + 1, p, v, h => by
    show (if p < L ∧ 48 ≤ f p ∧ f p ≤ 57 then numF f L w (p + 1) (10 * v + f p - 48) else (v, p)).2 ≤ L
    split
    · rename_i c
      exact numF_L w (p + 1) _ (by omega)
    · exact h
theorem numF_ext {f g : Int → Int} {L : Int} : ∀ (w : Nat) (p v : Int), (∀ j, p ≤ j → j < L → f j = g j) → numF f L w p v = numF g L w p v
  | 0, _, _, _ => rfl
  | w + 1, p, v, h => by
    show (if p < L ∧ 48 ≤ f p ∧ f p ≤ 57 then numF f L w (p + 1) (10 * v + f p - 48) else (v, p)) = (if p < L ∧ 48 ≤ g p ∧ g p ≤ 57 then numF g L w (p + 1) (10 * v + g p - 48) else (v, p))
    by_cases c : p < L
    · rw [h p (Int.le_refl p) c, numF_ext w (p + 1) _ (fun j h1 h2 => h j (by omega) h2)]
    · rw [if_neg (fun e => c e.1), if_neg (fun e => c e.1)]
theorem numF_0 {f : Int → Int} {L : Int} : ∀ (w : Nat) (p v : Int), 0 ≤ v → 0 ≤ (numF f L w p v).1
  | 0, _, v, h => h
  | w + 1, p, v, h => by
    show 0 ≤ (if p < L ∧ 48 ≤ f p ∧ f p ≤ 57 then numF f L w (p + 1) (10 * v + f p - 48) else (v, p)).1
    split
    · exact numF_0 w (p + 1) _ (by omega)
    · exact h
theorem numR_bd {w : Nat} {lo hi : Int} {f : Int → Int} {L p : Int} (h : p ≤ L) : rBd p L (numR w lo hi f L p) := by
  unfold numR
  split
  · exact ⟨numF_le w p 0, numF_L w p 0 h⟩
  · exact ⟨Int.le_refl p, h⟩
theorem sgnR_bd {x : Int} {f : Int → Int} {L p : Int} (h : p ≤ L) : rBd p L (sgnR x f L p) := by
  unfold sgnR
  split
  · exact ⟨by show p ≤ p + 1; omega, by show p + 1 ≤ L; omega⟩
  · exact ⟨Int.le_refl p, h⟩
theorem wrdR_bd {a Ln : Nat} {f : Int → Int} {L p : Int} (h : p ≤ L) : rBd p L (wrdR a Ln f L p) := by
  unfold wrdR
  split
  · exact ⟨Int.le_refl p, h⟩
  · exact ⟨wend_le 160 p, wend_L 160 p h⟩
theorem numR_ok {w : Nat} {lo hi : Int} {f : Int → Int} {L p v p' : Int} (h : numR w lo hi f L p = .inr (v, p')) : lo ≤ v ∧ v ≤ hi ∧ p < p' := by
  unfold numR at h
  split at h
  · rename_i c
    have e := Sum.inr.inj h
    have l := numF_le (f := f) (L := L) w p 0
    rw [e] at c l
    exact ⟨c.2.1, c.2.2, by have := c.1; dsimp only at this l; omega⟩
  · cases h
theorem sgnR_ok {x : Int} {f : Int → Int} {L p v p' : Int} (h : sgnR x f L p = .inr (v, p')) : v = x ∧ p' = p + 1 ∧ p < L := by
  unfold sgnR at h
  split at h
  · rename_i c
    cases h
    exact ⟨rfl, rfl, c.1⟩
  · cases h
theorem wrdR_ok {a Ln : Nat} {f : Int → Int} {L p v p' : Int} (h : wrdR a Ln f L p = .inr (v, p')) : 0 ≤ v ∧ v ≠ -1 ∧ p ≤ p' := by
  unfold wrdR at h
  split at h
  · cases h
  · rename_i c
    have e := Sum.inr.inj h
    have e1 : wordV a Ln f L p = v := congrArg (·.1) e
    have e2 : wend f L 160 p = p' := congrArg (·.2) e
    rw [e1] at c
    have l := wend_le (f := f) (L := L) 160 p
    have g := wordG_ge (c := charC a) (f := f) (b := p) (e := wend f L 160 p) Ln 0 0 0
    have g : v = -1 ∨ 0 ≤ v := by rw [← e1]; exact g
    exact ⟨g.resolve_left c, c, by omega⟩
/-! the class -/
def cPo (σ : zS) (r : zRd) (v : Int) (s : zS) : Prop := frTa σ s ∧ match r with
  | .inl q => s 120 3 = q
  | .inr x => v = x.1 ∧ s 120 2 = x.2 ∧ s 120 3 = -1
theorem cT_f {σ s : zS} (h : frTa σ s) : cT s = cT σ := by
  funext j
  unfold cT
  rw [h 120 1 (Or.inr (by decide)), h 121 j (Or.inl (by decide))]
theorem cT_e {σ : zS} {p : Int} (hp : 0 ≤ p) : ∀ j, p ≤ j → j < σ 120 1 → σ 121 j = cT σ j := fun j h1 h2 => (if_pos ⟨by omega, h2⟩).symm
theorem c_num {w lo hi : Int} {σ : zS} (h : tpL σ) (hs : σ 120 3 = -1) (hw : 0 ≤ w ∧ w ≤ 9) : zP' (g_ta_number w lo hi σ) (cPo σ (numR w.toNat lo hi (cT σ) (σ 120 1) (σ 120 2))) := by
  refine (p_number h.i hs hw (lo := lo) (hi := hi)).imp (fun v s p => ?_)
  obtain ⟨p1, p2, p3, p4⟩ := p
  rw [numF_ext w.toNat (σ 120 2) 0 (cT_e h.2.1.1)] at p2 p3 p4
  unfold numR
  rw [← p2]
  split
  · rename_i c
    exact ⟨p1, p2, p3 c⟩
  · rename_i c
    exact ⟨p1, p4 c⟩
theorem c_sgn {x : Int} {σ : zS} (h : tpL σ) (hs : σ 120 3 = -1) (hx : 1 ≤ x) : zP' (g_ta_wants x σ) (fun _ s => ∀ v, cPo σ (sgnR x (cT σ) (σ 120 1) (σ 120 2)) v s ∨ cPo σ (sgnR x (cT σ) (σ 120 1) (σ 120 2)) x s) := by
  refine (p_wants h.i hs hx).imp (fun _ s p v => Or.inr ?_)
  obtain ⟨p1, p2, p3⟩ := p
  have e : tpH σ = x ↔ σ 120 2 < σ 120 1 ∧ cT σ (σ 120 2) = x := by
    unfold tpH
    by_cases c : σ 120 2 < σ 120 1
    · rw [if_pos c, cT_e h.2.1.1 _ (Int.le_refl _) c]
      exact ⟨fun e => ⟨c, e⟩, fun e => e.2⟩
    · rw [if_neg c]
      exact ⟨fun e => by omega, fun e => absurd e.1 c⟩
  unfold sgnR
  split
  · rename_i c
    have q := p2 (e.mpr c)
    exact ⟨p1, rfl, q.1, q.2⟩
  · rename_i c
    exact ⟨p1, p3 (fun k => c (e.mp k))⟩
theorem c_wrd {a Ln : Nat} (hw : swk a Ln) {σ : zS} (h : tpL σ) (hs : σ 120 3 = -1) : zP' (g_ta_word a σ) (fun v s => cPo σ (wrdR a Ln (cT σ) (σ 120 1) (σ 120 2)) v s ∧ v = wordV a Ln (cT σ) (σ 120 1) (σ 120 2)) := by
  refine (p_word hw h hs).imp (fun v s p => ?_)
  obtain ⟨p1, p2, p3, p4⟩ := p
  rw [wordV_ext (a' := a) h.2.1.2 (cT_e h.2.1.1) (fun _ _ _ => rfl)] at p2
  rw [wend_ext 160 (σ 120 2) (cT_e h.2.1.1)] at p4
  refine ⟨?_, p2⟩
  unfold wrdR
  rw [← p2]
  split
  · rename_i c
    exact ⟨p1, p3 c⟩
  · rename_i c
    exact ⟨p1, rfl, p4 c⟩
theorem cPo.ok {σ s : zS} {r : zRd} {v : Int} {x : Int × Int} (p : cPo σ r v s) (e : r = .inr x) : frTa σ s ∧ v = x.1 ∧ s 120 2 = x.2 ∧ s 120 3 = -1 := by
  subst e
  exact p
theorem cPo.no {σ s : zS} {r : zRd} {v q : Int} (p : cPo σ r v s) (e : r = .inl q) : frTa σ s ∧ s 120 3 = q := by
  subst e
  exact p
theorem c_sgn' {x : Int} {σ : zS} (h : tpL σ) (hs : σ 120 3 = -1) (hx : 1 ≤ x) : zP' (g_ta_wants x σ) (fun _ s => cPo σ (sgnR x (cT σ) (σ 120 1) (σ 120 2)) x s) := (c_sgn h hs hx).imp (fun _ s p => (p x).elim id id)
/-- behind a part -/
theorem c_more {σ : zS} (h : tpL σ) (hs : σ 120 3 = -1) : zP' (g_ta_another 1 σ) (fun v s => frTa σ s ∧ (σ 120 2 = σ 120 1 → v = 0 ∧ s = σ) ∧ (σ 120 2 < σ 120 1 ∧ cT σ (σ 120 2) = 59 → v = 1 ∧ s 120 2 = σ 120 2 + 1 ∧ s 120 3 = -1) ∧ (σ 120 2 < σ 120 1 ∧ cT σ (σ 120 2) ≠ 59 → v = 0 ∧ s 120 3 = σ 120 2)) := by
  have h2 := h.2.1
  unfold g_ta_another
  rw [if_neg (by decide), p_takes h.i hs (by decide)]
  rw [Option.bind_some]
  try dsimp +instances only
  by_cases cl : σ 120 2 < σ 120 1
  · have eH : tpH σ = cT σ (σ 120 2) := by
      unfold tpH
      rw [if_pos cl, cT_e h2.1 _ (Int.le_refl _) cl]
    rw [eH]
    by_cases c : cT σ (σ 120 2) = 59
    · rw [if_pos c, if_pos c, if_neg (by decide)]
      exact zP'.ret ⟨frTa.u (Or.inl rfl), fun e => by omega, fun _ => ⟨rfl, zu_e rfl, (zu_i (by decide)).trans hs⟩, fun e => absurd c e.2⟩
    · rw [if_neg c, if_neg c, if_pos rfl]
      unfold g_ta_another_L15
      rw [p_here h.i hs, eH]
      rw [Option.bind_some]
      try dsimp +instances only
      have hb := h.2.2 (σ 120 2) h2.1 cl
      rw [cT_e h2.1 _ (Int.le_refl _) cl] at hb
      rw [if_neg (by omega), p_blame, if_pos hs]
      rw [Option.bind_some]
      exact zP'.ret ⟨frTa.u (Or.inr rfl), fun e => by omega, fun e => absurd e.2 c, fun _ => ⟨rfl, by dsimp only; exact zu_e rfl⟩⟩
  · have eH : tpH σ = 0 := if_neg cl
    have n59 : ¬ (0 : Int) = 59 := by decide
    rw [eH, if_neg n59, if_neg n59, if_pos rfl]
    unfold g_ta_another_L15
    rw [p_here h.i hs, eH]
    rw [Option.bind_some]
    try dsimp +instances only
    rw [if_pos rfl]
    exact zP'.ret ⟨frTa.refl σ, fun _ => ⟨rfl, rfl⟩, fun e => absurd e.1 cl, fun e => absurd e.1 cl⟩
/-! the reference -/
def mPo (σ : zS) (r : zRd) (b : Int) (s : zS) : Prop := fr3 σ s ∧ match r with
  | .inl q => b = 0 ∧ s 143 22 = q
  | .inr x => b = 1 ∧ s 143 21 = x.2 ∧ s 143 22 = σ 143 22
theorem mT_f {σ s : zS} (h : fr3 σ s) : mT s = mT σ := by
  funext j
  unfold mT
  rw [h 143 20 (Or.inr (by decide)), h 159 j (Or.inl (by decide))]
theorem mT_e {σ : zS} {p : Int} (hp : 0 ≤ p) : ∀ j, p ≤ j → j < σ 143 20 → σ 159 j = mT σ j := fun j h1 h2 => (if_pos ⟨by omega, h2⟩).symm
theorem mPo.ok {σ s : zS} {r : zRd} {b : Int} {x : Int × Int} (p : mPo σ r b s) (e : r = .inr x) : fr3 σ s ∧ b = 1 ∧ s 143 21 = x.2 ∧ s 143 22 = σ 143 22 := by
  subst e
  exact p
theorem mPo.no {σ s : zS} {r : zRd} {b q : Int} (p : mPo σ r b s) (e : r = .inl q) : fr3 σ s ∧ b = 0 ∧ s 143 22 = q := by
  subst e
  exact p
theorem m_num {w lo hi : Int} {σ : zS} (h : tpP σ) (hs : σ 143 22 < 0) (hw : 1 ≤ w ∧ w ≤ 9) : zP' (g_m_isNumber w lo hi σ) (fun b s => mPo σ (numR w.toNat lo hi (mT σ) (σ 143 20) (σ 143 21)) b s ∧ ∀ x, numR w.toNat lo hi (mT σ) (σ 143 20) (σ 143 21) = .inr x → s 143 23 = x.1) := by
  obtain ⟨b, s, e, p1, p2, p3⟩ := t_number (lo := lo) (hi := hi) h.i hs hw h.2.2
  rw [e]
  refine zP'.ret ?_
  rw [numF_ext w.toNat (σ 143 21) 0 (mT_e h.2.1.1)] at p2 p3
  unfold numR
  split
  · rename_i c
    obtain ⟨q1, q2, q3, q4⟩ := p2 c
    exact ⟨⟨p1, q1, q2, q4⟩, fun x hx => by cases hx; exact q3⟩
  · rename_i c
    obtain ⟨q1, q2⟩ := p3 c
    exact ⟨⟨p1, q1, q2⟩, fun x hx => by cases hx⟩
theorem m_sgn {x : Int} {σ : zS} (h : tpP σ) (hs : σ 143 22 < 0) (hx : 1 ≤ x) : zP' (g_m_isSign x σ) (mPo σ (sgnR x (mT σ) (σ 143 20) (σ 143 21))) := by
  obtain ⟨b, s, e, p1, p2, p3⟩ := t_isSign h.i hs hx
  rw [e]
  refine zP'.ret ?_
  have e : hereC σ = x ↔ σ 143 21 < σ 143 20 ∧ mT σ (σ 143 21) = x := by
    unfold hereC
    by_cases c : σ 143 21 < σ 143 20
    · rw [if_neg (by omega), mT_e h.2.1.1 _ (Int.le_refl _) c]
      exact ⟨fun e => ⟨c, e⟩, fun e => e.2⟩
    · rw [if_pos (by omega)]
      exact ⟨fun e => by omega, fun e => absurd e.1 c⟩
  unfold sgnR
  split
  · rename_i c
    exact ⟨p1, p2 (e.mpr c)⟩
  · rename_i c
    exact ⟨p1, p3 (fun k => c (e.mp k))⟩
/-- the words of the reference are those of the class -/
theorem m_wrd {a c Ln : Nat} (hw : swk c Ln) (hT : charC c ((Ln : Int) - 1) ≠ 32) (hL : 0 < Ln) (he : ∀ j : Int, 0 ≤ j → j < (Ln : Int) → charC c j = charC a j) {σ : zS} (h : tpP σ) (hs : σ 143 22 < 0) : zP' (g_m_word c σ) (fun v s => mPo σ (wrdR a Ln (mT σ) (σ 143 20) (σ 143 21)) (if v = -1 then 0 else 1) s ∧ v = wordV a Ln (mT σ) (σ 143 20) (σ 143 21)) := by
  refine (t_word hw hT hL h hs).imp (fun v s p => ?_)
  obtain ⟨p1, p2, p3, p4⟩ := p
  rw [wordV_ext (a' := a) h.2.1.2 (mT_e h.2.1.1) he] at p2
  rw [wend_ext 160 (σ 143 21) (mT_e h.2.1.1)] at p4
  refine ⟨?_, p2⟩
  unfold wrdR
  rw [← p2]
  by_cases hc : v = -1
  · rw [if_pos hc, if_pos hc]
    exact ⟨p1, rfl, p3 hc⟩
  · rw [if_neg hc, if_neg hc]
    exact ⟨p1, rfl, p4 hc⟩
/-! the words -/
theorem chEq {a c Ln : Nat} (h : ∀ i : Fin Ln, charC c ((i.val : Nat) : Int) = charC a ((i.val : Nat) : Int)) : ∀ j : Int, 0 ≤ j → j < (Ln : Int) → charC c j = charC a j := fun j h1 h2 => by
  obtain ⟨n, rfl⟩ : ∃ n : Nat, j = (n : Int) := ⟨j.toNat, by omega⟩
  exact h ⟨n, by omega⟩
theorem swk1 : swk 1 39 := ⟨by decide +kernel, by decide +kernel, by decide⟩
theorem swk2 : swk 2 14 := ⟨by decide +kernel, by decide +kernel, by decide⟩
theorem swk3 : swk 3 6 := ⟨by decide +kernel, by decide +kernel, by decide⟩
theorem swk4 : swk 4 36 := ⟨by decide +kernel, by decide +kernel, by decide⟩
theorem swk5 : swk 5 2 := ⟨by decide +kernel, by decide +kernel, by decide⟩
theorem swk11 : swk 11 39 := ⟨by decide +kernel, by decide +kernel, by decide⟩
theorem swk12 : swk 12 14 := ⟨by decide +kernel, by decide +kernel, by decide⟩
theorem swk13 : swk 13 6 := ⟨by decide +kernel, by decide +kernel, by decide⟩
theorem swk14 : swk 14 36 := ⟨by decide +kernel, by decide +kernel, by decide⟩
theorem swk15 : swk 15 2 := ⟨by decide +kernel, by decide +kernel, by decide⟩
theorem m_wrd11 {σ : zS} (h : tpP σ) (hs : σ 143 22 < 0) : zP' (g_m_word 11 σ) (fun v s => mPo σ (wrdR 1 39 (mT σ) (σ 143 20) (σ 143 21)) (if v = -1 then 0 else 1) s ∧ v = wordV 1 39 (mT σ) (σ 143 20) (σ 143 21)) := m_wrd swk11 (by decide +kernel) (by decide) (chEq (by decide +kernel)) h hs
theorem m_wrd12 {σ : zS} (h : tpP σ) (hs : σ 143 22 < 0) : zP' (g_m_word 12 σ) (fun v s => mPo σ (wrdR 2 14 (mT σ) (σ 143 20) (σ 143 21)) (if v = -1 then 0 else 1) s ∧ v = wordV 2 14 (mT σ) (σ 143 20) (σ 143 21)) := m_wrd swk12 (by decide +kernel) (by decide) (chEq (by decide +kernel)) h hs
theorem m_wrd13 {σ : zS} (h : tpP σ) (hs : σ 143 22 < 0) : zP' (g_m_word 13 σ) (fun v s => mPo σ (wrdR 3 6 (mT σ) (σ 143 20) (σ 143 21)) (if v = -1 then 0 else 1) s ∧ v = wordV 3 6 (mT σ) (σ 143 20) (σ 143 21)) := m_wrd swk13 (by decide +kernel) (by decide) (chEq (by decide +kernel)) h hs
theorem m_wrd14 {σ : zS} (h : tpP σ) (hs : σ 143 22 < 0) : zP' (g_m_word 14 σ) (fun v s => mPo σ (wrdR 4 36 (mT σ) (σ 143 20) (σ 143 21)) (if v = -1 then 0 else 1) s ∧ v = wordV 4 36 (mT σ) (σ 143 20) (σ 143 21)) := m_wrd swk14 (by decide +kernel) (by decide) (chEq (by decide +kernel)) h hs
theorem m_wrd15 {σ : zS} (h : tpP σ) (hs : σ 143 22 < 0) : zP' (g_m_word 15 σ) (fun v s => mPo σ (wrdR 5 2 (mT σ) (σ 143 20) (σ 143 21)) (if v = -1 then 0 else 1) s ∧ v = wordV 5 2 (mT σ) (σ 143 20) (σ 143 21)) := m_wrd swk15 (by decide +kernel) (by decide) (chEq (by decide +kernel)) h hs
end
section
/-! 6b.sets -/
/-! SETTINGS AS A TEXT, told once for both sides -/
def bkC (c : Int → Int) : Nat → Int → Int
  | 0, _ => 0
  | n + 1, i => (if c i = 32 then 1 else 0) + bkC c n (i + 1)
theorem bkC_0 {c : Int → Int} : ∀ (n : Nat) (i : Int), 0 ≤ bkC c n i
  | 0, _ => Int.le_refl 0
  | n + 1, i => by
    show 0 ≤ (if c i = 32 then 1 else 0) + bkC c n (i + 1)
    have := bkC_0 (c := c) n (i + 1)
    split <;> omega
theorem wordG_le {c f : Int → Int} {b e : Int} : ∀ (n : Nat) (i st w : Int), 0 ≤ w → wordG c f b e n i st w ≤ w + bkC c n i
  | 0, i, st, w, h => by
    show (if wsE c f b e st i = true then w else -1) ≤ w + 0
    split <;> omega
  | n + 1, i, st, w, h => by
    show (if c i = 32 then (if wsE c f b e st i = true then w else wordG c f b e n (i + 1) (i + 1) (w + 1)) else wordG c f b e n (i + 1) st w) ≤ w + ((if c i = 32 then 1 else 0) + bkC c n (i + 1))
    have h0 := bkC_0 (c := c) n (i + 1)
    by_cases c1 : c i = 32
    · rw [if_pos c1, if_pos c1]
      split
      · omega
      · have := wordG_le (c := c) (f := f) (b := b) (e := e) n (i + 1) (i + 1) (w + 1) (by omega)
        omega
    · rw [if_neg c1, if_neg c1]
      have := wordG_le (c := c) (f := f) (b := b) (e := e) n (i + 1) st w h
      omega
theorem wordV1_le {f : Int → Int} {L p : Int} : wordV 1 39 f L p ≤ 6 := by
  have h := wordG_le (c := charC 1) (f := f) (b := p) (e := wend f L 160 p) 39 0 0 0 (Int.le_refl 0)
  have e : bkC (charC 1) 39 0 = 6 := by decide +kernel
  rw [e] at h
  exact h
def setV (w : Int) (f : Int → Int) (L p : Int) : zRd := if w = 0 then numR 2 0 99 f L p else if w = 1 then numR 2 1 99 f L p else if w = 2 then numR 2 1 12 f L p else if w = 3 then wrdR 2 14 f L p else if w = 6 then numR 4 1 1024 f L p else wrdR 3 6 f L p
def set1v (w : Int) : zRd → Sum Int ((Int × Int) × Int)
  | .inl q => .inl q
  | .inr z => .inr ((w, z.1), z.2)
def set1 (f : Int → Int) (L p : Int) : Sum Int ((Int × Int) × Int) := match wrdR 1 39 f L p with
  | .inl q => .inl q
  | .inr x => match sgnR 32 f L x.2 with
    | .inl q => .inl q
    | .inr y => set1v x.1 (setV x.1 f L y.2)
def updS (g : Int → Int) (i v : Int) : Int → Int := fun j => if j = i then v else g j
def setP (f : Int → Int) (L : Int) : Nat → Int → Int → (Int → Int) → Sum Int (Int × (Int → Int))
  | 0, p, _, _ => .inl p
  | m + 1, p, n, g => match set1 f L p with
    | .inl q => .inl q
    | .inr x => if x.2 < L then (if f x.2 = 59 then setP f L m (x.2 + 1) (n + 1) (updS g x.1.1 x.1.2) else .inl x.2) else .inr (n + 1, updS g x.1.1 x.1.2)
theorem setV_bd {w : Int} {f : Int → Int} {L p : Int} (h : p ≤ L) : rBd p L (setV w f L p) := by
  unfold setV
  repeat' split
  all_goals first
    | exact numR_bd h
    | exact wrdR_bd h
theorem set1_bd {f : Int → Int} {L p : Int} (h : p ≤ L) : (∀ q, set1 f L p = .inl q → p ≤ q ∧ q ≤ L) ∧ ∀ x, set1 f L p = .inr x → p < x.2 ∧ x.2 ≤ L ∧ 0 ≤ x.1.1 ∧ x.1.1 ≤ 6 := by
  unfold set1
  have h1 := wrdR_bd (a := 1) (Ln := 39) (f := f) h
  cases e1 : wrdR 1 39 f L p with
  | inl q =>
    rw [e1] at h1
    exact ⟨fun q' e => by cases e; exact h1, fun x e => by cases e⟩
  | inr x =>
    rw [e1] at h1
    have h1 : p ≤ x.2 ∧ x.2 ≤ L := h1
    have k1 := wrdR_ok (v := x.1) (p' := x.2) e1
    have k2 : x.1 ≤ 6 := by
      have e2 : wordV 1 39 f L p = x.1 := by
        unfold wrdR at e1
        split at e1
        · cases e1
        · exact congrArg (·.1) (Sum.inr.inj e1)
      rw [← e2]
      exact wordV1_le
    have h2 := sgnR_bd (x := 32) (f := f) h1.2
    dsimp only
    cases e2 : sgnR 32 f L x.2 with
    | inl q =>
      rw [e2] at h2
      have h2 : x.2 ≤ q ∧ q ≤ L := h2
      exact ⟨fun q' e => by cases e; omega, fun y e => by cases e⟩
    | inr y =>
      rw [e2] at h2
      have h2 : x.2 ≤ y.2 ∧ y.2 ≤ L := h2
      have k3 := sgnR_ok (v := y.1) (p' := y.2) e2
      have h3 := setV_bd (w := x.1) (f := f) h2.2
      dsimp only
      cases e3 : setV x.1 f L y.2 with
      | inl q =>
        rw [e3] at h3
        have h3 : y.2 ≤ q ∧ q ≤ L := h3
        exact ⟨fun q' e => (by dsimp only [set1v] at e; cases e; omega), fun z e => (by dsimp only [set1v] at e; cases e)⟩
      | inr z =>
        rw [e3] at h3
        have h3 : y.2 ≤ z.2 ∧ z.2 ≤ L := h3
        exact ⟨fun q' e => (by dsimp only [set1v] at e; cases e), fun z' e => by dsimp only [set1v] at e; cases e; exact ⟨by dsimp only; omega, h3.2, k1.1, k2⟩⟩
theorem setP_bd {f : Int → Int} {L : Int} : ∀ (m : Nat) (p n : Int) (g : Int → Int), p ≤ L → ∀ q, setP f L m p n g = .inl q → p ≤ q ∧ q ≤ L
  | 0, p, n, g, h, q, e => by
    cases e
    exact ⟨Int.le_refl p, h⟩
  | m + 1, p, n, g, h, q, e => by
    unfold setP at e
    obtain ⟨b1, b2⟩ := set1_bd (f := f) h
    cases e1 : set1 f L p with
    | inl q' =>
      rw [e1] at e
      cases e
      exact b1 _ e1
    | inr x =>
      rw [e1] at e
      dsimp only at e
      have b := b2 x e1
      split at e
      · split at e
        · have := setP_bd m (x.2 + 1) (n + 1) _ (by omega) q e
          omega
        · cases e
          omega
      · cases e
/-! the class -/
def frSe (σ s : zS) : Prop := ∀ a j, (a ≠ 120 ∨ (j ≠ 2 ∧ j ≠ 3)) → a ≠ 119 → s a j = σ a j
theorem frSe.of {σ s : zS} (h : frTa σ s) : frSe σ s := fun a j k _ => h a j k
theorem frSe.trans {σ s t : zS} (h1 : frSe σ s) (h2 : frSe s t) : frSe σ t := fun a j k1 k2 => (h2 a j k1 k2).trans (h1 a j k1 k2)
theorem c_setV {w : Int} {σ : zS} (h : tpL σ) (hs : σ 120 3 = -1) : zP' (g_se_readValue w σ) (cPo σ (setV w (cT σ) (σ 120 1) (σ 120 2))) := by
  have pass : ∀ {x : Option (Int × zS)} {r : zRd}, zP' x (cPo σ r) → zP' (x.bind fun o => some (o.1, o.2)) (cPo σ r) := fun hx => zP'.bind hx (fun v s p => zP'.ret p)
  unfold g_se_readValue setV
  refine zP'.ite (fun c => ?_) (fun c => ?_)
  · rw [if_pos c]
    exact pass (c_num h hs (by decide))
  rw [if_neg c]
  refine zP'.ite (fun c => ?_) (fun c => ?_)
  · rw [if_pos c]
    exact pass (c_num h hs (by decide))
  rw [if_neg c]
  refine zP'.ite (fun c => ?_) (fun c => ?_)
  · rw [if_pos c]
    exact pass (c_num h hs (by decide))
  rw [if_neg c]
  refine zP'.ite (fun c => ?_) (fun c => ?_)
  · rw [if_pos c]
    exact pass ((c_wrd swk2 h hs).imp (fun _ _ p => p.1))
  rw [if_neg c]
  refine zP'.ite (fun c => ?_) (fun c => ?_)
  · rw [if_pos c]
    exact pass (c_num h hs (by decide))
  rw [if_neg c]
  exact pass ((c_wrd swk3 h hs).imp (fun _ _ p => p.1))
theorem c_setV0 {w : Int} {σ : zS} (hs : σ 120 3 ≠ -1) : zP' (g_se_readValue w σ) (fun _ s => s = σ) := by
  have pass : ∀ {x : Option (Int × zS)}, zP' x (fun _ s => s = σ) → zP' (x.bind fun o => some (o.1, o.2)) (fun _ s => s = σ) := fun hx => zP'.bind hx (fun v s p => zP'.ret p)
  unfold g_se_readValue
  refine zP'.ite (fun c => pass (p_number0 hs (by decide))) (fun c => ?_)
  refine zP'.ite (fun c => pass (p_number0 hs (by decide))) (fun c => ?_)
  refine zP'.ite (fun c => pass (p_number0 hs (by decide))) (fun c => ?_)
  refine zP'.ite (fun c => pass ((p_word0 swk2 hs).imp (fun _ _ p => p.1))) (fun c => ?_)
  refine zP'.ite (fun c => pass (p_number0 hs (by decide))) (fun c => ?_)
  exact pass ((p_word0 swk3 hs).imp (fun _ _ p => p.1))
theorem c_become {w v : Int} {σ : zS} : zP' (g_se_become 118 w v σ) (fun _ s => (0 ≤ w ∧ w < 7 → s = zu σ 119 w v) ∧ (¬ (0 ≤ w ∧ w < 7) → s = σ)) := by
  unfold g_se_become
  refine zP'.ite (fun c => zP'.ret ⟨fun h => by omega, fun _ => rfl⟩) (fun c => ?_)
  refine zP'.ite (fun c2 => zP'.ret ⟨fun h => by omega, fun _ => rfl⟩) (fun c2 => ?_)
  rw [if_pos (by omega)]
  exact zP'.ret ⟨fun _ => rfl, fun h => absurd ⟨by omega, by omega⟩ h⟩
theorem c_become' {w v : Int} {σ : zS} : zP' (g_se_become 118 w v σ) (fun _ s => ∀ a j, a ≠ 119 → s a j = σ a j) := c_become.imp (fun _ s p a j k => by
  by_cases c : 0 ≤ w ∧ w < 7
  · rw [p.1 c, zu_a k]
  · rw [p.2 c])
/-- behind a fault: the part's rest, and the end -/
theorem c_set0v {w n : Int} {k : Nat} {σ : zS} (hs : σ 120 3 ≠ -1) : zP' ((g_se_readValue w σ).bind fun o_36 => (g_se_become 118 w o_36.1 o_36.2).bind fun o_39 => (g_ta_another 1 o_39.2).bind fun o_44 => (g_se_readParts_L4 k) n o_44.1 o_44.2) (fun _ s => frSe σ s ∧ s 120 3 = σ 120 3) := by
  refine zP'.bind (c_setV0 hs) (fun v s p => ?_)
  subst p
  try dsimp +instances only
  refine zP'.bind c_become' (fun _ s1 p1 => ?_)
  have e3 : s1 120 3 = s 120 3 := p1 120 3 (by decide)
  try dsimp +instances only
  rw [p_another0 (by rw [e3]; exact hs)]
  rw [Option.bind_some]
  try dsimp +instances only
  cases k with
  | zero => exact zP'.no
  | succ k =>
    unfold g_se_readParts_L4
    rw [if_pos rfl]
    exact zP'.ret ⟨fun a j _ k2 => p1 a j k2, e3⟩
theorem c_set0 {w n : Int} {k : Nat} {σ : zS} (hs : σ 120 3 ≠ -1) : zP' ((g_ta_wants 32 σ).bind fun o_26 => (g_se_readValue w o_26.2).bind fun o_36 => (g_se_become 118 w o_36.1 o_36.2).bind fun o_39 => (g_ta_another 1 o_39.2).bind fun o_44 => (g_se_readParts_L4 k) n o_44.1 o_44.2) (fun _ s => frSe σ s ∧ s 120 3 = σ 120 3) := by
  rw [p_wants0 hs (by decide)]
  rw [Option.bind_some]
  try dsimp +instances only
  exact c_set0v hs
def sePo (σ : zS) (r : Sum Int (Int × (Int → Int))) (v : Int) (s : zS) : Prop := frSe σ s ∧ match r with
  | .inl q => s 120 3 = q
  | .inr x => v = x.1 ∧ s 120 3 = -1 ∧ ∀ j, 0 ≤ j → j < 7 → s 119 j = x.2 j
theorem setP_1 {f : Int → Int} {L : Int} {m : Nat} {p n : Int} {g : Int → Int} : setP f L (m + 1) p n g = match set1 f L p with
    | .inl q => .inl q
    | .inr x => if x.2 < L then (if f x.2 = 59 then setP f L m (x.2 + 1) (n + 1) (updS g x.1.1 x.1.2) else .inl x.2) else .inr (n + 1, updS g x.1.1 x.1.2) := rfl
theorem c_parts : ∀ (n m : Nat) (x : Int) (g : Int → Int) (σ : zS), tpL σ → σ 120 3 = -1 → 0 ≤ x → 2 * x ≤ σ 120 2 → σ 120 1 - σ 120 2 < (m : Int) → (∀ j, 0 ≤ j → j < 7 → σ 119 j = g j) → zP' (g_se_readParts_L4 n x 1 σ) (sePo σ (setP (cT σ) (σ 120 1) m (σ 120 2) x g))
  | 0, _, _, _, _, _, _, _, _, _, _ => zP'.no
  | n + 1, m, x, g, σ, h, hs, hx, hx2, hm, hg => by
    have h1 := h.1
    have h2 := h.2.1
    obtain ⟨m, rfl⟩ : ∃ q, m = q + 1 := ⟨m - 1, by omega⟩
    have ex := w32_id (x := x + 1) (by omega) (by omega)
    unfold g_se_readParts_L4
    rw [if_neg (by decide), if_neg (by omega), setP_1]
    unfold set1
    refine zP'.bind (c_wrd swk1 h hs) (fun w s1 p1 => ?_)
    obtain ⟨p1, pw⟩ := p1
    try dsimp +instances only
    have r1 := wrdR_bd (a := 1) (Ln := 39) (f := cT σ) h2.2
    cases e1 : wrdR 1 39 (cT σ) (σ 120 1) (σ 120 2) with
    | inl q =>
      obtain ⟨f1, f3⟩ := p1.no e1
      rw [e1] at r1
      have r1 : σ 120 2 ≤ q ∧ q ≤ σ 120 1 := r1
      exact (c_set0 (by rw [f3]; omega)).imp (fun v s k => ⟨(frSe.of f1).trans k.1, by show s 120 3 = q; rw [k.2, f3]⟩)
    | inr y =>
      obtain ⟨f1, fv, fp, f3⟩ := p1.ok e1
      rw [e1] at r1
      have r1 : σ 120 2 ≤ y.2 ∧ y.2 ≤ σ 120 1 := r1
      have k1 := wrdR_ok (v := y.1) (p' := y.2) e1
      have k2 : y.1 ≤ 6 := by
        rw [← fv, pw]
        exact wordV1_le
      have t1 : tpL s1 := h.mv f1 (by rw [fp]; omega)
      have L1 : s1 120 1 = σ 120 1 := f1 120 1 (Or.inr (by decide))
      subst fv
      dsimp only
      refine zP'.bind (c_sgn' t1 f3 (by decide)) (fun u s2 p2 => ?_)
      try dsimp +instances only
      rw [cT_f f1, L1, fp] at p2
      have r2 := sgnR_bd (x := 32) (f := cT σ) r1.2
      cases e2 : sgnR 32 (cT σ) (σ 120 1) y.2 with
      | inl q =>
        obtain ⟨g1, g3⟩ := p2.no e2
        rw [e2] at r2
        have r2 : y.2 ≤ q ∧ q ≤ σ 120 1 := r2
        exact (c_set0v (by rw [g3]; omega)).imp (fun v s k => ⟨(frSe.of (f1.trans g1)).trans k.1, by show s 120 3 = q; rw [k.2, g3]⟩)
      | inr z =>
        obtain ⟨g1, -, gp, g3⟩ := p2.ok e2
        rw [e2] at r2
        have r2 : y.2 ≤ z.2 ∧ z.2 ≤ σ 120 1 := r2
        have k3 := sgnR_ok (v := z.1) (p' := z.2) e2
        have g12 := f1.trans g1
        have t2 : tpL s2 := h.mv g12 (by rw [gp]; omega)
        have L2 : s2 120 1 = σ 120 1 := g12 120 1 (Or.inr (by decide))
        dsimp only
        refine zP'.bind (c_setV (w := y.1) t2 g3) (fun v s3 p3 => ?_)
        try dsimp +instances only
        rw [cT_f g12, L2, gp] at p3
        have r3 := setV_bd (w := y.1) (f := cT σ) r2.2
        cases e3 : setV y.1 (cT σ) (σ 120 1) z.2 with
        | inl q =>
          obtain ⟨i1, i3⟩ := p3.no e3
          rw [e3] at r3
          have r3 : z.2 ≤ q ∧ q ≤ σ 120 1 := r3
          refine zP'.bind c_become' (fun _ s4 p4 => ?_)
          have e43 : s4 120 3 = s3 120 3 := p4 120 3 (by decide)
          try dsimp +instances only
          rw [p_another0 (by rw [e43, i3]; omega)]
          rw [Option.bind_some]
          try dsimp +instances only
          cases n with
          | zero => exact zP'.no
          | succ n =>
            unfold g_se_readParts_L4
            rw [if_pos rfl]
            exact zP'.ret ⟨(frSe.of (g12.trans i1)).trans (fun a j _ kk => p4 a j kk), by show s4 120 3 = q; rw [e43, i3]⟩
        | inr t =>
          obtain ⟨i1, iv, ip, i3⟩ := p3.ok e3
          rw [e3] at r3
          have r3 : z.2 ≤ t.2 ∧ t.2 ≤ σ 120 1 := r3
          subst iv
          have g13 := g12.trans i1
          dsimp only [set1v]
          refine zP'.bind c_become (fun _ s4 p4 => ?_)
          have p4 := p4.1 ⟨k1.1, by omega⟩
          subst p4
          try dsimp +instances only
          generalize hs4 : zu s3 119 y.1 t.1 = s4
          have q4 : ∀ a j, a ≠ 119 → s4 a j = s3 a j := fun a j kk => by rw [← hs4, zu_a kk]
          have t3 : tpL s3 := h.mv g13 (by rw [ip]; omega)
          have L3 : s3 120 1 = σ 120 1 := g13 120 1 (Or.inr (by decide))
          have t4 : tpL s4 := by
            have e121 : s4 121 = s3 121 := funext (fun j => q4 121 j (by decide))
            unfold tpL
            rw [q4 120 1 (by decide), q4 120 2 (by decide), e121]
            exact t3
          have c4 : cT s4 = cT σ := by
            rw [← cT_f g13]
            funext j
            unfold cT
            rw [q4 120 1 (by decide), q4 121 j (by decide)]
          have v4 : ∀ j, 0 ≤ j → j < 7 → s4 119 j = updS g y.1 t.1 j := fun j j1 j2 => by
            unfold updS
            by_cases cj : j = y.1
            · rw [if_pos cj, ← hs4, zu_e cj]
            · rw [if_neg cj, ← hs4, zu_i cj]
              exact (g13 119 j (Or.inl (by decide))).trans (hg j j1 j2)
          have f4 : frSe σ s4 := (frSe.of g13).trans (fun a j _ kk => q4 a j kk)
          refine zP'.bind (c_more t4 (by rw [q4 120 3 (by decide)]; exact i3)) (fun v s5 p5 => ?_)
          obtain ⟨m0, m1, m2, m3⟩ := p5
          rw [q4 120 2 (by decide), q4 120 1 (by decide), ip, L3] at m1 m2 m3
          rw [c4] at m2 m3
          try dsimp +instances only
          rw [ex]
          by_cases cl : t.2 < σ 120 1
          · rw [if_pos cl]
            by_cases c59 : cT σ t.2 = 59
            · obtain ⟨rfl, m2b, m2c⟩ := m2 ⟨cl, c59⟩
              rw [if_pos c59]
              have L5 : s5 120 1 = σ 120 1 := (m0 120 1 (Or.inr (by decide))).trans ((q4 120 1 (by decide)).trans L3)
              have IH := c_parts n m (x + 1) (updS g y.1 t.1) s5 (t4.mv m0 (by rw [m2b, q4 120 1 (by decide), L3]; omega)) m2c (by omega) (by rw [m2b]; omega) (by rw [L5, m2b]; omega) (fun j j1 j2 => (m0 119 j (Or.inl (by decide))).trans (v4 j j1 j2))
              rw [cT_f m0, c4, L5, m2b] at IH
              exact IH.imp (fun v s k => ⟨(f4.trans (frSe.of m0)).trans k.1, k.2⟩)
            · obtain ⟨rfl, m3b⟩ := m3 ⟨cl, c59⟩
              rw [if_neg c59]
              cases n with
              | zero => exact zP'.no
              | succ n =>
                unfold g_se_readParts_L4
                rw [if_pos rfl]
                exact zP'.ret ⟨f4.trans (frSe.of m0), m3b⟩
          · obtain ⟨rfl, rfl⟩ := m1 (by omega)
            rw [if_neg cl]
            cases n with
            | zero => exact zP'.no
            | succ n =>
              unfold g_se_readParts_L4
              rw [if_pos rfl]
              exact zP'.ret ⟨f4, rfl, (q4 120 3 (by decide)).trans i3, v4⟩
/-! the reference -/
def stPo (σ : zS) (r : Sum Int ((Int × Int) × Int)) (b : Int) (s : zS) : Prop := frS σ s ∧ match r with
  | .inl q => b = 0 ∧ s 143 22 = q
  | .inr x => b = 1 ∧ s 143 21 = x.2 ∧ s 143 22 = σ 143 22 ∧ ∀ j, s 160 j = updS (σ 160) x.1.1 x.1.2 j
def stQ (σ : zS) (x b : Int) (s : zS) : zRd → Prop
  | .inl q => b = 0 ∧ s 143 22 = q
  | .inr z => b = 1 ∧ s 143 21 = z.2 ∧ s 143 22 = σ 143 22 ∧ ∀ j, s 160 j = updS (σ 160) x z.1 j
def spQ (r : Int) (s : zS) : Sum Int (Int × (Int → Int)) → Prop
  | .inl q => s 143 22 = q
  | .inr y => r = y.1 ∧ s 143 22 = -1 ∧ ∀ j, 0 ≤ j → j < 7 → s 160 j = y.2 j
theorem m_set111 {x hi lo w : Int} {σ : zS} (hx : 0 ≤ x ∧ x < 7) (h : tpP σ) (hs : σ 143 22 < 0) (hw : 1 ≤ w ∧ w ≤ 9) : zP' (g_m_isSetting_L111 x hi lo w σ) (fun b s => frS σ s ∧ stQ σ x b s (numR w.toNat lo hi (mT σ) (σ 143 20) (σ 143 21))) := by
  unfold g_m_isSetting_L111
  refine zP'.bind (m_num h hs hw) (fun b s p => ?_)
  obtain ⟨p1, p2⟩ := p
  try dsimp +instances only
  cases e : numR w.toNat lo hi (mT σ) (σ 143 20) (σ 143 21) with
  | inl q =>
    obtain ⟨f1, rfl, f3⟩ := p1.no e
    rw [if_neg (by decide)]
    exact zP'.ret ⟨frS.of f1, rfl, f3⟩
  | inr z =>
    obtain ⟨f1, rfl, f3, f4⟩ := p1.ok e
    rw [if_pos (by decide)]
    unfold g_m_isSetting_L119
    try dsimp +instances only
    rw [if_pos hx]
    refine zP'.ret ⟨fun a j k1 k2 => (zu_a k1).trans (f1 a j k2), rfl, (zu_a (by decide)).trans f3, (zu_a (by decide)).trans f4, fun j => ?_⟩
    unfold updS
    rw [p2 z e]
    by_cases c : j = x
    · rw [zu_e c, if_pos c]
    · rw [zu_i c, if_neg c]
      exact f1 160 j (Or.inl (by decide))
theorem m_set48 {x : Int} {a c Ln : Nat} {σ : zS} (hx : 0 ≤ x ∧ x < 7) (hw : zP' (g_m_word c σ) (fun v s => mPo σ (wrdR a Ln (mT σ) (σ 143 20) (σ 143 21)) (if v = -1 then 0 else 1) s ∧ v = wordV a Ln (mT σ) (σ 143 20) (σ 143 21))) : zP' (g_m_isSetting_L48 x c σ) (fun b s => frS σ s ∧ stQ σ x b s (wrdR a Ln (mT σ) (σ 143 20) (σ 143 21))) := by
  unfold g_m_isSetting_L48
  refine zP'.bind hw (fun v s p => ?_)
  obtain ⟨p1, p2⟩ := p
  try dsimp +instances only
  rw [zu_e rfl]
  cases e : wrdR a Ln (mT σ) (σ 143 20) (σ 143 21) with
  | inl q =>
    obtain ⟨f1, f2, f3⟩ := p1.no e
    have hv : v = -1 := Classical.byContradiction (fun hc => by rw [if_neg hc] at f2; exact absurd f2 (by decide))
    rw [hv, if_neg (by decide)]
    exact zP'.ret ⟨frS.of (f1.trans (fr3.u (by omega))), rfl, (zu_i (by decide)).trans f3⟩
  | inr z =>
    obtain ⟨f1, f2, f3, f4⟩ := p1.ok e
    have k := wrdR_ok (v := z.1) (p' := z.2) e
    have hz : v = z.1 := by
      have e1 := e
      unfold wrdR at e1
      split at e1
      · cases e1
      · rw [p2]
        exact congrArg (·.1) (Sum.inr.inj e1)
    rw [hz, if_pos k.1]
    unfold g_m_isSetting_L119
    try dsimp +instances only
    rw [if_pos hx, zu_e rfl]
    refine zP'.ret ⟨fun a' j k1 k2 => (zu_a k1).trans ((zu_c (by omega)).trans (f1 a' j k2)), rfl, ?_, ?_, fun j => ?_⟩
    · rw [zu_a (by decide), zu_i (by decide)]
      exact f3
    · rw [zu_a (by decide), zu_i (by decide)]
      exact f4
    · unfold updS
      by_cases c : j = x
      · rw [zu_e c, if_pos c]
      · rw [zu_i c, if_neg c, zu_a (by decide)]
        exact f1 160 j (Or.inl (by decide))
theorem m_set75 {x w : Int} {σ : zS} (hx : (x = 0 ∨ x = 1 ∨ x = 2 ∨ x = 6)) (hw : w = if x = 6 then 4 else 2) (h : tpP σ) (hs : σ 143 22 < 0) : zP' (g_m_isSetting_L75 x w σ) (fun b s => frS σ s ∧ stQ σ x b s (setV x (mT σ) (σ 143 20) (σ 143 21))) := by
  unfold g_m_isSetting_L75 setV
  rcases hx with rfl | rfl | rfl | rfl
  · rw [if_neg (by decide)] at hw
    subst hw
    rw [if_neg (by decide), if_pos rfl]
    unfold g_m_isSetting_L84 g_m_isSetting_L93
    rw [if_pos rfl]
    exact m_set111 (by decide) h hs (by decide)
  · rw [if_neg (by decide)] at hw
    subst hw
    rw [if_pos (by decide), if_neg (by decide), if_pos rfl]
    unfold g_m_isSetting_L84 g_m_isSetting_L93
    rw [if_neg (by decide), if_neg (by decide)]
    exact m_set111 (by decide) h hs (by decide)
  · rw [if_neg (by decide)] at hw
    subst hw
    rw [if_pos (by decide), if_neg (by decide), if_neg (by decide), if_pos rfl]
    unfold g_m_isSetting_L84
    rw [if_neg (by decide), if_pos (by decide), if_neg (by decide)]
    exact m_set111 (by decide) h hs (by decide)
  · rw [if_pos rfl] at hw
    subst hw
    rw [if_pos (by decide), if_neg (by decide), if_neg (by decide), if_neg (by decide), if_neg (by decide), if_pos rfl]
    unfold g_m_isSetting_L84
    rw [if_neg (by decide), if_pos (by decide), if_pos (by decide)]
    exact m_set111 (by decide) h hs (by decide)
theorem m_isSetting {σ : zS} (h : tpP σ) (hs : σ 143 22 < 0) : zP' (g_m_isSetting σ) (stPo σ (set1 (mT σ) (σ 143 20) (σ 143 21))) := by
  have h2 := h.2.1
  unfold g_m_isSetting set1
  refine zP'.bind (m_wrd11 h hs) (fun w s1 p1 => ?_)
  obtain ⟨p1, pw⟩ := p1
  try dsimp +instances only
  have r1 := wrdR_bd (a := 1) (Ln := 39) (f := mT σ) h2.2
  cases e1 : wrdR 1 39 (mT σ) (σ 143 20) (σ 143 21) with
  | inl q =>
    obtain ⟨f1, f2, f3⟩ := p1.no e1
    have hv : w = -1 := Classical.byContradiction (fun hc => by rw [if_neg hc] at f2; exact absurd f2 (by decide))
    rw [hv, if_pos (by decide)]
    exact zP'.ret ⟨frS.of f1, rfl, f3⟩
  | inr y =>
    obtain ⟨f1, f2, fp, f3⟩ := p1.ok e1
    rw [e1] at r1
    have r1 : σ 143 21 ≤ y.2 ∧ y.2 ≤ σ 143 20 := r1
    have k1 := wrdR_ok (v := y.1) (p' := y.2) e1
    have hz : w = y.1 := by
      have e2 := e1
      unfold wrdR at e2
      split at e2
      · cases e2
      · rw [pw]
        exact congrArg (·.1) (Sum.inr.inj e2)
    have k2 : y.1 ≤ 6 := by
      rw [← hz, pw]
      exact wordV1_le
    subst hz
    have q20 : s1 143 20 = σ 143 20 := f1 143 20 (Or.inr (by decide))
    have t1 : tpP s1 := h.mv q20 (funext (fun j => f1 159 j (Or.inl (by decide)))) (by rw [fp]; omega)
    rw [if_neg (by omega)]
    dsimp only
    refine zP'.bind (m_sgn t1 (by rw [f3]; exact hs) (by decide)) (fun b s2 p2 => ?_)
    try dsimp +instances only
    rw [mT_f f1, q20, fp] at p2
    have r2 := sgnR_bd (x := 32) (f := mT σ) r1.2
    cases e2 : sgnR 32 (mT σ) (σ 143 20) y.2 with
    | inl q =>
      obtain ⟨g1, rfl, g3⟩ := p2.no e2
      rw [if_neg (by decide)]
      exact zP'.ret ⟨frS.of (f1.trans g1), rfl, g3⟩
    | inr z =>
      obtain ⟨g1, rfl, gp, g3⟩ := p2.ok e2
      rw [e2] at r2
      have r2 : y.2 ≤ z.2 ∧ z.2 ≤ σ 143 20 := r2
      have g12 := f1.trans g1
      have q20' : s2 143 20 = σ 143 20 := g12 143 20 (Or.inr (by decide))
      have t2 : tpP s2 := h.mv q20' (funext (fun j => g12 159 j (Or.inl (by decide)))) (by rw [gp]; omega)
      have hs2 : s2 143 22 < 0 := by rw [g3, f3]; exact hs
      have e160 : s2 160 = σ 160 := funext (fun j => g12 160 j (Or.inl (by decide)))
      rw [if_pos (by decide)]
      dsimp only
      have fin : ∀ (g : Option (Int × zS)), zP' g (fun b s => frS s2 s ∧ stQ s2 y.1 b s (setV y.1 (mT s2) (s2 143 20) (s2 143 21))) → zP' g (stPo σ (set1v y.1 (setV y.1 (mT σ) (σ 143 20) z.2))) := fun g hg => hg.imp (fun b s k => by
        obtain ⟨k1, k2⟩ := k
        rw [mT_f g12, q20', gp] at k2
        cases e3 : setV y.1 (mT σ) (σ 143 20) z.2 with
        | inl q =>
          rw [e3] at k2
          exact ⟨(frS.of g12).trans k1, k2⟩
        | inr t =>
          rw [e3] at k2
          obtain ⟨n1, n2, n3, n4⟩ := k2
          rw [e160] at n4
          exact ⟨(frS.of g12).trans k1, n1, n2, by rw [n3, g3, f3], n4⟩)
      refine fin _ ?_
      by_cases c35 : 3 ≤ y.1 ∧ y.1 ≤ 5
      · rw [s_isIn_t c35.1 c35.2]
        rw [Option.bind_some]
        try dsimp +instances only
        rw [if_neg (by decide)]
        by_cases c3 : y.1 = 3
        · rw [if_neg (fun hn => hn c3)]
          have eV : setV y.1 (mT s2) (s2 143 20) (s2 143 21) = wrdR 2 14 (mT s2) (s2 143 20) (s2 143 21) := by
            unfold setV
            rw [if_neg (by omega), if_neg (by omega), if_neg (by omega), if_pos c3]
          rw [eV]
          exact m_set48 (by omega) (m_wrd12 t2 hs2)
        · rw [if_pos c3]
          have eV : setV y.1 (mT s2) (s2 143 20) (s2 143 21) = wrdR 3 6 (mT s2) (s2 143 20) (s2 143 21) := by
            unfold setV
            rw [if_neg (by omega), if_neg (by omega), if_neg (by omega), if_neg (by omega), if_neg (by omega)]
          rw [eV]
          exact m_set48 (by omega) (m_wrd13 t2 hs2)
      · rw [s_isIn_f (by omega)]
        rw [Option.bind_some]
        try dsimp +instances only
        rw [if_pos rfl]
        by_cases c6 : y.1 = 6
        · rw [if_neg (fun hn => hn c6)]
          exact m_set75 (by omega) (by rw [if_pos c6]) t2 hs2
        · rw [if_pos c6]
          exact m_set75 (by omega) (by rw [if_neg c6]) t2 hs2
/-- the loop over the parts, to its end -/
theorem m_parts {Q : Int → zS → Prop} {σ0 : zS} : ∀ (n m : Nat) (x : Int) (g : Int → Int) (σ : zS), tpP σ → σ 143 22 = -1 → 0 ≤ x → 2 * x ≤ σ 143 21 → σ 143 20 - σ 143 21 < (m : Int) → frS σ0 σ → (∀ j, 0 ≤ j → j < 7 → σ 160 j = g j) → (∀ r s, frS σ0 s → spQ r s (setP (mT σ) (σ 143 20) m (σ 143 21) x g) → ∀ k, zP' (g_m_settings_L37 k r 0 s) Q) → zP' (g_m_settings_L37 n x 1 σ) Q
  | 0, _, _, _, _, _, _, _, _, _, _, _, _ => zP'.no
  | n + 1, m, x, g, σ, h, hs, hx, hx2, hm, hf, hg, hQ => by
    have h1 := h.1
    have h2 := h.2.1
    obtain ⟨m, rfl⟩ : ∃ q, m = q + 1 := ⟨m - 1, by omega⟩
    have ex := w32_id (x := x + 1) (by omega) (by omega)
    unfold g_m_settings_L37
    rw [if_neg (by decide)]
    rw [setP_1] at hQ
    refine zP'.bind (m_isSetting h (by omega)) (fun b s1 p1 => ?_)
    try dsimp +instances only
    obtain ⟨f1, p1⟩ := p1
    obtain ⟨b1, b2⟩ := set1_bd (f := mT σ) h2.2
    rw [ex]
    cases e1 : set1 (mT σ) (σ 143 20) (σ 143 21) with
    | inl q =>
      rw [e1] at p1 hQ
      obtain ⟨rfl, p2⟩ := p1
      rw [if_pos rfl]
      unfold g_m_settings_L69
      rw [if_pos rfl]
      exact hQ (x + 1) s1 (hf.trans f1) p2 n
    | inr y =>
      rw [e1] at p1 hQ
      obtain ⟨rfl, p2, p3, p4⟩ := p1
      obtain ⟨y1, y2, y3, y4⟩ := b2 y e1
      have q20 : s1 143 20 = σ 143 20 := f1 143 20 (by decide) (Or.inr (by decide))
      have q159 : s1 159 = σ 159 := funext (fun j => f1 159 j (by decide) (Or.inl (by decide)))
      have t1 : tpP s1 := h.mv q20 q159 (by rw [p2]; omega)
      have eT : mT s1 = mT σ := by
        funext j
        unfold mT
        rw [q20, q159]
      have e160 : ∀ j, 0 ≤ j → j < 7 → s1 160 j = updS g y.1.1 y.1.2 j := fun j j1 j2 => by
        rw [p4]
        unfold updS
        rw [hg j j1 j2]
      rw [if_neg (by decide), p2, q20]
      dsimp only at hQ
      by_cases cl : y.2 < σ 143 20
      · rw [if_pos cl] at hQ
        rw [if_pos (by omega)]
        unfold g_m_settings_L69
        rw [if_neg (by decide)]
        refine zP'.bind (m_sgn t1 (by omega) (by decide)) (fun b s2 k2 => ?_)
        try dsimp +instances only
        rw [eT, q20, p2] at k2
        by_cases c59 : mT σ y.2 = 59
        · rw [if_pos c59] at hQ
          have e2 : sgnR 59 (mT σ) (σ 143 20) y.2 = .inr (59, y.2 + 1) := if_pos ⟨cl, c59⟩
          obtain ⟨g1, rfl, gp, g3⟩ := k2.ok e2
          have gp : s2 143 21 = y.2 + 1 := gp
          have q20' : s2 143 20 = σ 143 20 := (g1 143 20 (Or.inr (by decide))).trans q20
          refine m_parts n m (x + 1) (updS g y.1.1 y.1.2) s2 (t1.mv (g1 143 20 (Or.inr (by decide))) (funext (fun j => g1 159 j (Or.inl (by decide)))) (by rw [gp, q20]; omega)) (by rw [g3, p3]; exact hs) (by omega) (by rw [gp]; omega) (by rw [q20', gp]; omega) ((hf.trans f1).trans (frS.of g1)) (fun j j1 j2 => (g1 160 j (Or.inl (by decide))).trans (e160 j j1 j2)) ?_
          rw [mT_f g1, eT, q20', gp]
          exact hQ
        · rw [if_neg c59] at hQ
          have e2 : sgnR 59 (mT σ) (σ 143 20) y.2 = .inl y.2 := if_neg (fun hn => c59 hn.2)
          obtain ⟨g1, rfl, g3⟩ := k2.no e2
          exact hQ (x + 1) s2 ((hf.trans f1).trans (frS.of g1)) g3 n
      · rw [if_neg cl] at hQ
        rw [if_neg (by omega)]
        exact hQ (x + 1) s1 (hf.trans f1) ⟨rfl, by rw [p3]; exact hs, e160⟩ n
end
section
/-! 6c.settings -/
/-! settings() of both sides -/
def setAns : Sum Int (Int × (Int → Int)) → Int
  | .inl q => -100 - q
  | .inr x => x.1
def setVal (g : Int → Int) : Sum Int (Int × (Int → Int)) → Int → Int
  | .inl _ => g
  | .inr x => x.2
theorem c_begin {σ : zS} : g_ta_begin σ = some ((), zu (zu σ 120 2 0) 120 3 (-1)) := rfl
theorem c_seCopy {a b : Nat} {σ : zS} : g_se_copyFrom a b σ = some ((), zcp σ (b + 1) 0 (a + 1) 0 7) := rfl
theorem p_isSound {σ : zS} : g_ta_isSound σ = some (if σ 120 3 = -1 then 1 else 0, σ) := by
  unfold g_ta_isSound
  try dsimp +instances only
  by_cases c : σ 120 3 = -1
  · rw [if_neg (fun h => h c), if_pos c]
  · rw [if_pos c, if_neg c]
theorem c_end {x : Int} {σ : zS} : g_ta_end x σ = some (if σ 120 3 = -1 then x else w32 (-100 - σ 120 3), zu σ 120 1 0) := by
  unfold g_ta_end
  try dsimp +instances only
  rw [p_isSound]
  rw [Option.bind_some]
  try dsimp +instances only
  rw [zu_i (by decide)]
  by_cases c : σ 120 3 = -1
  · rw [if_pos c, if_neg (by decide), if_pos c]
  · rw [if_neg c, if_pos rfl, if_neg c]
theorem zcp_e {σ : zS} {a b : Nat} {sp dp n j : Int} (h : dp ≤ j ∧ j < dp + n) : zcp σ a sp b dp n b j = σ a (sp + (j - dp)) := if_pos ⟨rfl, h⟩
/-- the tape of the class: bytes 1 to 127 -/
def byC (σ : zS) : Prop := ∀ j : Int, 0 ≤ j → j < σ 120 1 → 1 ≤ σ 121 j ∧ σ 121 j ≤ 127
def S7 (f : Int → Int) : Int → Int := fun j => if 0 ≤ j ∧ j < 7 then f j else 0
theorem S7_in {f : Int → Int} {j : Int} (h1 : 0 ≤ j) (h2 : j < 7) : S7 f j = f j := if_pos ⟨h1, h2⟩
theorem S7_ext {f g : Int → Int} (h : ∀ j, 0 ≤ j → j < 7 → f j = g j) : S7 f = S7 g := by
  funext j
  unfold S7
  by_cases c : 0 ≤ j ∧ j < 7
  · rw [if_pos c, if_pos c]
    exact h j c.1 c.2
  · rw [if_neg c, if_neg c]
theorem c_settings {σ : zS} (H : CI σ) (hb : byC σ) : zP' (g_c_settings σ) (fun v s => v = setAns (setP (cT σ) (σ 120 1) 161 0 0 (S7 (σ 50))) ∧ ∀ j, 0 ≤ j → j < 7 → s 50 j = setVal (S7 (σ 50)) (setP (cT σ) (σ 120 1) 161 0 0 (S7 (σ 50))) j) := by
  have ht := CI.ct H
  unfold g_c_settings
  rw [c_begin]
  rw [Option.bind_some]
  try dsimp +instances only
  rw [c_seCopy]
  rw [Option.bind_some]
  try dsimp +instances only
  have H1 : CI (zcp (zu (zu σ 120 2 0) 120 3 (-1)) (49 + 1) 0 (118 + 1) 0 7) := by
    have h1 := (zP'.of (g_ta_begin_sp H) _ _ c_begin).1
    exact (zP'.of (g_se_copyFrom_sp (a0 := 118) (a1 := 49) (by omega) (by omega) h1) _ _ c_seCopy).1
  generalize hs1 : zcp (zu (zu σ 120 2 0) 120 3 (-1)) (49 + 1) 0 (118 + 1) 0 7 = s1 at H1
  have q1 : ∀ a j, a ≠ 119 → (a ≠ 120 ∨ (j ≠ 2 ∧ j ≠ 3)) → s1 a j = σ a j := fun a j k1 k2 => by rw [← hs1, zcp_a k1, zu_c (by omega), zu_c (by omega)]
  have q2 : s1 120 2 = 0 := by rw [← hs1, zcp_a (by decide), zu_i (by decide), zu_e rfl]
  have q3 : s1 120 3 = -1 := by rw [← hs1, zcp_a (by decide), zu_e rfl]
  have q119 : ∀ j, 0 ≤ j → j < 7 → s1 119 j = σ 50 j := fun j j1 j2 => by
    rw [← hs1]
    refine (zcp_e ⟨j1, by omega⟩).trans ?_
    rw [zu_a (by decide), zu_a (by decide), show 0 + (j - 0) = j by omega]
  have qL : s1 120 1 = σ 120 1 := q1 120 1 (by decide) (Or.inr (by decide))
  have q121 : s1 121 = σ 121 := funext (fun j => q1 121 j (by decide) (Or.inl (by decide)))
  have t1 : tpL s1 := by
    unfold tpL
    rw [qL, q2, q121]
    exact ⟨ht, by omega, hb⟩
  have eT : cT s1 = cT σ := by
    funext j
    unfold cT
    rw [qL, q121]
  have q50 : ∀ j, s1 50 j = σ 50 j := fun j => q1 50 j (by decide) (Or.inl (by decide))
  have P : zP' (g_se_readParts s1) (sePo s1 (setP (cT s1) (s1 120 1) 161 (s1 120 2) 0 (S7 (σ 50)))) := c_parts zK 161 0 (S7 (σ 50)) s1 t1 q3 (by omega) (by omega) (by omega) (fun j j1 j2 => (q119 j j1 j2).trans (S7_in j1 j2).symm)
  rw [eT, qL, q2] at P
  refine zP'.bind (P.and (zP'.of (g_se_readParts_sp H1))) (fun v s2 p2 => ?_)
  obtain ⟨⟨f2, r2⟩, H2, -, -⟩ := p2
  try dsimp +instances only
  rw [p_isSound]
  rw [Option.bind_some]
  try dsimp +instances only
  unfold g_c_settings_L73
  cases e : setP (cT σ) (σ 120 1) 161 0 0 (S7 (σ 50)) with
  | inl q =>
    rw [e] at r2
    have r2 : s2 120 3 = q := r2
    have hq := setP_bd 161 0 0 (S7 (σ 50)) (by omega) q e
    have n3 : ¬ s2 120 3 = -1 := by omega
    rw [if_neg n3, if_pos rfl, c_end, if_neg n3, r2, w32_id (x := -100 - q) (by omega) (by omega)]
    rw [Option.bind_some]
    refine zP'.ret ⟨rfl, fun j j1 j2 => ?_⟩
    show zu s2 120 1 0 50 j = S7 (σ 50) j
    rw [zu_a (by decide), f2 50 j (Or.inl (by decide)) (by decide), q50, S7_in j1 j2]
  | inr x =>
    rw [e] at r2
    obtain ⟨r1, r3, r4⟩ := r2
    rw [if_pos r3, if_neg (by decide), c_seCopy]
    rw [Option.bind_some]
    try dsimp +instances only
    have H3 : CI (zcp s2 (118 + 1) 0 (49 + 1) 0 7) := (zP'.of (g_se_copyFrom_sp (a0 := 49) (a1 := 118) (by omega) (by omega) H2) _ _ c_seCopy).1
    generalize hs3 : zcp s2 (118 + 1) 0 (49 + 1) 0 7 = s3 at H3
    refine zP'.bind (zP'.of (g_ca_trim_sp (a0 := 48) (by omega) H3)) (fun _ s4 p4 => ?_)
    obtain ⟨-, G4, -⟩ := p4
    have e3 : s4 120 3 = -1 := by
      rw [G4 120 3 (Or.inr rfl), ← hs3, zcp_a (by decide)]
      exact r3
    try dsimp +instances only
    rw [c_end, if_pos e3]
    rw [Option.bind_some]
    refine zP'.ret ⟨r1, fun j j1 j2 => ?_⟩
    show zu s4 120 1 0 50 j = x.2 j
    rw [zu_a (by decide), G4 50 j (Or.inr rfl), ← hs3]
    refine (zcp_e ⟨j1, by omega⟩).trans ?_
    rw [show 0 + (j - 0) = j by omega]
    exact r4 j j1 j2
/-! the reference -/
theorem setP_rg {f : Int → Int} {L : Int} : ∀ (m : Nat) (p n : Int) (g : Int → Int), (1 ≤ g 1 ∧ g 1 ≤ 99) → (1 ≤ g 2 ∧ g 2 ≤ 12) → ∀ x, setP f L m p n g = .inr x → (1 ≤ x.2 1 ∧ x.2 1 ≤ 99) ∧ (1 ≤ x.2 2 ∧ x.2 2 ≤ 12)
  | 0, _, _, _, _, _, _, e => by cases e
  | m + 1, p, n, g, h1, h2, x, e => by
    rw [setP_1] at e
    cases e1 : set1 f L p with
    | inl q =>
      rw [e1] at e
      cases e
    | inr y =>
      rw [e1] at e
      dsimp only at e
      have hv : (y.1.1 = 1 → 1 ≤ y.1.2 ∧ y.1.2 ≤ 99) ∧ (y.1.1 = 2 → 1 ≤ y.1.2 ∧ y.1.2 ≤ 12) := by
        unfold set1 at e1
        cases k1 : wrdR 1 39 f L p with
        | inl q =>
          rw [k1] at e1
          cases e1
        | inr a =>
          rw [k1] at e1
          dsimp only at e1
          cases k2 : sgnR 32 f L a.2 with
          | inl q =>
            rw [k2] at e1
            cases e1
          | inr b =>
            rw [k2] at e1
            dsimp only at e1
            cases k3 : setV a.1 f L b.2 with
            | inl q =>
              rw [k3] at e1
              dsimp only [set1v] at e1
              cases e1
            | inr z =>
              rw [k3] at e1
              dsimp only [set1v] at e1
              cases e1
              dsimp only
              unfold setV at k3
              refine ⟨fun c => ?_, fun c => ?_⟩
              · rw [if_neg (by omega), if_pos c] at k3
                have k := numR_ok (v := z.1) (p' := z.2) k3
                exact ⟨k.1, k.2.1⟩
              · rw [if_neg (by omega), if_neg (by omega), if_pos c] at k3
                have k := numR_ok (v := z.1) (p' := z.2) k3
                exact ⟨k.1, k.2.1⟩
      have u1 : 1 ≤ updS g y.1.1 y.1.2 1 ∧ updS g y.1.1 y.1.2 1 ≤ 99 := by
        unfold updS
        split
        · rename_i c
          exact hv.1 c.symm
        · exact h1
      have u2 : 1 ≤ updS g y.1.1 y.1.2 2 ∧ updS g y.1.1 y.1.2 2 ≤ 12 := by
        unfold updS
        split
        · rename_i c
          exact hv.2 c.symm
        · exact h2
      split at e
      · split at e
        · exact setP_rg m _ _ _ u1 u2 x e
        · cases e
      · cases e
        exact ⟨u1, u2⟩
/-- the told values become those of the reference -/
theorem m_set105 {σ0 : zS} {x : Int} (h : MI σ0) {g : Int → Int} (h1 : 1 ≤ g 1) (h2 : 1 ≤ g 2) : ∀ (n k : Nat) (s : zS), k ≤ 7 → (∀ j, j = 0 ∨ 340 ≤ j → s 144 j = σ0 144 j) → (∀ j, 0 ≤ j → j < 7 → s 160 j = g j) → (∀ j : Int, 0 ≤ j → j < (k : Int) → s 144 (11 + j) = g j) → zP' (g_m_settings_L105 n x (k : Int) s) (fun v t => v = x ∧ ∀ j : Int, 0 ≤ j → j < 7 → t 144 (11 + j) = g j)
  | 0, _, _, _, _, _, _ => zP'.no
  | n + 1, k, s, hk, hf, hg, hv => by
    unfold g_m_settings_L105
    refine zP'.ite (fun c => ?_) (fun c => ?_)
    · have hN : NI s := NI_fr h.1 (fun j hj => hf j (by omega))
      obtain ⟨N, n1, n2, n3⟩ := hN
      have e12 : s 144 12 = g 1 := hv 1 (by omega) (by omega)
      have e13 : s 144 13 = g 2 := hv 2 (by omega) (by omega)
      obtain ⟨s', N', e1, e2, e3, e4, e5, e6⟩ := s_trims n3 n2 (by omega) (by omega) (by omega)
      rw [e1]
      rw [Option.bind_some]
      refine zP'.ret ⟨rfl, fun j j1 j2 => ?_⟩
      show s' 144 (11 + j) = g j
      rw [e5 144 _ (Or.inr (by omega)) (Or.inl (by decide))]
      exact hv j j1 (by omega)
    · rw [w32_id (x := 11 + (k : Int)) (by omega) (by omega), w32_id (x := (k : Int) + 1) (by omega) (by omega), show (k : Int) + 1 = ((k + 1 : Nat) : Int) by omega]
      refine zP'.gd (fun _ => zP'.gd (fun _ => ?_))
      try dsimp +instances only
      refine m_set105 h h1 h2 n (k + 1) _ (by omega) (fun j hj => (zu_i (by omega)).trans (hf j hj)) (fun j j1 j2 => (zu_a (by decide)).trans (hg j j1 j2)) (fun j j1 j2 => ?_)
      by_cases c2 : j = (k : Int)
      · rw [zu_e (by omega), hg _ (by omega) (by omega), c2]
      · rw [zu_i (by omega)]
        exact hv j j1 (by omega)
theorem m_set2 {σ0 : zS} {Q : Int → zS → Prop} (hQ : ∀ s, (∀ a j, a ≠ 160 → s a j = σ0 a j) → (∀ j : Int, 0 ≤ j → j < 7 → s 160 j = σ0 144 (11 + j)) → zP' ((g_m_begins s).bind fun o_30 => g_m_settings_L37 zK 0 1 o_30.2) Q) : ∀ (n k : Nat) (s : zS), k ≤ 7 → (∀ a j, a ≠ 160 → s a j = σ0 a j) → (∀ j : Int, 0 ≤ j → j < (k : Int) → s 160 j = σ0 144 (11 + j)) → zP' (g_m_settings_L2 n (k : Int) s) Q
  | 0, _, _, _, _, _ => zP'.no
  | n + 1, k, s, hk, hf, hv => by
    unfold g_m_settings_L2
    refine zP'.ite (fun c => hQ s hf (fun j j1 j2 => hv j j1 (by omega))) (fun c => ?_)
    rw [w32_id (x := 11 + (k : Int)) (by omega) (by omega), w32_id (x := (k : Int) + 1) (by omega) (by omega), show (k : Int) + 1 = ((k + 1 : Nat) : Int) by omega]
    refine zP'.gd (fun _ => zP'.gd (fun _ => ?_))
    try dsimp +instances only
    refine m_set2 hQ n (k + 1) _ (by omega) (fun a j k1 => (zu_a k1).trans (hf a j k1)) (fun j j1 j2 => ?_)
    by_cases c2 : j = (k : Int)
    · rw [zu_e c2, c2]
      exact hf 144 _ (by decide)
    · rw [zu_i c2]
      exact hv j j1 (by omega)
theorem m_settings3 {σ : zS} (h : MI σ) (hb : tpR σ) : zP' (g_m_settings σ) (fun v s => v = setAns (setP (mT σ) (σ 143 20) 161 0 0 (S7 (fun j => σ 144 (11 + j)))) ∧ ∀ j : Int, 0 ≤ j → j < 7 → s 144 (11 + j) = setVal (S7 (fun j => σ 144 (11 + j))) (setP (mT σ) (σ 143 20) 161 0 0 (S7 (fun j => σ 144 (11 + j)))) j) := by
  have hx := h.2.2.1.1
  obtain ⟨i1, i2, -⟩ := h.2.1
  unfold g_m_settings
  refine m_set2 (σ0 := σ) (fun s hf hv => ?_) zK 0 σ (by omega) (fun _ _ _ => rfl) (fun j j1 j2 => absurd j2 (by omega))
  unfold g_m_begins
  try dsimp only
  rw [Option.bind_some]
  try dsimp only
  generalize hs1 : zu (zu s 143 21 0) 143 22 (-1) = s1
  have q1 : ∀ a j, (a ≠ 143 ∨ (j ≠ 21 ∧ j ≠ 22)) → s1 a j = s a j := fun a j k => by rw [← hs1, zu_c (by omega), zu_c (by omega)]
  have e20 : s1 143 20 = σ 143 20 := (q1 143 20 (Or.inr (by decide))).trans (hf 143 20 (by decide))
  have e21 : s1 143 21 = 0 := by rw [← hs1, zu_i (by decide), zu_e rfl]
  have e22 : s1 143 22 = -1 := by rw [← hs1, zu_e rfl]
  have e159 : s1 159 = σ 159 := funext (fun j => (q1 159 j (Or.inl (by decide))).trans (hf 159 j (by decide)))
  have e144 : ∀ j, s1 144 j = σ 144 j := fun j => (q1 144 j (Or.inl (by decide))).trans (hf 144 j (by decide))
  have e160 : ∀ j : Int, 0 ≤ j → j < 7 → s1 160 j = S7 (fun j => σ 144 (11 + j)) j := fun j j1 j2 => by
    rw [q1 160 j (Or.inl (by decide)), hv j j1 j2, S7_in j1 j2]
  have eT : mT s1 = mT σ := by
    funext j
    unfold mT
    rw [e20, e159]
  have t1 : tpP s1 := by
    unfold tpP tpR
    rw [e20, e21, e159]
    exact ⟨hx, by omega, hb⟩
  refine m_parts (σ0 := s1) zK 161 0 (S7 (fun j => σ 144 (11 + j))) s1 t1 e22 (by omega) (by omega) (by omega) (frS.refl s1) e160 ?_
  rw [eT, e20, e21]
  intro r t f p k
  cases k with
  | zero => exact zP'.no
  | succ k =>
    unfold g_m_settings_L37
    rw [if_pos rfl]
    try dsimp +instances only
    have z22 : zu t 143 20 0 143 22 = t 143 22 := zu_i (by decide)
    rw [z22]
    cases e : setP (mT σ) (σ 143 20) 161 0 0 (S7 (fun j => σ 144 (11 + j))) with
    | inl q =>
      rw [e] at p
      have p : t 143 22 = q := p
      have hq := setP_bd 161 0 0 (S7 (fun j => σ 144 (11 + j))) hx.1 q e
      rw [if_neg (by omega), p, w32_id (x := -100 - q) (by omega) (by omega)]
      refine zP'.ret ⟨rfl, fun j j1 j2 => ?_⟩
      show zu t 143 20 0 144 (11 + j) = S7 (fun j => σ 144 (11 + j)) j
      rw [zu_a (by decide), f 144 _ (by decide) (Or.inl (by decide)), e144, S7_in j1 j2]
    | inr y =>
      rw [e] at p
      obtain ⟨p1, p2, p3⟩ := p
      have rg := setP_rg 161 0 0 (S7 (fun j => σ 144 (11 + j))) (by rw [S7_in (by decide) (by decide)]; exact i1) (by rw [S7_in (by decide) (by decide)]; exact i2) y e
      rw [if_pos (by omega)]
      refine (m_set105 h rg.1.1 rg.2.1 zK 0 (zu t 143 20 0) (by omega) (fun j hj => ?_) (fun j j1 j2 => (zu_a (by decide)).trans (p3 j j1 j2)) (fun j j1 j2 => absurd j2 (by omega))).imp (fun v u w => ⟨w.1.trans p1, w.2⟩)
      rw [zu_a (by decide), f 144 _ (by decide) (Or.inl (by decide)), e144]
end
section
/-! 6d.copy -/
/-! WHAT AN IMAGE TAKES of the class: settings, regions, THE FIND (printed by wip/zd.py) -/
theorem p_caimg {σ : zS} : ∃ s, g_ca_copyFrom 81 48 σ = some ((), s) ∧ (∀ j : Int, 0 ≤ j → j < 7 → s 83 j = σ 50 j) ∧ (∀ j : Int, 0 ≤ j → j < 181 → s 84 j = σ 51 j ∧ s 85 j = σ 52 j ∧ s 86 j = σ 53 j ∧ s 87 j = σ 54 j ∧ s 88 j = σ 55 j) ∧ (s 81 2 = σ 48 2 ∧ s 81 8 = σ 48 8 ∧ s 81 9 = σ 48 9 ∧ s 81 10 = σ 48 10 ∧ s 81 11 = σ 48 11 ∧ s 81 12 = σ 48 12 ∧ s 81 13 = σ 48 13 ∧ s 81 14 = σ 48 14 ∧ s 81 15 = σ 48 15) ∧ ∀ a j, (a < 81 ∨ 89 ≤ a) → s a j = σ a j := by
  unfold g_ca_copyFrom
  rw [c_seCopy]
  rw [Option.bind_some]
  try dsimp only
  generalize h1 : zcp σ (48 + 1 + 1) 0 (81 + 1 + 1) 0 7 = t1
  generalize h2 : zcp t1 (48 + 3) 0 (81 + 3) 0 181 = t2
  generalize h3 : zcp t2 (48 + 4) 0 (81 + 4) 0 181 = t3
  generalize h4 : zcp t3 (48 + 5) 0 (81 + 5) 0 181 = t4
  generalize h5 : zcp t4 (48 + 6) 0 (81 + 6) 0 181 = t5
  generalize h6 : zcp t5 (48 + 7) 0 (81 + 7) 0 181 = t6
  generalize h7 : zu t6 81 2 (t6 48 2) = t7
  generalize h8 : zu t7 81 8 (t7 48 8) = t8
  generalize h9 : zu t8 81 9 (t8 48 9) = t9
  generalize h10 : zu t9 81 10 (t9 48 10) = t10
  generalize h11 : zu t10 81 11 (t10 48 11) = t11
  generalize h12 : zu t11 81 12 (t11 48 12) = t12
  generalize h13 : zu t12 81 13 (t12 48 13) = t13
  generalize h14 : zu t13 81 14 (t13 48 14) = t14
  generalize h15 : zu t14 81 15 (t14 48 15) = t15
  have ej : ∀ j : Int, j - 0 = j := fun j => by omega
  have u6 : ∀ a j, a ≠ 81 → t15 a j = t6 a j := fun a j k => by rw [← h15, zu_a k, ← h14, zu_a k, ← h13, zu_a k, ← h12, zu_a k, ← h11, zu_a k, ← h10, zu_a k, ← h9, zu_a k, ← h8, zu_a k, ← h7, zu_a k]
  have lo : ∀ a j, (a < 83 ∨ 89 ≤ a) → t6 a j = σ a j := fun a j k => by rw [← h6, zcp_a (by omega), ← h5, zcp_a (by omega), ← h4, zcp_a (by omega), ← h3, zcp_a (by omega), ← h2, zcp_a (by omega), ← h1, zcp_a (by omega)]
  have lo1 : ∀ a j, (a < 83 ∨ 89 ≤ a) → t1 a j = σ a j := fun a j k => by rw [← h1, zcp_a (by omega)]
  have lo2 : ∀ a j, (a < 83 ∨ 89 ≤ a) → t2 a j = σ a j := fun a j k => by rw [← h2, zcp_a (by omega), ← h1, zcp_a (by omega)]
  have lo3 : ∀ a j, (a < 83 ∨ 89 ≤ a) → t3 a j = σ a j := fun a j k => by rw [← h3, zcp_a (by omega), ← h2, zcp_a (by omega), ← h1, zcp_a (by omega)]
  have lo4 : ∀ a j, (a < 83 ∨ 89 ≤ a) → t4 a j = σ a j := fun a j k => by rw [← h4, zcp_a (by omega), ← h3, zcp_a (by omega), ← h2, zcp_a (by omega), ← h1, zcp_a (by omega)]
  have lo5 : ∀ a j, (a < 83 ∨ 89 ≤ a) → t5 a j = σ a j := fun a j k => by rw [← h5, zcp_a (by omega), ← h4, zcp_a (by omega), ← h3, zcp_a (by omega), ← h2, zcp_a (by omega), ← h1, zcp_a (by omega)]
  refine ⟨t15, rfl, fun j j1 j2 => ?_, fun j j1 j2 => ⟨?_, ?_, ?_, ?_, ?_⟩, ⟨?_, ?_, ?_, ?_, ?_, ?_, ?_, ?_, ?_⟩, fun a j k => ?_⟩
  · rw [u6 _ _ (by decide), ← h6, zcp_a (by decide), ← h5, zcp_a (by decide), ← h4, zcp_a (by decide), ← h3, zcp_a (by decide), ← h2, zcp_a (by decide), ← h1]
    exact (zcp_in (a := 50) (b := 83) j1 (by omega)).trans (by rw [ej])
  · rw [u6 _ _ (by decide), ← h6, zcp_a (by decide), ← h5, zcp_a (by decide), ← h4, zcp_a (by decide), ← h3, zcp_a (by decide), ← h2]
    exact (zcp_in (a := 51) (b := 84) j1 (by omega)).trans (by rw [ej]; exact lo1 _ _ (by omega))
  · rw [u6 _ _ (by decide), ← h6, zcp_a (by decide), ← h5, zcp_a (by decide), ← h4, zcp_a (by decide), ← h3]
    exact (zcp_in (a := 52) (b := 85) j1 (by omega)).trans (by rw [ej]; exact lo2 _ _ (by omega))
  · rw [u6 _ _ (by decide), ← h6, zcp_a (by decide), ← h5, zcp_a (by decide), ← h4]
    exact (zcp_in (a := 53) (b := 86) j1 (by omega)).trans (by rw [ej]; exact lo3 _ _ (by omega))
  · rw [u6 _ _ (by decide), ← h6, zcp_a (by decide), ← h5]
    exact (zcp_in (a := 54) (b := 87) j1 (by omega)).trans (by rw [ej]; exact lo4 _ _ (by omega))
  · rw [u6 _ _ (by decide), ← h6]
    exact (zcp_in (a := 55) (b := 88) j1 (by omega)).trans (by rw [ej]; exact lo5 _ _ (by omega))
  · rw [← h15, zu_i (by decide), ← h14, zu_i (by decide), ← h13, zu_i (by decide), ← h12, zu_i (by decide), ← h11, zu_i (by decide), ← h10, zu_i (by decide), ← h9, zu_i (by decide), ← h8, zu_i (by decide), ← h7, zu_e rfl]
    exact lo _ _ (by omega)
  · rw [← h15, zu_i (by decide), ← h14, zu_i (by decide), ← h13, zu_i (by decide), ← h12, zu_i (by decide), ← h11, zu_i (by decide), ← h10, zu_i (by decide), ← h9, zu_i (by decide), ← h8, zu_e rfl, ← h7, zu_a (by decide)]
    exact lo _ _ (by omega)
  · rw [← h15, zu_i (by decide), ← h14, zu_i (by decide), ← h13, zu_i (by decide), ← h12, zu_i (by decide), ← h11, zu_i (by decide), ← h10, zu_i (by decide), ← h9, zu_e rfl, ← h8, zu_a (by decide), ← h7, zu_a (by decide)]
    exact lo _ _ (by omega)
  · rw [← h15, zu_i (by decide), ← h14, zu_i (by decide), ← h13, zu_i (by decide), ← h12, zu_i (by decide), ← h11, zu_i (by decide), ← h10, zu_e rfl, ← h9, zu_a (by decide), ← h8, zu_a (by decide), ← h7, zu_a (by decide)]
    exact lo _ _ (by omega)
  · rw [← h15, zu_i (by decide), ← h14, zu_i (by decide), ← h13, zu_i (by decide), ← h12, zu_i (by decide), ← h11, zu_e rfl, ← h10, zu_a (by decide), ← h9, zu_a (by decide), ← h8, zu_a (by decide), ← h7, zu_a (by decide)]
    exact lo _ _ (by omega)
  · rw [← h15, zu_i (by decide), ← h14, zu_i (by decide), ← h13, zu_i (by decide), ← h12, zu_e rfl, ← h11, zu_a (by decide), ← h10, zu_a (by decide), ← h9, zu_a (by decide), ← h8, zu_a (by decide), ← h7, zu_a (by decide)]
    exact lo _ _ (by omega)
  · rw [← h15, zu_i (by decide), ← h14, zu_i (by decide), ← h13, zu_e rfl, ← h12, zu_a (by decide), ← h11, zu_a (by decide), ← h10, zu_a (by decide), ← h9, zu_a (by decide), ← h8, zu_a (by decide), ← h7, zu_a (by decide)]
    exact lo _ _ (by omega)
  · rw [← h15, zu_i (by decide), ← h14, zu_e rfl, ← h13, zu_a (by decide), ← h12, zu_a (by decide), ← h11, zu_a (by decide), ← h10, zu_a (by decide), ← h9, zu_a (by decide), ← h8, zu_a (by decide), ← h7, zu_a (by decide)]
    exact lo _ _ (by omega)
  · rw [← h15, zu_e rfl, ← h14, zu_a (by decide), ← h13, zu_a (by decide), ← h12, zu_a (by decide), ← h11, zu_a (by decide), ← h10, zu_a (by decide), ← h9, zu_a (by decide), ← h8, zu_a (by decide), ← h7, zu_a (by decide)]
    exact lo _ _ (by omega)
  · rw [u6 _ _ (by omega)]
    exact lo _ _ (by omega)
theorem p_stF_img {σ : zS} (h1 : 0 ≤ σ 63 1 ∧ σ 63 1 ≤ 10) : zP' (g_st_copyFrom 73 40 σ) (fun _ s => (∀ j : Int, 0 ≤ j → j < 7 → s 83 j = σ 50 j) ∧ (∀ j : Int, 0 ≤ j → j < 181 → s 84 j = σ 51 j ∧ s 85 j = σ 52 j ∧ s 86 j = σ 53 j ∧ s 87 j = σ 54 j ∧ s 88 j = σ 55 j) ∧ (s 81 2 = σ 48 2 ∧ s 81 8 = σ 48 8 ∧ s 81 9 = σ 48 9 ∧ s 81 10 = σ 48 10 ∧ s 81 11 = σ 48 11 ∧ s 81 12 = σ 48 12 ∧ s 81 13 = σ 48 13 ∧ s 81 14 = σ 48 14 ∧ s 81 15 = σ 48 15) ∧ (s 93 2 = σ 60 2 ∧ ∀ j : Int, 0 ≤ j → j < 60 → s 94 j = σ 61 j ∧ s 95 j = σ 62 j) ∧ ∀ a j, (a < 73 ∨ 104 ≤ a) → s a j = σ a j) := by
  unfold g_st_copyFrom
  obtain ⟨t1, e1, -, -, -, k1⟩ := p_socopy (a0 := 74) (a1 := 41) (by omega) (σ := σ)
  rw [e1]
  rw [Option.bind_some]
  try dsimp +instances only
  obtain ⟨t2, e2, m1, m2, m3, k2⟩ := p_caimg (σ := t1)
  rw [e2]
  rw [Option.bind_some]
  try dsimp +instances only
  unfold g_fi_copyFrom
  rw [Option.bind_some]
  try dsimp +instances only
  generalize hf1 : zcp t2 (60 + 1) 0 (93 + 1) 0 60 = t3
  generalize hf2 : zcp t3 (60 + 2) 0 (93 + 2) 0 60 = t4
  generalize hf3 : zu t4 93 2 (t4 60 2) = t5
  have ej : ∀ j : Int, j - 0 = j := fun j => by omega
  have k5 : ∀ a j, (a < 93 ∨ 96 ≤ a) → t5 a j = t2 a j := fun a j k => by rw [← hf3, zu_a (by omega), ← hf2, zcp_a (by omega), ← hf1, zcp_a (by omega)]
  have g1 : t5 93 2 = σ 60 2 := by rw [← hf3, zu_e rfl, ← hf2, zcp_a (by decide), ← hf1, zcp_a (by decide), k2 _ _ (by omega), k1 _ _ (by omega)]
  have g2 : ∀ j : Int, 0 ≤ j → j < 60 → t5 94 j = σ 61 j ∧ t5 95 j = σ 62 j := fun j j1 j2 => by
    constructor
    · rw [← hf3, zu_a (by decide), ← hf2, zcp_a (by decide), ← hf1]
      exact (zcp_in (a := 61) (b := 94) j1 (by omega)).trans (by rw [ej, k2 _ _ (by omega), k1 _ _ (by omega)])
    · rw [← hf3, zu_a (by decide), ← hf2]
      exact (zcp_in (a := 62) (b := 95) j1 (by omega)).trans (by rw [ej, ← hf1, zcp_a (by decide), k2 _ _ (by omega), k1 _ _ (by omega)])
  have c63 : t5 63 1 = σ 63 1 := by rw [k5 _ _ (by omega), k2 _ _ (by omega), k1 _ _ (by omega)]
  refine zP'.bind (p_bscopy (a0 := 96) (a1 := 63) (L := 10) (σ := t5) (by decide) (by decide) (by decide) rfl rfl (by decide) (by rw [c63]; omega)) (fun _ t6 p6 => ?_)
  obtain ⟨-, -, k6⟩ := p6
  try dsimp +instances only
  unfold g_wa_copyFrom
  rw [Option.bind_some]
  try dsimp +instances only
  generalize hs : zu (zcp (zcp (zcp t6 (65 + 1) 0 (98 + 1) 0 6) (65 + 2) 0 (98 + 2) 0 6) (65 + 3) 0 (98 + 3) 0 6) 98 5 ((zcp (zcp (zcp t6 (65 + 1) 0 (98 + 1) 0 6) (65 + 2) 0 (98 + 2) 0 6) (65 + 3) 0 (98 + 3) 0 6) 65 5) = t7
  have k7 : ∀ a j, (a < 98 ∨ 102 ≤ a) → t7 a j = t6 a j := fun a j k => by rw [← hs, zu_a (by omega), zcp_a (by omega), zcp_a (by omega), zcp_a (by omega)]
  have all : ∀ a j, (a < 98 ∨ 102 ≤ a) → (a < 96 ∨ 98 ≤ a) → t7 a j = t5 a j := fun a j h1 h2 => by rw [k7 a j (by omega), k6 a j (by omega) (by omega)]
  have c2 : ∀ a j, (81 ≤ a ∧ a < 89) → t7 a j = t2 a j := fun a j h => by rw [all a j (by omega) (by omega), k5 a j (by omega)]
  have c1 : ∀ a j, (48 ≤ a ∧ a < 56) → t1 a j = σ a j := fun a j h => k1 a j (by omega)
  refine zP'.ret ⟨fun j j1 j2 => ?_, fun j j1 j2 => ?_, ?_, ⟨?_, fun j j1 j2 => ?_⟩, fun a j h => ?_⟩
  · show t7 83 j = _
    rw [c2 _ _ (by omega), m1 j j1 j2, c1 _ _ (by omega)]
  · obtain ⟨n1, n2, n3, n4, n5⟩ := m2 j j1 j2
    show t7 84 j = _ ∧ t7 85 j = _ ∧ t7 86 j = _ ∧ t7 87 j = _ ∧ t7 88 j = _
    rw [c2 84 _ (by omega), c2 85 _ (by omega), c2 86 _ (by omega), c2 87 _ (by omega), c2 88 _ (by omega), n1, n2, n3, n4, n5, c1 51 _ (by omega), c1 52 _ (by omega), c1 53 _ (by omega), c1 54 _ (by omega), c1 55 _ (by omega)]
    exact ⟨rfl, rfl, rfl, rfl, rfl⟩
  · obtain ⟨n1, n2, n3, n4, n5, n6, n7, n8, n9⟩ := m3
    show t7 81 _ = _ ∧ t7 81 _ = _ ∧ t7 81 _ = _ ∧ t7 81 _ = _ ∧ t7 81 _ = _ ∧ t7 81 _ = _ ∧ t7 81 _ = _ ∧ t7 81 _ = _ ∧ t7 81 _ = _
    rw [c2 81 2 (by omega), c2 81 8 (by omega), c2 81 9 (by omega), c2 81 10 (by omega), c2 81 11 (by omega), c2 81 12 (by omega), c2 81 13 (by omega), c2 81 14 (by omega), c2 81 15 (by omega), n1, n2, n3, n4, n5, n6, n7, n8, n9, c1 48 2 (by omega), c1 48 8 (by omega), c1 48 9 (by omega), c1 48 10 (by omega), c1 48 11 (by omega), c1 48 12 (by omega), c1 48 13 (by omega), c1 48 14 (by omega), c1 48 15 (by omega)]
    exact ⟨rfl, rfl, rfl, rfl, rfl, rfl, rfl, rfl, rfl⟩
  · show t7 93 2 = _
    rw [all _ _ (by omega) (by omega)]
    exact g1
  · show t7 94 j = _ ∧ t7 95 j = _
    rw [all 94 _ (by omega) (by omega), all 95 _ (by omega) (by omega)]
    exact g2 j j1 j2
  · show t7 a j = _
    rw [all a j (by omega) (by omega), k5 a j (by omega), k2 a j (by omega), k1 a j (by omega)]
theorem p_caund {σ : zS} : ∃ s, g_ca_copyFrom 48 81 σ = some ((), s) ∧ (∀ j : Int, 0 ≤ j → j < 7 → s 50 j = σ 83 j) ∧ (∀ j : Int, 0 ≤ j → j < 181 → s 51 j = σ 84 j ∧ s 52 j = σ 85 j ∧ s 53 j = σ 86 j ∧ s 54 j = σ 87 j ∧ s 55 j = σ 88 j) ∧ (s 48 2 = σ 81 2 ∧ s 48 8 = σ 81 8 ∧ s 48 9 = σ 81 9 ∧ s 48 10 = σ 81 10 ∧ s 48 11 = σ 81 11 ∧ s 48 12 = σ 81 12 ∧ s 48 13 = σ 81 13 ∧ s 48 14 = σ 81 14 ∧ s 48 15 = σ 81 15) ∧ ∀ a j, (a < 48 ∨ 56 ≤ a) → s a j = σ a j := by
  unfold g_ca_copyFrom
  rw [c_seCopy]
  rw [Option.bind_some]
  try dsimp only
  generalize h1 : zcp σ (81 + 1 + 1) 0 (48 + 1 + 1) 0 7 = t1
  generalize h2 : zcp t1 (81 + 3) 0 (48 + 3) 0 181 = t2
  generalize h3 : zcp t2 (81 + 4) 0 (48 + 4) 0 181 = t3
  generalize h4 : zcp t3 (81 + 5) 0 (48 + 5) 0 181 = t4
  generalize h5 : zcp t4 (81 + 6) 0 (48 + 6) 0 181 = t5
  generalize h6 : zcp t5 (81 + 7) 0 (48 + 7) 0 181 = t6
  generalize h7 : zu t6 48 2 (t6 81 2) = t7
  generalize h8 : zu t7 48 8 (t7 81 8) = t8
  generalize h9 : zu t8 48 9 (t8 81 9) = t9
  generalize h10 : zu t9 48 10 (t9 81 10) = t10
  generalize h11 : zu t10 48 11 (t10 81 11) = t11
  generalize h12 : zu t11 48 12 (t11 81 12) = t12
  generalize h13 : zu t12 48 13 (t12 81 13) = t13
  generalize h14 : zu t13 48 14 (t13 81 14) = t14
  generalize h15 : zu t14 48 15 (t14 81 15) = t15
  have ej : ∀ j : Int, j - 0 = j := fun j => by omega
  have u6 : ∀ a j, a ≠ 48 → t15 a j = t6 a j := fun a j k => by rw [← h15, zu_a k, ← h14, zu_a k, ← h13, zu_a k, ← h12, zu_a k, ← h11, zu_a k, ← h10, zu_a k, ← h9, zu_a k, ← h8, zu_a k, ← h7, zu_a k]
  have lo : ∀ a j, (a < 50 ∨ 56 ≤ a) → t6 a j = σ a j := fun a j k => by rw [← h6, zcp_a (by omega), ← h5, zcp_a (by omega), ← h4, zcp_a (by omega), ← h3, zcp_a (by omega), ← h2, zcp_a (by omega), ← h1, zcp_a (by omega)]
  have lo1 : ∀ a j, (a < 50 ∨ 56 ≤ a) → t1 a j = σ a j := fun a j k => by rw [← h1, zcp_a (by omega)]
  have lo2 : ∀ a j, (a < 50 ∨ 56 ≤ a) → t2 a j = σ a j := fun a j k => by rw [← h2, zcp_a (by omega), ← h1, zcp_a (by omega)]
  have lo3 : ∀ a j, (a < 50 ∨ 56 ≤ a) → t3 a j = σ a j := fun a j k => by rw [← h3, zcp_a (by omega), ← h2, zcp_a (by omega), ← h1, zcp_a (by omega)]
  have lo4 : ∀ a j, (a < 50 ∨ 56 ≤ a) → t4 a j = σ a j := fun a j k => by rw [← h4, zcp_a (by omega), ← h3, zcp_a (by omega), ← h2, zcp_a (by omega), ← h1, zcp_a (by omega)]
  have lo5 : ∀ a j, (a < 50 ∨ 56 ≤ a) → t5 a j = σ a j := fun a j k => by rw [← h5, zcp_a (by omega), ← h4, zcp_a (by omega), ← h3, zcp_a (by omega), ← h2, zcp_a (by omega), ← h1, zcp_a (by omega)]
  refine ⟨t15, rfl, fun j j1 j2 => ?_, fun j j1 j2 => ⟨?_, ?_, ?_, ?_, ?_⟩, ⟨?_, ?_, ?_, ?_, ?_, ?_, ?_, ?_, ?_⟩, fun a j k => ?_⟩
  · rw [u6 _ _ (by decide), ← h6, zcp_a (by decide), ← h5, zcp_a (by decide), ← h4, zcp_a (by decide), ← h3, zcp_a (by decide), ← h2, zcp_a (by decide), ← h1]
    exact (zcp_in (a := 83) (b := 50) j1 (by omega)).trans (by rw [ej])
  · rw [u6 _ _ (by decide), ← h6, zcp_a (by decide), ← h5, zcp_a (by decide), ← h4, zcp_a (by decide), ← h3, zcp_a (by decide), ← h2]
    exact (zcp_in (a := 84) (b := 51) j1 (by omega)).trans (by rw [ej]; exact lo1 _ _ (by omega))
  · rw [u6 _ _ (by decide), ← h6, zcp_a (by decide), ← h5, zcp_a (by decide), ← h4, zcp_a (by decide), ← h3]
    exact (zcp_in (a := 85) (b := 52) j1 (by omega)).trans (by rw [ej]; exact lo2 _ _ (by omega))
  · rw [u6 _ _ (by decide), ← h6, zcp_a (by decide), ← h5, zcp_a (by decide), ← h4]
    exact (zcp_in (a := 86) (b := 53) j1 (by omega)).trans (by rw [ej]; exact lo3 _ _ (by omega))
  · rw [u6 _ _ (by decide), ← h6, zcp_a (by decide), ← h5]
    exact (zcp_in (a := 87) (b := 54) j1 (by omega)).trans (by rw [ej]; exact lo4 _ _ (by omega))
  · rw [u6 _ _ (by decide), ← h6]
    exact (zcp_in (a := 88) (b := 55) j1 (by omega)).trans (by rw [ej]; exact lo5 _ _ (by omega))
  · rw [← h15, zu_i (by decide), ← h14, zu_i (by decide), ← h13, zu_i (by decide), ← h12, zu_i (by decide), ← h11, zu_i (by decide), ← h10, zu_i (by decide), ← h9, zu_i (by decide), ← h8, zu_i (by decide), ← h7, zu_e rfl]
    exact lo _ _ (by omega)
  · rw [← h15, zu_i (by decide), ← h14, zu_i (by decide), ← h13, zu_i (by decide), ← h12, zu_i (by decide), ← h11, zu_i (by decide), ← h10, zu_i (by decide), ← h9, zu_i (by decide), ← h8, zu_e rfl, ← h7, zu_a (by decide)]
    exact lo _ _ (by omega)
  · rw [← h15, zu_i (by decide), ← h14, zu_i (by decide), ← h13, zu_i (by decide), ← h12, zu_i (by decide), ← h11, zu_i (by decide), ← h10, zu_i (by decide), ← h9, zu_e rfl, ← h8, zu_a (by decide), ← h7, zu_a (by decide)]
    exact lo _ _ (by omega)
  · rw [← h15, zu_i (by decide), ← h14, zu_i (by decide), ← h13, zu_i (by decide), ← h12, zu_i (by decide), ← h11, zu_i (by decide), ← h10, zu_e rfl, ← h9, zu_a (by decide), ← h8, zu_a (by decide), ← h7, zu_a (by decide)]
    exact lo _ _ (by omega)
  · rw [← h15, zu_i (by decide), ← h14, zu_i (by decide), ← h13, zu_i (by decide), ← h12, zu_i (by decide), ← h11, zu_e rfl, ← h10, zu_a (by decide), ← h9, zu_a (by decide), ← h8, zu_a (by decide), ← h7, zu_a (by decide)]
    exact lo _ _ (by omega)
  · rw [← h15, zu_i (by decide), ← h14, zu_i (by decide), ← h13, zu_i (by decide), ← h12, zu_e rfl, ← h11, zu_a (by decide), ← h10, zu_a (by decide), ← h9, zu_a (by decide), ← h8, zu_a (by decide), ← h7, zu_a (by decide)]
    exact lo _ _ (by omega)
  · rw [← h15, zu_i (by decide), ← h14, zu_i (by decide), ← h13, zu_e rfl, ← h12, zu_a (by decide), ← h11, zu_a (by decide), ← h10, zu_a (by decide), ← h9, zu_a (by decide), ← h8, zu_a (by decide), ← h7, zu_a (by decide)]
    exact lo _ _ (by omega)
  · rw [← h15, zu_i (by decide), ← h14, zu_e rfl, ← h13, zu_a (by decide), ← h12, zu_a (by decide), ← h11, zu_a (by decide), ← h10, zu_a (by decide), ← h9, zu_a (by decide), ← h8, zu_a (by decide), ← h7, zu_a (by decide)]
    exact lo _ _ (by omega)
  · rw [← h15, zu_e rfl, ← h14, zu_a (by decide), ← h13, zu_a (by decide), ← h12, zu_a (by decide), ← h11, zu_a (by decide), ← h10, zu_a (by decide), ← h9, zu_a (by decide), ← h8, zu_a (by decide), ← h7, zu_a (by decide)]
    exact lo _ _ (by omega)
  · rw [u6 _ _ (by omega)]
    exact lo _ _ (by omega)
theorem p_stF_und {σ : zS} (h1 : 0 ≤ σ 96 1 ∧ σ 96 1 ≤ 10) : zP' (g_st_copyFrom 40 73 σ) (fun _ s => (∀ j : Int, 0 ≤ j → j < 7 → s 50 j = σ 83 j) ∧ (∀ j : Int, 0 ≤ j → j < 181 → s 51 j = σ 84 j ∧ s 52 j = σ 85 j ∧ s 53 j = σ 86 j ∧ s 54 j = σ 87 j ∧ s 55 j = σ 88 j) ∧ (s 48 2 = σ 81 2 ∧ s 48 8 = σ 81 8 ∧ s 48 9 = σ 81 9 ∧ s 48 10 = σ 81 10 ∧ s 48 11 = σ 81 11 ∧ s 48 12 = σ 81 12 ∧ s 48 13 = σ 81 13 ∧ s 48 14 = σ 81 14 ∧ s 48 15 = σ 81 15) ∧ (s 60 2 = σ 93 2 ∧ ∀ j : Int, 0 ≤ j → j < 60 → s 61 j = σ 94 j ∧ s 62 j = σ 95 j) ∧ ∀ a j, (a < 40 ∨ 71 ≤ a) → s a j = σ a j) := by
  unfold g_st_copyFrom
  obtain ⟨t1, e1, -, -, -, k1⟩ := p_socopy (a0 := 41) (a1 := 74) (by omega) (σ := σ)
  rw [e1]
  rw [Option.bind_some]
  try dsimp +instances only
  obtain ⟨t2, e2, m1, m2, m3, k2⟩ := p_caund (σ := t1)
  rw [e2]
  rw [Option.bind_some]
  try dsimp +instances only
  unfold g_fi_copyFrom
  rw [Option.bind_some]
  try dsimp +instances only
  generalize hf1 : zcp t2 (93 + 1) 0 (60 + 1) 0 60 = t3
  generalize hf2 : zcp t3 (93 + 2) 0 (60 + 2) 0 60 = t4
  generalize hf3 : zu t4 60 2 (t4 93 2) = t5
  have ej : ∀ j : Int, j - 0 = j := fun j => by omega
  have k5 : ∀ a j, (a < 60 ∨ 63 ≤ a) → t5 a j = t2 a j := fun a j k => by rw [← hf3, zu_a (by omega), ← hf2, zcp_a (by omega), ← hf1, zcp_a (by omega)]
  have g1 : t5 60 2 = σ 93 2 := by rw [← hf3, zu_e rfl, ← hf2, zcp_a (by decide), ← hf1, zcp_a (by decide), k2 _ _ (by omega), k1 _ _ (by omega)]
  have g2 : ∀ j : Int, 0 ≤ j → j < 60 → t5 61 j = σ 94 j ∧ t5 62 j = σ 95 j := fun j j1 j2 => by
    constructor
    · rw [← hf3, zu_a (by decide), ← hf2, zcp_a (by decide), ← hf1]
      exact (zcp_in (a := 94) (b := 61) j1 (by omega)).trans (by rw [ej, k2 _ _ (by omega), k1 _ _ (by omega)])
    · rw [← hf3, zu_a (by decide), ← hf2]
      exact (zcp_in (a := 95) (b := 62) j1 (by omega)).trans (by rw [ej, ← hf1, zcp_a (by decide), k2 _ _ (by omega), k1 _ _ (by omega)])
  have c63 : t5 96 1 = σ 96 1 := by rw [k5 _ _ (by omega), k2 _ _ (by omega), k1 _ _ (by omega)]
  refine zP'.bind (p_bscopy (a0 := 63) (a1 := 96) (L := 10) (σ := t5) (by decide) (by decide) (by decide) rfl rfl (by decide) (by rw [c63]; omega)) (fun _ t6 p6 => ?_)
  obtain ⟨-, -, k6⟩ := p6
  try dsimp +instances only
  unfold g_wa_copyFrom
  rw [Option.bind_some]
  try dsimp +instances only
  generalize hs : zu (zcp (zcp (zcp t6 (98 + 1) 0 (65 + 1) 0 6) (98 + 2) 0 (65 + 2) 0 6) (98 + 3) 0 (65 + 3) 0 6) 65 5 ((zcp (zcp (zcp t6 (98 + 1) 0 (65 + 1) 0 6) (98 + 2) 0 (65 + 2) 0 6) (98 + 3) 0 (65 + 3) 0 6) 98 5) = t7
  have k7 : ∀ a j, (a < 65 ∨ 69 ≤ a) → t7 a j = t6 a j := fun a j k => by rw [← hs, zu_a (by omega), zcp_a (by omega), zcp_a (by omega), zcp_a (by omega)]
  have all : ∀ a j, (a < 65 ∨ 69 ≤ a) → (a < 63 ∨ 65 ≤ a) → t7 a j = t5 a j := fun a j h1 h2 => by rw [k7 a j (by omega), k6 a j (by omega) (by omega)]
  have c2 : ∀ a j, (48 ≤ a ∧ a < 56) → t7 a j = t2 a j := fun a j h => by rw [all a j (by omega) (by omega), k5 a j (by omega)]
  have c1 : ∀ a j, (81 ≤ a ∧ a < 89) → t1 a j = σ a j := fun a j h => k1 a j (by omega)
  refine zP'.ret ⟨fun j j1 j2 => ?_, fun j j1 j2 => ?_, ?_, ⟨?_, fun j j1 j2 => ?_⟩, fun a j h => ?_⟩
  · show t7 50 j = _
    rw [c2 _ _ (by omega), m1 j j1 j2, c1 _ _ (by omega)]
  · obtain ⟨n1, n2, n3, n4, n5⟩ := m2 j j1 j2
    show t7 51 j = _ ∧ t7 52 j = _ ∧ t7 53 j = _ ∧ t7 54 j = _ ∧ t7 55 j = _
    rw [c2 51 _ (by omega), c2 52 _ (by omega), c2 53 _ (by omega), c2 54 _ (by omega), c2 55 _ (by omega), n1, n2, n3, n4, n5, c1 84 _ (by omega), c1 85 _ (by omega), c1 86 _ (by omega), c1 87 _ (by omega), c1 88 _ (by omega)]
    exact ⟨rfl, rfl, rfl, rfl, rfl⟩
  · obtain ⟨n1, n2, n3, n4, n5, n6, n7, n8, n9⟩ := m3
    show t7 48 _ = _ ∧ t7 48 _ = _ ∧ t7 48 _ = _ ∧ t7 48 _ = _ ∧ t7 48 _ = _ ∧ t7 48 _ = _ ∧ t7 48 _ = _ ∧ t7 48 _ = _ ∧ t7 48 _ = _
    rw [c2 48 2 (by omega), c2 48 8 (by omega), c2 48 9 (by omega), c2 48 10 (by omega), c2 48 11 (by omega), c2 48 12 (by omega), c2 48 13 (by omega), c2 48 14 (by omega), c2 48 15 (by omega), n1, n2, n3, n4, n5, n6, n7, n8, n9, c1 81 2 (by omega), c1 81 8 (by omega), c1 81 9 (by omega), c1 81 10 (by omega), c1 81 11 (by omega), c1 81 12 (by omega), c1 81 13 (by omega), c1 81 14 (by omega), c1 81 15 (by omega)]
    exact ⟨rfl, rfl, rfl, rfl, rfl, rfl, rfl, rfl, rfl⟩
  · show t7 60 2 = _
    rw [all _ _ (by omega) (by omega)]
    exact g1
  · show t7 61 j = _ ∧ t7 62 j = _
    rw [all 61 _ (by omega) (by omega), all 62 _ (by omega) (by omega)]
    exact g2 j j1 j2
  · show t7 a j = _
    rw [all a j (by omega) (by omega), k5 a j (by omega), k2 a j (by omega), k1 a j (by omega)]
end
section
/-! 6e.frames -/
/-! FRAMES of the reference's calls, in full, further ones; feed() of both sides; pairs with a component put beside what stands between the calls -/
theorem f_trace {x0 x1 y0 y1 : Int} {σ : zS} (h : MI σ) : zP' (g_m_trace x0 x1 y0 y1 σ) (fun _ s => ∀ a j, (a ≠ 144 ∨ (j ≠ 9 ∧ (j < 260 ∨ 300 ≤ j))) → s a j = σ a j) := by
  have h9 := h.2.1.2.2.2.1
  unfold g_m_trace
  refine zP'.ite (fun c => ?_) (fun c => zP'.ret (fun a j k => zu_c (by omega)))
  by_cases hb : bOk (x0, x1, y0, y1)
  · rw [s_isBox_t hb]
    rw [Option.bind_some]
    try dsimp +instances only
    rw [if_pos (by decide)]
    refine zP'.ite (fun c2 => ?_) (fun c2 => zP'.ret (fun a j k => rfl))
    rw [w32_id (x := 4 * σ 144 9) (by omega) (by omega), w32_id (x := 260 + 4 * σ 144 9) (by omega) (by omega), s_sets (by omega) (by rw [l144]; omega) (by rw [l144]; omega)]
    rw [Option.bind_some]
    try dsimp +instances only
    refine zP'.ret (fun a j k => ?_)
    try dsimp only
    rw [zu_c (by omega)]
    by_cases ca : a = 144
    · subst ca
      exact zb_i (by omega)
    · exact zb_a ca
  · rw [s_isBox_f hb]
    rw [Option.bind_some]
    try dsimp +instances only
    rw [if_neg (by decide)]
    exact zP'.ret (fun a j k => rfl)
theorem f_watch {x x0 x1 y0 y1 : Int} {σ : zS} (h : MI σ) : zP' (g_m_watch x x0 x1 y0 y1 σ) (fun _ s => ∀ a j, (a ≠ 144 ∨ (j ≠ 10 ∧ (j < 300 ∨ 340 ≤ j))) → s a j = σ a j) := by
  have h10 := h.2.1.2.2.2.2.1
  unfold g_m_watch
  by_cases hx : 0 ≤ x ∧ x ≤ 6
  · rw [s_isIn_t hx.1 hx.2]
    rw [Option.bind_some]
    try dsimp +instances only
    rw [if_pos (by decide)]
    by_cases hb : bOk (x0, x1, y0, y1)
    · rw [s_isBox_t hb]
      rw [Option.bind_some]
      try dsimp +instances only
      rw [if_pos (by decide)]
      refine zP'.ite (fun c2 => ?_) (fun c2 => zP'.ret (fun a j k => rfl))
      rw [w32_id (x := 6 * σ 144 10) (by omega) (by omega), w32_id (x := 300 + 6 * σ 144 10) (by omega) (by omega), if_pos (by omega), w32_id (x := 300 + 6 * σ 144 10 + 1) (by omega) (by omega), w32_id (x := 300 + 6 * σ 144 10 + 5) (by omega) (by omega), s_sets (by omega) (by rw [l144]; omega) (by rw [l144]; omega)]
      rw [Option.bind_some]
      try dsimp +instances only
      rw [if_pos (by omega)]
      refine zP'.ret (fun a j k => ?_)
      try dsimp only
      rw [zu_c (by omega), zu_c (by omega)]
      by_cases ca : a = 144
      · subst ca
        rw [zb_i (by omega), zu_c (by omega)]
      · rw [zb_a ca, zu_a ca]
    · rw [s_isBox_f hb]
      rw [Option.bind_some]
      try dsimp +instances only
      rw [if_neg (by decide)]
      exact zP'.ret (fun a j k => rfl)
  · rw [s_isIn_f (by omega)]
    rw [Option.bind_some]
    try dsimp +instances only
    rw [if_neg (by decide)]
    exact zP'.ret (fun a j k => rfl)
theorem f_settings {σ : zS} (h : MI σ) : zP' (g_m_settings σ) (fun _ s => frT2 σ s) := by
  obtain ⟨v, s, e, -, -, e3⟩ := m_settings2 h
  rw [e]
  exact zP'.ret e3
theorem f_run {σ : zS} (h : MI σ) : zP' (g_m_run σ) (fun _ s => frT3 σ s) := by
  obtain ⟨v, s, e, -, -, e3⟩ := m_run2 h
  rw [e]
  exact zP'.ret e3
theorem f_load {σ : zS} (h : MI σ) : zP' (g_m_load σ) (fun _ s => frT3 σ s) := by
  obtain ⟨v, s, e, -, -, e3⟩ := m_load2 h
  rw [e]
  exact zP'.ret e3
theorem f_image {σ : zS} : zP' (g_m_image σ) (fun _ s => (∀ a j, a ≠ 145 → a ≠ 148 → (a ≠ 143 ∨ j ≠ 6) → s a j = σ a j) ∧ (∀ j : Int, 0 ≤ j → j < 2740 → s 145 j = σ 144 j) ∧ (∀ j : Int, 0 ≤ j → j < 361 → s 148 j = σ 147 j) ∧ s 143 6 = 1) := by
  unfold g_m_image
  rw [s_keeps (a := 145) (b := 148) (by decide)]
  rw [Option.bind_some]
  try dsimp +instances only
  refine zP'.ret ⟨fun a j h1 h2 h3 => ?_, fun j h1 h2 => ?_, fun j h1 h2 => ?_, zu_e rfl⟩
  · try dsimp only
    rw [zu_c h3]
    unfold kpS
    rw [if_neg (fun e => h1 e.1), if_neg (fun e => h2 e.1)]
  · try dsimp only
    rw [zu_a (by decide)]
    unfold kpS
    rw [if_pos ⟨rfl, h1, h2⟩]
  · try dsimp only
    rw [zu_a (by decide)]
    unfold kpS
    rw [if_neg (fun e => absurd e.1 (by decide)), if_pos ⟨rfl, h1, h2⟩]
theorem f_undo {σ : zS} : zP' (g_m_undo σ) (fun _ s => (∀ a j, a ≠ 144 → a ≠ 147 → s a j = σ a j) ∧ (σ 143 6 ≠ 0 → (∀ j : Int, 0 ≤ j → j < 2740 → s 144 j = σ 145 j) ∧ ∀ j : Int, 0 ≤ j → j < 361 → s 147 j = σ 148 j) ∧ (σ 143 6 = 0 → s = σ)) := by
  unfold g_m_undo
  refine zP'.ite (fun c => ?_) (fun c => ?_)
  · rw [s_back (a := 145) (b := 148) (by decide)]
    rw [Option.bind_some]
    try dsimp +instances only
    refine zP'.ret ⟨fun a j h1 h2 => ?_, fun _ => ⟨fun j h1 h2 => ?_, fun j h1 h2 => ?_⟩, fun e => absurd e c⟩
    · show bkS σ 145 148 a j = _
      unfold bkS
      rw [if_neg (fun e => h1 e.1), if_neg (fun e => h2 e.1)]
    · show bkS σ 145 148 144 j = _
      unfold bkS
      rw [if_pos ⟨rfl, h1, h2⟩]
    · show bkS σ 145 148 147 j = _
      unfold bkS
      rw [if_neg (fun e => absurd e.1 (by decide)), if_pos ⟨rfl, h1, h2⟩]
  · have c : σ 143 6 = 0 := Classical.byContradiction (fun h => c h)
    exact zP'.ret ⟨fun _ _ _ _ => rfl, fun e => absurd c e, fun _ => rfl⟩
theorem w8_id {x : Int} (h1 : -128 ≤ x) (h2 : x < 128) : w8 x = x := by
  unfold w8 Int.bmod
  simp only [Nat.reducePow]
  split <;> omega
def fedS (σ : zS) (a b : Nat) (i x : Int) : zS := zu (zu σ a (σ b i) x) b i (σ b i + 1)
theorem p_feedF {x : Int} {σ : zS} (h : 0 ≤ σ 120 1 ∧ σ 120 1 ≤ 160) : zP' (g_c_feed x σ) (fun _ s => ((1 ≤ x ∧ x ≤ 127) ∧ σ 120 1 < 160 → s = fedS σ 121 120 1 x) ∧ (¬ ((1 ≤ x ∧ x ≤ 127) ∧ σ 120 1 < 160) → s = σ)) := by
  unfold g_c_feed
  refine zP'.ite (fun c => zP'.ret ⟨fun k => by omega, fun _ => rfl⟩) (fun c => ?_)
  refine zP'.ite (fun c2 => ?_) (fun c2 => zP'.ret ⟨fun k => by omega, fun _ => rfl⟩)
  unfold g_ta_append
  by_cases c3 : σ 120 1 < 160
  · simp only []
    rw [if_pos c3, if_pos (by omega), w8_id (x := x) (by omega) (by omega), w8_id (x := x) (by omega) (by omega)]
    rw [Option.bind_some]
    try dsimp +instances only
    rw [if_neg (by decide), show zu σ 121 (σ 120 1) x 120 1 = σ 120 1 from zu_a (by decide), w32_id (x := σ 120 1 + 1) (by omega) (by omega)]
    exact zP'.ret ⟨fun _ => rfl, fun k => absurd ⟨⟨by omega, c2⟩, c3⟩ k⟩
  · simp only []
    rw [if_neg c3]
    rw [Option.bind_some]
    try dsimp +instances only
    rw [if_pos rfl]
    exact zP'.ret ⟨fun k => absurd k.2 c3, fun _ => rfl⟩
theorem t_feedF {x : Int} {σ : zS} (h : 0 ≤ σ 143 20 ∧ σ 143 20 ≤ 160) : zP' (g_m_feed x σ) (fun _ s => ((1 ≤ x ∧ x ≤ 127) ∧ σ 143 20 < 160 → s = fedS σ 159 143 20 x) ∧ (¬ ((1 ≤ x ∧ x ≤ 127) ∧ σ 143 20 < 160) → s = σ)) := by
  unfold g_m_feed
  by_cases c : 1 ≤ x ∧ x ≤ 127
  · rw [s_isIn_t c.1 c.2]
    rw [Option.bind_some]
    try dsimp +instances only
    rw [if_pos (by decide)]
    refine zP'.ite (fun c3 => ?_) (fun c3 => zP'.ret ⟨fun k => by omega, fun _ => rfl⟩)
    rw [if_pos (by omega), show zu σ 159 (σ 143 20) x 143 20 = σ 143 20 from zu_a (by decide), w32_id (x := σ 143 20 + 1) (by omega) (by omega)]
    exact zP'.ret ⟨fun _ => rfl, fun k => absurd ⟨c, by omega⟩ k⟩
  · rw [s_isIn_f (by omega)]
    rw [Option.bind_some]
    try dsimp +instances only
    rw [if_neg (by decide)]
    exact zP'.ret ⟨fun k => absurd k.1 c, fun _ => rfl⟩
theorem tt2 {P : zS → Prop} {c : Option (Int × zS)} {m : zS → Option (Int × zS)} (o : two c m (fun _ _ s => P s)) : two c m (fun _ _ s => P s ∧ True) := by
  obtain ⟨v, s1, e1, w, s2, e2, h⟩ := o
  exact ⟨v, s1, e1, w, s2, e2, h, trivial⟩
theorem ft2 {P : zS → Prop} {c : Option (Int × zS)} {m : zS → Option (Int × zS)} (o : two c m (fun _ _ s => P s ∧ True)) : two c m (fun _ _ s => P s) := by
  obtain ⟨v, s1, e1, w, s2, e2, h, -⟩ := o
  exact ⟨v, s1, e1, w, s2, e2, h⟩
end
section
/-! 6f.tape0 -/
/-! THE TAPES alike -/
def TPr (σ : zS) : Prop := ∀ j : Int, 0 ≤ j → j < σ 120 1 → σ 121 j = σ 159 j ∧ 1 ≤ σ 121 j ∧ σ 121 j ≤ 127
theorem TPr_keep {σ s : zS} (h : TPr σ) (e : ∀ a j, ((a = 121) ∨ (a = 120 ∧ j = 1) ∨ a = 159) → s a j = σ a j) : TPr s := fun j h1 h2 => by
  rw [e 120 1 (by omega)] at h2
  rw [e 121 j (by omega), e 159 j (by omega)]
  exact h j h1 h2
end
section
/-! 6g.tapeT -/
/-! COMPONENT T: TPr is kept by every call that does not touch it (printed by wip/zc.py) -/
def KT (a : Nat) (j : Int) : Prop := (a = 121) ∨ (a = 120 ∧ j = 1) ∨ a = 159
def cFT (F : Nat → Int → Bool) : Prop := ∀ j : Int, F 121 j = false ∧ F 120 (1) = false
theorem hcT {F : Nat → Int → Bool} {σ : zS} {c : Option (Int × zS)} {P : Int → zS → Prop} (hc : zO c (fun v s => CI s ∧ fr F σ s ∧ P v s)) (f : cFT F) : zP' c (fun _ s1 => ∀ a j, (KT a j ∨ (143 ≤ a ∧ a < 168)) → s1 a j = σ a j) := (zP'.of hc).imp (fun v s p a j k => by
  have G := p.2.1
  rcases k with k | k
  · unfold KT at k
    obtain ⟨h0, h1⟩ := f j
    rcases k with rfl | ⟨rfl, rfl⟩ | k
    · exact G _ _ (Or.inr h0)
    · exact G _ _ (Or.inr h1)
    · exact G _ _ (Or.inl (by omega))
  · exact G _ _ (Or.inl k))
theorem hpT {σ : zS} {c : Option (Int × zS)} {P : Int → Prop} (hc : zOp c σ P) : zP' c (fun _ s1 => ∀ a j, (KT a j ∨ (143 ≤ a ∧ a < 168)) → s1 a j = σ a j) := fun v s e => by
  obtain ⟨v0, e0, -⟩ := hc
  rw [e0] at e
  cases e
  exact fun _ _ _ => rfl
theorem hmT {m : zS → Option (Int × zS)} (h : ∀ s, MI s → ∃ w, m s = some (w, s)) : ∀ s, MI s → zP' (m s) (fun _ s2 => ∀ a j, KT a j → s2 a j = s a j) := fun s hs v t e => by
  obtain ⟨w, e0⟩ := h s hs
  rw [e0] at e
  cases e
  exact fun _ _ _ => rfl
def InvT (σ : zS) : Prop := Inv2 σ ∧ TPr σ
theorem liftT {σ : zS} {c : Option (Int × zS)} {m : zS → Option (Int × zS)} {Q : Int → Int → zS → Prop} (I : InvT σ) (o : two c m (fun v w s => Inv2 s ∧ Q v w s)) (hc : zP' c (fun _ s1 => ∀ a j, (KT a j ∨ (143 ≤ a ∧ a < 168)) → s1 a j = σ a j)) (hm : ∀ s, MI s → zP' (m s) (fun _ s2 => ∀ a j, KT a j → s2 a j = s a j)) : two c m (fun v w s => InvT s ∧ Q v w s) := by
  obtain ⟨v, s1, e1, w, s2, e2, J, q⟩ := o
  have h1 := hc v s1 e1
  have M1 : MI s1 := MI_cls ((fun (s : zS) (h : Inv2 s) => h) σ I.1).1.2.1 (fun a j k1 k2 => h1 a j (Or.inr ⟨k1, k2⟩))
  have h2 := hm s1 M1 w s2 e2
  exact ⟨v, s1, e1, w, s2, e2, ⟨J, TPr_keep I.2 (fun a j k => (h2 a j k).trans (h1 a j (Or.inl k)))⟩, q⟩
theorem qt_put {a b c d : Int} {σ : zS} (hd : okL d) (I : InvT σ) : two (g_c_put a b c d σ) (g_m_put a b c d) (fun _ _ s => InvT s) := ft2 (liftT I (tt2 (q_put hd I.1)) (hcT (g_c_put_sp ((fun (s : zS) (h : Inv2 s) => h) σ I.1).1.1) (fun _ => ⟨rfl, rfl⟩)) (fun s h => (f_put h).imp (fun _ t g a j k => g a j (by unfold KT at k; omega) (by unfold KT at k; omega) (by unfold KT at k; omega) (by unfold KT at k; omega) (by unfold KT at k; omega) (by unfold KT at k; omega) (by unfold KT at k; omega) (by unfold KT at k; omega) (by unfold KT at k; omega))))
theorem qt_take {a : Int} {σ : zS} (I : InvT σ) : two (g_c_take a σ) (g_m_take a) (fun _ _ s => InvT s) := ft2 (liftT I (tt2 (q_take I.1)) (hcT (g_c_take_sp ((fun (s : zS) (h : Inv2 s) => h) σ I.1).1.1) (fun _ => ⟨rfl, rfl⟩)) (fun s h => (f_take h).imp (fun _ t g a j k => g a j (by unfold KT at k; omega) (by unfold KT at k; omega) (by unfold KT at k; omega) (by unfold KT at k; omega) (by unfold KT at k; omega) (by unfold KT at k; omega) (by unfold KT at k; omega) (by unfold KT at k; omega) (by unfold KT at k; omega))))
theorem qt_row {a b : Int} {σ : zS} (I : InvT σ) : two (g_c_row a b σ) (g_m_row a b) (fun v w s => InvT s ∧ v = w) := liftT I (q_row I.1) (hpT (g_c_row_sp ((fun (s : zS) (h : Inv2 s) => h) σ I.1).1.1)) (hmT (fun _ _ => m_row))
theorem qt_worth {a : Int} {σ : zS} (I : InvT σ) : two (g_c_worth a σ) (g_m_worth a) (fun v w s => InvT s ∧ v = w) := liftT I (q_worth I.1) (hpT (g_c_worth_sp ((fun (s : zS) (h : Inv2 s) => h) σ I.1).1.1)) (hmT (fun _ _ => m_worth))
theorem qt_setting {a : Int} {σ : zS} (I : InvT σ) : two (g_c_setting a σ) (g_m_setting a) (fun _ _ s => InvT s) := ft2 (liftT I (tt2 (q_setting I.1)) (hpT (g_c_setting_sp ((fun (s : zS) (h : Inv2 s) => h) σ I.1).1.1)) (hmT (fun _ _ => m_setting)))
theorem qt_answer {a : Int} {σ : zS} (I : InvT σ) : two (g_c_answer a σ) (g_m_answer a) (fun _ _ s => InvT s) := ft2 (liftT I (tt2 (q_answer I.1)) (hpT (g_c_answer_sp ((fun (s : zS) (h : Inv2 s) => h) σ I.1).1.1)) (hmT (fun _ h => m_answer h)))
theorem qt_spell {σ : zS} (I : InvT σ) : two (g_c_spell σ) g_m_spell (fun _ _ s => InvT s) := ft2 (liftT I (tt2 (q_spell I.1)) (hcT (g_c_spell_sp ((fun (s : zS) (h : Inv2 s) => h) σ I.1).1.1) (fun _ => ⟨rfl, rfl⟩)) (fun s h => (f_spell h).imp (fun _ t g a j k => g a j (by unfold KT at k; omega) (by unfold KT at k; omega))))
theorem qt_explain {a b c d : Int} {σ : zS} (I : InvT σ) : two (g_c_explain a b c d σ) (g_m_explain a b c d) (fun _ _ s => InvT s) := ft2 (liftT I (tt2 (q_explain I.1)) (hcT (g_c_explain_sp ((fun (s : zS) (h : Inv2 s) => h) σ I.1).1.1) (fun _ => ⟨rfl, rfl⟩)) (fun s h => (f_explain h).imp (fun _ t g a j k => g a j (by unfold KT at k; omega) (by unfold KT at k; omega) (by unfold KT at k; omega) (by unfold KT at k; omega) (by unfold KT at k; omega) (by unfold KT at k; omega))))
theorem qt_paper {a : Int} {σ : zS} (I : InvT σ) : two (g_c_paper a σ) (g_m_paper a) (fun _ _ s => InvT s) := ft2 (liftT I (tt2 (q_paper I.1)) (hpT (g_c_paper_sp ((fun (s : zS) (h : Inv2 s) => h) σ I.1).1.1)) (hmT (fun _ h => m_paper h)))
theorem qt_query {a b c d e : Int} {σ : zS} (I : InvT σ) : two (g_c_query a b c d e σ) (g_m_query a b c d e) (fun v w s => InvT s ∧ v = w) := liftT I (q_query I.1) (hcT (g_c_query_sp ((fun (s : zS) (h : Inv2 s) => h) σ I.1).1.1) (fun _ => ⟨rfl, rfl⟩)) (fun s h => (f_query h).imp (fun _ t g a j k => g a j (by unfold KT at k; omega) (by unfold KT at k; omega) (by unfold KT at k; omega) (by unfold KT at k; omega) (by unfold KT at k; omega) (by unfold KT at k; omega) (by unfold KT at k; omega) (by unfold KT at k; omega) (by unfold KT at k; omega)))
theorem qt_find {a : Int} {σ : zS} (I : InvT σ) : two (g_c_find a σ) (g_m_find a) (fun _ _ s => InvT s) := ft2 (liftT I (tt2 (q_find I.1)) (hpT (g_c_find_sp ((fun (s : zS) (h : Inv2 s) => h) σ I.1).1.1)) (hmT (fun _ h => m_find h)))
theorem qt_probe {a b c d : Int} {σ : zS} (I : InvT σ) : two (g_c_probe a b c d σ) (g_m_probe a b c d) (fun _ _ s => InvT s) := ft2 (liftT I (tt2 (q_probe I.1)) (hcT (g_c_probe_sp ((fun (s : zS) (h : Inv2 s) => h) σ I.1).1.1) (fun _ => ⟨rfl, rfl⟩)) (fun s h => (f_probe h).imp (fun _ t g a j k => g a j (by unfold KT at k; omega) (by unfold KT at k; omega) (by unfold KT at k; omega) (by unfold KT at k; omega) (by unfold KT at k; omega))))
theorem qt_piece {a b : Int} {σ : zS} (I : InvT σ) : two (g_c_piece a b σ) (g_m_piece a b) (fun _ _ s => InvT s) := ft2 (liftT I (tt2 (q_piece I.1)) (hpT (g_c_piece_sp ((fun (s : zS) (h : Inv2 s) => h) σ I.1).1.1)) (hmT (fun _ h => m_piece h)))
theorem qt_region {a b : Int} {σ : zS} (I : InvT σ) : two (g_c_region a b σ) (g_m_region_248 a b) (fun _ _ s => InvT s) := ft2 (liftT I (tt2 (q_region I.1)) (hpT (g_c_region_sp ((fun (s : zS) (h : Inv2 s) => h) σ I.1).1.1)) (hmT (fun _ h => m_region h)))
theorem qt_weight {a : Int} {σ : zS} (I : InvT σ) : two (g_c_weight a σ) (g_m_weight a) (fun _ _ s => InvT s) := ft2 (liftT I (tt2 (q_weight I.1)) (hpT (g_c_weight_sp ((fun (s : zS) (h : Inv2 s) => h) σ I.1).1.1)) (hmT (fun _ h => m_weight h)))
theorem qt_told {a : Int} {σ : zS} (I : InvT σ) : two (g_c_told a σ) (g_m_told a) (fun _ _ s => InvT s) := ft2 (liftT I (tt2 (q_told I.1)) (hpT (g_c_told_sp ((fun (s : zS) (h : Inv2 s) => h) σ I.1).1.1)) (hmT (fun _ h => m_told h)))
theorem qt_flush {σ : zS} (I : InvT σ) : two (g_c_flush σ) g_m_flush (fun _ _ s => InvT s) := ft2 (liftT I (tt2 (q_flush I.1)) (hcT (g_c_flush_sp ((fun (s : zS) (h : Inv2 s) => h) σ I.1).1.1) (fun _ => ⟨rfl, rfl⟩)) (fun s h => (f_flush).imp (fun _ t g a j k => g a j (by unfold KT at k; omega))))
theorem qt_keep {a : Int} {σ : zS} (I : InvT σ) : two (g_c_keep a σ) (g_m_keep a) (fun _ _ s => InvT s) := ft2 (liftT I (tt2 (q_keep I.1)) (hpT (g_c_keep_sp ((fun (s : zS) (h : Inv2 s) => h) σ I.1).1.1)) (hmT (fun _ h => m_keep h)))
theorem qt_trace {a b c d : Int} {σ : zS} (I : InvT σ) : two (g_c_trace a b c d σ) (g_m_trace a b c d) (fun v w s => InvT s ∧ v = w) := liftT I (q_trace I.1) (hcT (g_c_trace_sp ((fun (s : zS) (h : Inv2 s) => h) σ I.1).1.1) (fun _ => ⟨rfl, rfl⟩)) (fun s h => (f_trace h).imp (fun _ t g a j k => g a j (by unfold KT at k; omega)))
theorem qt_again {a b : Int} {σ : zS} (I : InvT σ) : two (g_c_again a b σ) (g_m_again a b) (fun _ _ s => InvT s) := ft2 (liftT I (tt2 (q_again I.1)) (hcT (g_c_again_sp ((fun (s : zS) (h : Inv2 s) => h) σ I.1).1.1) (fun _ => ⟨rfl, rfl⟩)) (fun s h => (f_again h).imp (fun _ t g a j k => g a j (by unfold KT at k; omega) (by unfold KT at k; omega) (by unfold KT at k; omega) (by unfold KT at k; omega) (by unfold KT at k; omega) (by unfold KT at k; omega) (by unfold KT at k; omega) (by unfold KT at k; omega) (by unfold KT at k; omega))))
theorem qt_least {a : Int} {σ : zS} (I : InvT σ) : two (g_c_least a σ) (g_m_least a) (fun _ _ s => InvT s) := ft2 (liftT I (tt2 (q_least I.1)) (hcT (g_c_least_sp ((fun (s : zS) (h : Inv2 s) => h) σ I.1).1.1) (fun _ => ⟨rfl, rfl⟩)) (fun s h => (f_least h).imp (fun _ t g a j k => g a j (by unfold KT at k; omega) (by unfold KT at k; omega) (by unfold KT at k; omega) (by unfold KT at k; omega) (by unfold KT at k; omega) (by unfold KT at k; omega) (by unfold KT at k; omega) (by unfold KT at k; omega) (by unfold KT at k; omega))))
theorem qt_watch {a b c d e : Int} {σ : zS} (I : InvT σ) : two (g_c_watch a b c d e σ) (g_m_watch a b c d e) (fun v w s => InvT s ∧ v = w) := liftT I (q_watch I.1) (hcT (g_c_watch_sp ((fun (s : zS) (h : Inv2 s) => h) σ I.1).1.1) (fun _ => ⟨rfl, rfl⟩)) (fun s h => (f_watch h).imp (fun _ t g a j k => g a j (by unfold KT at k; omega)))
theorem qt_value {a : Int} {σ : zS} (I : InvT σ) : two (g_c_value a σ) (g_m_value a) (fun v w s => InvT s ∧ v = w) := liftT I (q_value I.1) (hcT (g_c_value_sp ((fun (s : zS) (h : Inv2 s) => h) σ I.1).1.1) (fun _ => ⟨rfl, rfl⟩)) (fun s h => (f_value h).imp (fun _ t g a j k => g a j (by unfold KT at k; omega) (by unfold KT at k; omega) (by unfold KT at k; omega)))
theorem qt_changes {a : Int} {σ : zS} (I : InvT σ) : two (g_c_changes a σ) (g_m_changes a) (fun v w s => InvT s ∧ v = w) := liftT I (q_changes I.1) (hpT (g_c_changes_sp ((fun (s : zS) (h : Inv2 s) => h) σ I.1).1.1)) (hmT (fun _ h => m_changes h))
theorem qt_list {a b : Int} {σ : zS} (I : InvT σ) : two (g_c_list a b σ) (g_m_list a b) (fun v w s => InvT s ∧ v = w) := liftT I (q_list I.1) (hcT (g_c_list_sp ((fun (s : zS) (h : Inv2 s) => h) σ I.1).1.1) (fun _ => ⟨rfl, rfl⟩)) (fun s h => (f_list h).imp (fun _ t g a j k => g a j (by unfold KT at k; omega) (by unfold KT at k; omega)))
theorem qt_set {a b c : Int} {σ : zS} (I : InvT σ) : two (g_c_set a b c σ) (g_m_set a b c) (fun v w s => InvT s ∧ v = w) := liftT I (q_set I.1) (hcT (g_c_set_sp ((fun (s : zS) (h : Inv2 s) => h) σ I.1).1.1) (fun _ => ⟨rfl, rfl⟩)) (fun s h => (f_set h).imp (fun _ t g a j k => g a j (by unfold KT at k; omega)))
theorem qt_get {a b : Int} {σ : zS} (I : InvT σ) : two (g_c_get a b σ) (g_m_get a b) (fun _ _ s => InvT s) := ft2 (liftT I (tt2 (q_get I.1)) (hpT (g_c_get_sp ((fun (s : zS) (h : Inv2 s) => h) σ I.1).1.1)) (hmT (fun _ h => m_get h)))
theorem qt_move {a b c d e : Int} {σ : zS} (hb : b < 2147483648) (hd : d < 2147483648) (I : InvT σ) : two (g_c_move a b c d e σ) (g_m_move a b c d e) (fun v w s => InvT s ∧ v = w) := liftT I (q_move hb hd I.1) (hcT (g_c_move_sp ((fun (s : zS) (h : Inv2 s) => h) σ I.1).1.1) (fun _ => ⟨rfl, rfl⟩)) (fun s h => (f_move hb hd h).imp (fun _ t g a j k => g a j (by unfold KT at k; omega)))
theorem qt_lay {a b : Int} {σ : zS} (hb : -2147483648 ≤ b ∧ b < 2147483648) (I : InvT σ) : two (g_c_lay a b σ) (g_m_lay a b) (fun _ _ s => InvT s) := ft2 (liftT I (tt2 (q_lay hb I.1)) (hcT (g_c_lay_sp ((fun (s : zS) (h : Inv2 s) => h) σ I.1).1.1) (fun _ => ⟨rfl, rfl⟩)) (fun s h => (f_lay hb h).imp (fun _ t g a j k => g a j (by unfold KT at k; omega))))
theorem qt_judge {a b : Int} {σ : zS} (hb : -2147483648 ≤ b ∧ b < 2147483648) (I : InvT σ) : two (g_c_judge a b σ) (g_m_judge a b) (fun _ _ s => InvT s) := ft2 (liftT I (tt2 (q_judge hb I.1)) (hpT (g_c_judge_sp ((fun (s : zS) (h : Inv2 s) => h) σ I.1).1.1)) (hmT (fun _ h => m_judge h hb)))
theorem qt_image {σ : zS} (I : InvT σ) : two (g_c_image σ) g_m_image (fun _ _ s => InvT s) := ft2 (liftT I (tt2 (q_image I.1)) (hcT (g_c_image_sp ((fun (s : zS) (h : Inv2 s) => h) σ I.1).1.1) (fun _ => ⟨rfl, rfl⟩)) (fun s h => ((f_image).imp (fun _ _ g => g.1)).imp (fun _ t g a j k => g a j (by unfold KT at k; omega) (by unfold KT at k; omega) (by unfold KT at k; omega))))
theorem qt_undo {σ : zS} (I : InvT σ) : two (g_c_undo σ) g_m_undo (fun _ _ s => InvT s) := ft2 (liftT I (tt2 (q_undo I.1)) (hcT (g_c_undo_sp ((fun (s : zS) (h : Inv2 s) => h) σ I.1).1.1) (fun _ => ⟨rfl, rfl⟩)) (fun s h => ((f_undo).imp (fun _ _ g => g.1)).imp (fun _ t g a j k => g a j (by unfold KT at k; omega) (by unfold KT at k; omega))))
end
section
/-! 6h.tape1 -/
/-! THE TAPES alike: the calls that touch them -/
theorem T_zero {σ : zS} {c : Option (Int × zS)} {m : zS → Option (Int × zS)} {Q : Int → Int → zS → Prop} (I : InvT σ) (o : two c m (fun v w s => Inv2 s ∧ Q v w s)) (hc : zP' c (fun _ s1 => s1 120 1 = 0 ∧ ∀ a j, (143 ≤ a ∧ a < 168) → s1 a j = σ a j)) (hm : ∀ s, MI s → zP' (m s) (fun _ s2 => s2 120 1 = s 120 1)) : two c m (fun v w s => InvT s ∧ Q v w s) := by
  obtain ⟨v, s1, e1, w, s2, e2, J, q⟩ := o
  obtain ⟨h0, h1⟩ := hc v s1 e1
  have M1 : MI s1 := MI_cls I.1.1.2.1 (fun a j k1 k2 => h1 a j ⟨k1, k2⟩)
  have h2 := hm s1 M1 w s2 e2
  exact ⟨v, s1, e1, w, s2, e2, ⟨J, fun j j1 j2 => absurd j2 (by rw [h2, h0]; omega)⟩, q⟩
theorem qt_clear {σ : zS} (I : InvT σ) : two (g_c_clear σ) g_m_clear (fun v w s => InvT s ∧ v = w) := T_zero I (q_clear I.1) (zP'.ret ⟨zu_e rfl, fun a j k => zu_a (by omega)⟩) (fun s h => (f_clear h).imp (fun _ t g => g 120 1 (Or.inl (by decide))))
theorem qt_settings {σ : zS} (I : InvT σ) : two (g_c_settings σ) g_m_settings (fun _ _ s => InvT s) := ft2 (T_zero I (tt2 (q_settings I.1)) ((zP'.of (g_c_settings_sp I.1.1.1)).imp (fun _ s p => ⟨p.2.2, fun a j k => p.2.1 a j (Or.inl k)⟩)) (fun s h => (f_settings h).imp (fun _ t g => g 120 1 (by omega))))
theorem qt_run {σ : zS} (I : InvT σ) : two (g_c_run σ) g_m_run (fun _ _ s => InvT s) := ft2 (T_zero I (tt2 (q_run I.1)) ((zP'.of (g_c_run_sp I.1.1.1)).imp (fun _ s p => ⟨p.2.2, fun a j k => p.2.1 a j (Or.inl k)⟩)) (fun s h => (f_run h).imp (fun _ t g => g 120 1 (by omega))))
theorem qt_load {σ : zS} (I : InvT σ) : two (g_c_load σ) g_m_load (fun _ _ s => InvT s) := ft2 (T_zero I (tt2 (q_load I.1)) ((zP'.of (g_c_load_sp I.1.1.1)).imp (fun _ s p => ⟨p.2.2, fun a j k => p.2.1 a j (Or.inl k)⟩)) (fun s h => (f_load h).imp (fun _ t g => g 120 1 (by omega))))
theorem qt_feed {x : Int} {σ : zS} (I : InvT σ) : two (g_c_feed x σ) (g_m_feed x) (fun v w s => InvT s ∧ v = w) := by
  obtain ⟨v, s1, e1, w, s2, e2, J, q⟩ := q_feed (x := x) I.1
  refine ⟨v, s1, e1, w, s2, e2, ⟨J, ?_⟩, q⟩
  have ht := CI.ct I.1.1.1
  have hL : σ 120 1 = σ 143 20 := I.1.1.2.2.1
  obtain ⟨p1, p2⟩ := p_feedF ht v s1 e1
  by_cases c : (1 ≤ x ∧ x ≤ 127) ∧ σ 120 1 < 160
  · have p1 := p1 c
    subst p1
    have f : ∀ a j, a ≠ 121 → a ≠ 120 → fedS σ 121 120 1 x a j = σ a j := fun a j k1 k2 => by
      unfold fedS
      rw [zu_a k2, zu_a k1]
    have hx := I.1.1.2.1.2.2.1.1
    obtain ⟨r1, -⟩ := t_feedF (x := x) (σ := fedS σ 121 120 1 x) (by rw [f 143 20 (by decide) (by decide)]; exact hx) w s2 e2
    have r1 := r1 (by rw [f 143 20 (by decide) (by decide)]; omega)
    subst r1
    intro j j1 j2
    have z120 : fedS (fedS σ 121 120 1 x) 159 143 20 x 120 1 = σ 120 1 + 1 := by
      unfold fedS
      rw [zu_a (by decide), zu_a (by decide), zu_e rfl]
    rw [z120] at j2
    have z121 : ∀ j, fedS (fedS σ 121 120 1 x) 159 143 20 x 121 j = if j = σ 120 1 then x else σ 121 j := fun j => by
      unfold fedS
      rw [zu_a (by decide), zu_a (by decide), zu_a (by decide)]
      by_cases cj : j = σ 120 1
      · rw [zu_e cj, if_pos cj]
      · rw [zu_i cj, if_neg cj]
    have z159 : ∀ j, fedS (fedS σ 121 120 1 x) 159 143 20 x 159 j = if j = σ 120 1 then x else σ 159 j := fun j => by
      unfold fedS
      rw [zu_a (by decide)]
      have e20 : zu (zu σ 121 (σ 120 1) x) 120 1 (σ 120 1 + 1) 143 20 = σ 120 1 := by rw [zu_a (by decide), zu_a (by decide), hL]
      by_cases cj : j = σ 120 1
      · rw [zu_e (by rw [e20]; exact cj), if_pos cj]
      · rw [zu_i (by rw [e20]; exact cj), if_neg cj, zu_a (by decide), zu_a (by decide)]
    rw [z121, z159]
    by_cases cj : j = σ 120 1
    · rw [if_pos cj, if_pos cj]
      exact ⟨rfl, c.1⟩
    · rw [if_neg cj, if_neg cj]
      exact I.2 j j1 (by omega)
  · have p2 := p2 c
    rw [p2] at e2
    have hx := I.1.1.2.1.2.2.1.1
    obtain ⟨-, r2⟩ := t_feedF (x := x) (σ := σ) hx w s2 e2
    have r2 := r2 (by rw [← hL]; exact c)
    rw [r2]
    exact I.2
end
section
/-! 6i.sets0 -/
/-! THE SETTINGS alike -/
def SEt (σ : zS) : Prop := (∀ j : Int, 0 ≤ j → j < 7 → σ 50 j = σ 144 (11 + j)) ∧ (σ 143 6 ≠ 0 → ∀ j : Int, 0 ≤ j → j < 7 → σ 83 j = σ 145 (11 + j))
theorem SEt_keep {σ s : zS} (h : SEt σ) (e : ∀ a j, ((a = 50) ∨ (a = 83) ∨ (a = 144 ∧ 11 ≤ j ∧ j < 18) ∨ a = 145 ∨ (a = 143 ∧ j = 6)) → s a j = σ a j) : SEt s := by
  refine ⟨fun j h1 h2 => ?_, fun k j h1 h2 => ?_⟩
  · rw [e 50 j (by omega), e 144 _ (by omega)]
    exact h.1 j h1 h2
  · rw [e 143 6 (by omega)] at k
    rw [e 83 j (by omega), e 145 _ (by omega)]
    exact h.2 k j h1 h2
end
section
/-! 6j.setsS -/
/-! COMPONENT S: SEt is kept by every call that does not touch it (printed by wip/zc.py) -/
def KS (a : Nat) (j : Int) : Prop := (a = 50) ∨ (a = 83) ∨ (a = 144 ∧ 11 ≤ j ∧ j < 18) ∨ a = 145 ∨ (a = 143 ∧ j = 6)
def cFS (F : Nat → Int → Bool) : Prop := ∀ j : Int, F 50 j = false ∧ F 83 j = false
theorem hcS {F : Nat → Int → Bool} {σ : zS} {c : Option (Int × zS)} {P : Int → zS → Prop} (hc : zO c (fun v s => CI s ∧ fr F σ s ∧ P v s)) (f : cFS F) : zP' c (fun _ s1 => ∀ a j, (KS a j ∨ (143 ≤ a ∧ a < 168)) → s1 a j = σ a j) := (zP'.of hc).imp (fun v s p a j k => by
  have G := p.2.1
  rcases k with k | k
  · unfold KS at k
    obtain ⟨h0, h1⟩ := f j
    rcases k with rfl | rfl | k
    · exact G _ _ (Or.inr h0)
    · exact G _ _ (Or.inr h1)
    · exact G _ _ (Or.inl (by omega))
  · exact G _ _ (Or.inl k))
theorem hpS {σ : zS} {c : Option (Int × zS)} {P : Int → Prop} (hc : zOp c σ P) : zP' c (fun _ s1 => ∀ a j, (KS a j ∨ (143 ≤ a ∧ a < 168)) → s1 a j = σ a j) := fun v s e => by
  obtain ⟨v0, e0, -⟩ := hc
  rw [e0] at e
  cases e
  exact fun _ _ _ => rfl
theorem hmS {m : zS → Option (Int × zS)} (h : ∀ s, MI s → ∃ w, m s = some (w, s)) : ∀ s, MI s → zP' (m s) (fun _ s2 => ∀ a j, KS a j → s2 a j = s a j) := fun s hs v t e => by
  obtain ⟨w, e0⟩ := h s hs
  rw [e0] at e
  cases e
  exact fun _ _ _ => rfl
def InvS (σ : zS) : Prop := InvT σ ∧ SEt σ
theorem liftS {σ : zS} {c : Option (Int × zS)} {m : zS → Option (Int × zS)} {Q : Int → Int → zS → Prop} (I : InvS σ) (o : two c m (fun v w s => InvT s ∧ Q v w s)) (hc : zP' c (fun _ s1 => ∀ a j, (KS a j ∨ (143 ≤ a ∧ a < 168)) → s1 a j = σ a j)) (hm : ∀ s, MI s → zP' (m s) (fun _ s2 => ∀ a j, KS a j → s2 a j = s a j)) : two c m (fun v w s => InvS s ∧ Q v w s) := by
  obtain ⟨v, s1, e1, w, s2, e2, J, q⟩ := o
  have h1 := hc v s1 e1
  have M1 : MI s1 := MI_cls ((fun (s : zS) (h : InvT s) => h.1) σ I.1).1.2.1 (fun a j k1 k2 => h1 a j (Or.inr ⟨k1, k2⟩))
  have h2 := hm s1 M1 w s2 e2
  exact ⟨v, s1, e1, w, s2, e2, ⟨J, SEt_keep I.2 (fun a j k => (h2 a j k).trans (h1 a j (Or.inl k)))⟩, q⟩
theorem qs_put {a b c d : Int} {σ : zS} (hd : okL d) (I : InvS σ) : two (g_c_put a b c d σ) (g_m_put a b c d) (fun _ _ s => InvS s) := ft2 (liftS I (tt2 (qt_put hd I.1)) (hcS (g_c_put_sp ((fun (s : zS) (h : InvT s) => h.1) σ I.1).1.1) (fun _ => ⟨rfl, rfl⟩)) (fun s h => (f_put h).imp (fun _ t g a j k => g a j (by unfold KS at k; omega) (by unfold KS at k; omega) (by unfold KS at k; omega) (by unfold KS at k; omega) (by unfold KS at k; omega) (by unfold KS at k; omega) (by unfold KS at k; omega) (by unfold KS at k; omega) (by unfold KS at k; omega))))
theorem qs_take {a : Int} {σ : zS} (I : InvS σ) : two (g_c_take a σ) (g_m_take a) (fun _ _ s => InvS s) := ft2 (liftS I (tt2 (qt_take I.1)) (hcS (g_c_take_sp ((fun (s : zS) (h : InvT s) => h.1) σ I.1).1.1) (fun _ => ⟨rfl, rfl⟩)) (fun s h => (f_take h).imp (fun _ t g a j k => g a j (by unfold KS at k; omega) (by unfold KS at k; omega) (by unfold KS at k; omega) (by unfold KS at k; omega) (by unfold KS at k; omega) (by unfold KS at k; omega) (by unfold KS at k; omega) (by unfold KS at k; omega) (by unfold KS at k; omega))))
theorem qs_row {a b : Int} {σ : zS} (I : InvS σ) : two (g_c_row a b σ) (g_m_row a b) (fun v w s => InvS s ∧ v = w) := liftS I (qt_row I.1) (hpS (g_c_row_sp ((fun (s : zS) (h : InvT s) => h.1) σ I.1).1.1)) (hmS (fun _ _ => m_row))
theorem qs_worth {a : Int} {σ : zS} (I : InvS σ) : two (g_c_worth a σ) (g_m_worth a) (fun v w s => InvS s ∧ v = w) := liftS I (qt_worth I.1) (hpS (g_c_worth_sp ((fun (s : zS) (h : InvT s) => h.1) σ I.1).1.1)) (hmS (fun _ _ => m_worth))
theorem qs_feed {a : Int} {σ : zS} (I : InvS σ) : two (g_c_feed a σ) (g_m_feed a) (fun v w s => InvS s ∧ v = w) := liftS I (qt_feed I.1) (hcS (g_c_feed_sp ((fun (s : zS) (h : InvT s) => h.1) σ I.1).1.1) (fun _ => ⟨rfl, rfl⟩)) (fun s h => (f_feed h).imp (fun _ t g a j k => g a j (by unfold KS at k; omega) (by unfold KS at k; omega)))
theorem qs_clear {σ : zS} (I : InvS σ) : two (g_c_clear σ) g_m_clear (fun v w s => InvS s ∧ v = w) := liftS I (qt_clear I.1) (hcS (g_c_clear_sp ((fun (s : zS) (h : InvT s) => h.1) σ I.1).1.1) (fun _ => ⟨rfl, rfl⟩)) (fun s h => (f_clear h).imp (fun _ t g a j k => g a j (by unfold KS at k; omega)))
theorem qs_run {σ : zS} (I : InvS σ) : two (g_c_run σ) g_m_run (fun _ _ s => InvS s) := ft2 (liftS I (tt2 (qt_run I.1)) (hcS (g_c_run_sp ((fun (s : zS) (h : InvT s) => h.1) σ I.1).1.1) (fun _ => ⟨rfl, rfl⟩)) (fun s h => (f_run h).imp (fun _ t g a j k => g a j (by unfold KS at k; omega))))
theorem qs_answer {a : Int} {σ : zS} (I : InvS σ) : two (g_c_answer a σ) (g_m_answer a) (fun _ _ s => InvS s) := ft2 (liftS I (tt2 (qt_answer I.1)) (hpS (g_c_answer_sp ((fun (s : zS) (h : InvT s) => h.1) σ I.1).1.1)) (hmS (fun _ h => m_answer h)))
theorem qs_spell {σ : zS} (I : InvS σ) : two (g_c_spell σ) g_m_spell (fun _ _ s => InvS s) := ft2 (liftS I (tt2 (qt_spell I.1)) (hcS (g_c_spell_sp ((fun (s : zS) (h : InvT s) => h.1) σ I.1).1.1) (fun _ => ⟨rfl, rfl⟩)) (fun s h => (f_spell h).imp (fun _ t g a j k => g a j (by unfold KS at k; omega) (by unfold KS at k; omega))))
theorem qs_load {σ : zS} (I : InvS σ) : two (g_c_load σ) g_m_load (fun _ _ s => InvS s) := ft2 (liftS I (tt2 (qt_load I.1)) (hcS (g_c_load_sp ((fun (s : zS) (h : InvT s) => h.1) σ I.1).1.1) (fun _ => ⟨rfl, rfl⟩)) (fun s h => (f_load h).imp (fun _ t g a j k => g a j (by unfold KS at k; omega))))
theorem qs_explain {a b c d : Int} {σ : zS} (I : InvS σ) : two (g_c_explain a b c d σ) (g_m_explain a b c d) (fun _ _ s => InvS s) := ft2 (liftS I (tt2 (qt_explain I.1)) (hcS (g_c_explain_sp ((fun (s : zS) (h : InvT s) => h.1) σ I.1).1.1) (fun _ => ⟨rfl, rfl⟩)) (fun s h => (f_explain h).imp (fun _ t g a j k => g a j (by unfold KS at k; omega) (by unfold KS at k; omega) (by unfold KS at k; omega) (by unfold KS at k; omega) (by unfold KS at k; omega) (by unfold KS at k; omega))))
theorem qs_paper {a : Int} {σ : zS} (I : InvS σ) : two (g_c_paper a σ) (g_m_paper a) (fun _ _ s => InvS s) := ft2 (liftS I (tt2 (qt_paper I.1)) (hpS (g_c_paper_sp ((fun (s : zS) (h : InvT s) => h.1) σ I.1).1.1)) (hmS (fun _ h => m_paper h)))
theorem qs_query {a b c d e : Int} {σ : zS} (I : InvS σ) : two (g_c_query a b c d e σ) (g_m_query a b c d e) (fun v w s => InvS s ∧ v = w) := liftS I (qt_query I.1) (hcS (g_c_query_sp ((fun (s : zS) (h : InvT s) => h.1) σ I.1).1.1) (fun _ => ⟨rfl, rfl⟩)) (fun s h => (f_query h).imp (fun _ t g a j k => g a j (by unfold KS at k; omega) (by unfold KS at k; omega) (by unfold KS at k; omega) (by unfold KS at k; omega) (by unfold KS at k; omega) (by unfold KS at k; omega) (by unfold KS at k; omega) (by unfold KS at k; omega) (by unfold KS at k; omega)))
theorem qs_find {a : Int} {σ : zS} (I : InvS σ) : two (g_c_find a σ) (g_m_find a) (fun _ _ s => InvS s) := ft2 (liftS I (tt2 (qt_find I.1)) (hpS (g_c_find_sp ((fun (s : zS) (h : InvT s) => h.1) σ I.1).1.1)) (hmS (fun _ h => m_find h)))
theorem qs_probe {a b c d : Int} {σ : zS} (I : InvS σ) : two (g_c_probe a b c d σ) (g_m_probe a b c d) (fun _ _ s => InvS s) := ft2 (liftS I (tt2 (qt_probe I.1)) (hcS (g_c_probe_sp ((fun (s : zS) (h : InvT s) => h.1) σ I.1).1.1) (fun _ => ⟨rfl, rfl⟩)) (fun s h => (f_probe h).imp (fun _ t g a j k => g a j (by unfold KS at k; omega) (by unfold KS at k; omega) (by unfold KS at k; omega) (by unfold KS at k; omega) (by unfold KS at k; omega))))
theorem qs_piece {a b : Int} {σ : zS} (I : InvS σ) : two (g_c_piece a b σ) (g_m_piece a b) (fun _ _ s => InvS s) := ft2 (liftS I (tt2 (qt_piece I.1)) (hpS (g_c_piece_sp ((fun (s : zS) (h : InvT s) => h.1) σ I.1).1.1)) (hmS (fun _ h => m_piece h)))
theorem qs_region {a b : Int} {σ : zS} (I : InvS σ) : two (g_c_region a b σ) (g_m_region_248 a b) (fun _ _ s => InvS s) := ft2 (liftS I (tt2 (qt_region I.1)) (hpS (g_c_region_sp ((fun (s : zS) (h : InvT s) => h.1) σ I.1).1.1)) (hmS (fun _ h => m_region h)))
theorem qs_weight {a : Int} {σ : zS} (I : InvS σ) : two (g_c_weight a σ) (g_m_weight a) (fun _ _ s => InvS s) := ft2 (liftS I (tt2 (qt_weight I.1)) (hpS (g_c_weight_sp ((fun (s : zS) (h : InvT s) => h.1) σ I.1).1.1)) (hmS (fun _ h => m_weight h)))
theorem qs_told {a : Int} {σ : zS} (I : InvS σ) : two (g_c_told a σ) (g_m_told a) (fun _ _ s => InvS s) := ft2 (liftS I (tt2 (qt_told I.1)) (hpS (g_c_told_sp ((fun (s : zS) (h : InvT s) => h.1) σ I.1).1.1)) (hmS (fun _ h => m_told h)))
theorem qs_flush {σ : zS} (I : InvS σ) : two (g_c_flush σ) g_m_flush (fun _ _ s => InvS s) := ft2 (liftS I (tt2 (qt_flush I.1)) (hcS (g_c_flush_sp ((fun (s : zS) (h : InvT s) => h.1) σ I.1).1.1) (fun _ => ⟨rfl, rfl⟩)) (fun s h => (f_flush).imp (fun _ t g a j k => g a j (by unfold KS at k; omega))))
theorem qs_keep {a : Int} {σ : zS} (I : InvS σ) : two (g_c_keep a σ) (g_m_keep a) (fun _ _ s => InvS s) := ft2 (liftS I (tt2 (qt_keep I.1)) (hpS (g_c_keep_sp ((fun (s : zS) (h : InvT s) => h.1) σ I.1).1.1)) (hmS (fun _ h => m_keep h)))
theorem qs_trace {a b c d : Int} {σ : zS} (I : InvS σ) : two (g_c_trace a b c d σ) (g_m_trace a b c d) (fun v w s => InvS s ∧ v = w) := liftS I (qt_trace I.1) (hcS (g_c_trace_sp ((fun (s : zS) (h : InvT s) => h.1) σ I.1).1.1) (fun _ => ⟨rfl, rfl⟩)) (fun s h => (f_trace h).imp (fun _ t g a j k => g a j (by unfold KS at k; omega)))
theorem qs_again {a b : Int} {σ : zS} (I : InvS σ) : two (g_c_again a b σ) (g_m_again a b) (fun _ _ s => InvS s) := ft2 (liftS I (tt2 (qt_again I.1)) (hcS (g_c_again_sp ((fun (s : zS) (h : InvT s) => h.1) σ I.1).1.1) (fun _ => ⟨rfl, rfl⟩)) (fun s h => (f_again h).imp (fun _ t g a j k => g a j (by unfold KS at k; omega) (by unfold KS at k; omega) (by unfold KS at k; omega) (by unfold KS at k; omega) (by unfold KS at k; omega) (by unfold KS at k; omega) (by unfold KS at k; omega) (by unfold KS at k; omega) (by unfold KS at k; omega))))
theorem qs_least {a : Int} {σ : zS} (I : InvS σ) : two (g_c_least a σ) (g_m_least a) (fun _ _ s => InvS s) := ft2 (liftS I (tt2 (qt_least I.1)) (hcS (g_c_least_sp ((fun (s : zS) (h : InvT s) => h.1) σ I.1).1.1) (fun _ => ⟨rfl, rfl⟩)) (fun s h => (f_least h).imp (fun _ t g a j k => g a j (by unfold KS at k; omega) (by unfold KS at k; omega) (by unfold KS at k; omega) (by unfold KS at k; omega) (by unfold KS at k; omega) (by unfold KS at k; omega) (by unfold KS at k; omega) (by unfold KS at k; omega) (by unfold KS at k; omega))))
theorem qs_watch {a b c d e : Int} {σ : zS} (I : InvS σ) : two (g_c_watch a b c d e σ) (g_m_watch a b c d e) (fun v w s => InvS s ∧ v = w) := liftS I (qt_watch I.1) (hcS (g_c_watch_sp ((fun (s : zS) (h : InvT s) => h.1) σ I.1).1.1) (fun _ => ⟨rfl, rfl⟩)) (fun s h => (f_watch h).imp (fun _ t g a j k => g a j (by unfold KS at k; omega)))
theorem qs_value {a : Int} {σ : zS} (I : InvS σ) : two (g_c_value a σ) (g_m_value a) (fun v w s => InvS s ∧ v = w) := liftS I (qt_value I.1) (hcS (g_c_value_sp ((fun (s : zS) (h : InvT s) => h.1) σ I.1).1.1) (fun _ => ⟨rfl, rfl⟩)) (fun s h => (f_value h).imp (fun _ t g a j k => g a j (by unfold KS at k; omega) (by unfold KS at k; omega) (by unfold KS at k; omega)))
theorem qs_changes {a : Int} {σ : zS} (I : InvS σ) : two (g_c_changes a σ) (g_m_changes a) (fun v w s => InvS s ∧ v = w) := liftS I (qt_changes I.1) (hpS (g_c_changes_sp ((fun (s : zS) (h : InvT s) => h.1) σ I.1).1.1)) (hmS (fun _ h => m_changes h))
theorem qs_list {a b : Int} {σ : zS} (I : InvS σ) : two (g_c_list a b σ) (g_m_list a b) (fun v w s => InvS s ∧ v = w) := liftS I (qt_list I.1) (hcS (g_c_list_sp ((fun (s : zS) (h : InvT s) => h.1) σ I.1).1.1) (fun _ => ⟨rfl, rfl⟩)) (fun s h => (f_list h).imp (fun _ t g a j k => g a j (by unfold KS at k; omega) (by unfold KS at k; omega)))
theorem qs_set {a b c : Int} {σ : zS} (I : InvS σ) : two (g_c_set a b c σ) (g_m_set a b c) (fun v w s => InvS s ∧ v = w) := liftS I (qt_set I.1) (hcS (g_c_set_sp ((fun (s : zS) (h : InvT s) => h.1) σ I.1).1.1) (fun _ => ⟨rfl, rfl⟩)) (fun s h => (f_set h).imp (fun _ t g a j k => g a j (by unfold KS at k; omega)))
theorem qs_get {a b : Int} {σ : zS} (I : InvS σ) : two (g_c_get a b σ) (g_m_get a b) (fun _ _ s => InvS s) := ft2 (liftS I (tt2 (qt_get I.1)) (hpS (g_c_get_sp ((fun (s : zS) (h : InvT s) => h.1) σ I.1).1.1)) (hmS (fun _ h => m_get h)))
theorem qs_move {a b c d e : Int} {σ : zS} (hb : b < 2147483648) (hd : d < 2147483648) (I : InvS σ) : two (g_c_move a b c d e σ) (g_m_move a b c d e) (fun v w s => InvS s ∧ v = w) := liftS I (qt_move hb hd I.1) (hcS (g_c_move_sp ((fun (s : zS) (h : InvT s) => h.1) σ I.1).1.1) (fun _ => ⟨rfl, rfl⟩)) (fun s h => (f_move hb hd h).imp (fun _ t g a j k => g a j (by unfold KS at k; omega)))
theorem qs_lay {a b : Int} {σ : zS} (hb : -2147483648 ≤ b ∧ b < 2147483648) (I : InvS σ) : two (g_c_lay a b σ) (g_m_lay a b) (fun _ _ s => InvS s) := ft2 (liftS I (tt2 (qt_lay hb I.1)) (hcS (g_c_lay_sp ((fun (s : zS) (h : InvT s) => h.1) σ I.1).1.1) (fun _ => ⟨rfl, rfl⟩)) (fun s h => (f_lay hb h).imp (fun _ t g a j k => g a j (by unfold KS at k; omega))))
theorem qs_judge {a b : Int} {σ : zS} (hb : -2147483648 ≤ b ∧ b < 2147483648) (I : InvS σ) : two (g_c_judge a b σ) (g_m_judge a b) (fun _ _ s => InvS s) := ft2 (liftS I (tt2 (qt_judge hb I.1)) (hpS (g_c_judge_sp ((fun (s : zS) (h : InvT s) => h.1) σ I.1).1.1)) (hmS (fun _ h => m_judge h hb)))
end
section
/-! 6k.sets1 -/
/-! THE SETTINGS alike: the calls that touch them -/
theorem cT_mT {σ : zS} (hL : σ 120 1 = σ 143 20) (h : TPr σ) : cT σ = mT σ := by
  funext j
  unfold cT mT
  rw [← hL]
  by_cases c : 0 ≤ j ∧ j < σ 120 1
  · rw [if_pos c, if_pos c]
    exact (h j c.1 c.2).1
  · rw [if_neg c, if_neg c]
theorem TPr.c {σ : zS} (h : TPr σ) : byC σ := fun j h1 h2 => (h j h1 h2).2
theorem TPr.m {σ : zS} (hL : σ 120 1 = σ 143 20) (h : TPr σ) : tpR σ := fun j h1 h2 => by
  have e := h j h1 (by omega)
  rw [← e.1]
  exact e.2
theorem qs_settings {σ : zS} (I : InvS σ) : two (g_c_settings σ) g_m_settings (fun v w s => InvS s ∧ v = w) := by
  obtain ⟨v, s1, e1, w, s2, e2, J⟩ := qt_settings I.1
  have hL : σ 120 1 = σ 143 20 := I.1.1.1.2.2.1
  obtain ⟨c1, c2⟩ := c_settings I.1.1.1.1 I.1.2.c v s1 e1
  obtain ⟨-, G1, -⟩ := zP'.of (g_c_settings_sp I.1.1.1.1) v s1 e1
  have ref : ∀ a j, 143 ≤ a → a < 168 → s1 a j = σ a j := fun a j k1 k2 => G1 a j (Or.inl ⟨k1, k2⟩)
  have M1 : MI s1 := MI_cls I.1.1.1.2.1 ref
  have e159 : s1 159 = σ 159 := funext (fun j => ref 159 j (by decide) (by decide))
  have e144 : s1 144 = σ 144 := funext (fun j => ref 144 j (by decide) (by decide))
  have e20 : s1 143 20 = σ 143 20 := ref 143 20 (by decide) (by decide)
  have hR : tpR s1 := by
    unfold tpR
    rw [e20, e159]
    exact I.1.2.m hL
  have eT : mT s1 = cT σ := by
    rw [cT_mT hL I.1.2]
    unfold mT
    rw [e20, e159]
  obtain ⟨m1, m2⟩ := m_settings3 M1 hR w s2 e2
  have F2 := f_settings M1 w s2 e2
  have eS : S7 (fun j => s1 144 (11 + j)) = S7 (σ 50) := S7_ext (fun j j1 j2 => by
    rw [e144]
    exact (I.2.1 j j1 j2).symm)
  rw [eT, e20, eS, ← hL] at m1 m2
  refine ⟨v, s1, e1, w, s2, e2, ⟨J, fun j j1 j2 => ?_, fun k j j1 j2 => ?_⟩, c1.trans m1.symm⟩
  · rw [F2 50 j (by omega), c2 j j1 j2, m2 j j1 j2]
  · rw [F2 143 6 (by omega), ref 143 6 (by decide) (by decide)] at k
    rw [F2 83 j (by omega), F2 145 _ (by omega), ref 145 _ (by decide) (by decide), G1 83 j (Or.inr rfl)]
    exact I.2.2 k j j1 j2
theorem se_of {a : Int} {σ : zS} : g_c_setting a σ = some (if 0 ≤ a ∧ a < 7 then σ 50 a else -1, σ) := by
  unfold g_c_setting g_se_of
  by_cases c1 : a < 0
  · rw [if_pos c1, if_neg (by omega)]
    rfl
  · rw [if_neg c1]
    by_cases c2 : 7 ≤ a
    · rw [if_pos c2, if_neg (by omega)]
      rfl
    · rw [if_neg c2, if_pos (by omega), if_pos (by omega)]
      rfl
theorem t_setting {a : Int} {σ : zS} : g_m_setting a σ = some (if 0 ≤ a ∧ a < 7 then σ 144 (11 + a) else -1, σ) := by
  unfold g_m_setting
  by_cases c : 0 ≤ a ∧ a < 7
  · rw [s_isIn_t c.1 (by omega)]
    rw [Option.bind_some]
    try dsimp +instances only
    rw [if_neg (by decide), w32_id (x := 11 + a) (by omega) (by omega), if_pos (by omega), if_pos c]
  · rw [s_isIn_f (by omega)]
    rw [Option.bind_some]
    try dsimp +instances only
    rw [if_pos rfl, if_neg c]
theorem qs_setting {a : Int} {σ : zS} (I : InvS σ) : two (g_c_setting a σ) (g_m_setting a) (fun v w s => InvS s ∧ v = w) := by
  refine ⟨_, σ, se_of, _, σ, t_setting, I, ?_⟩
  by_cases c : 0 ≤ a ∧ a < 7
  · rw [if_pos c, if_pos c]
    exact I.2.1 a c.1 c.2
  · rw [if_neg c, if_neg c]
theorem qs_image {σ : zS} (I : InvS σ) : two (g_c_image σ) g_m_image (fun _ _ s => InvS s) := by
  obtain ⟨v, s1, e1, w, s2, e2, J⟩ := qt_image I.1
  refine ⟨v, s1, e1, w, s2, e2, J, ?_⟩
  have h1 := CI.c1 (a := 63) I.1.1.1.1 (by omega)
  have h9 := I.1.1.1.2.1.2.1.2.2.2.1
  have R9 : σ 63 1 = σ 144 9 := I.1.1.2.1.2.1
  have key : zP' (g_c_image σ) (fun _ s => (∀ j : Int, 0 ≤ j → j < 7 → s 83 j = σ 50 j) ∧ ∀ j, s 50 j = σ 50 j) := by
    unfold g_c_image
    refine zP'.bind (p_stF_img (σ := σ) ⟨h1.1, by omega⟩) (fun _ t p => ?_)
    obtain ⟨p1, -, -, -, p5⟩ := p
    try dsimp +instances only
    refine zP'.ret ⟨fun j j1 j2 => ?_, fun j => ?_⟩
    · try dsimp only
      rw [zu_a (by decide)]
      exact p1 j j1 j2
    · try dsimp only
      rw [zu_a (by decide)]
      exact p5 50 j (by omega)
  obtain ⟨k1, k2⟩ := key v s1 e1
  obtain ⟨-, G1, -⟩ := zP'.of (g_c_image_sp I.1.1.1.1) v s1 e1
  obtain ⟨m1, m2, -, -⟩ := f_image w s2 e2
  have z : ∀ j : Int, 0 ≤ j → j < 7 → s1 144 (11 + j) = σ 144 (11 + j) := fun j _ _ => G1 144 _ (Or.inl (by decide))
  refine ⟨fun j j1 j2 => ?_, fun _ j j1 j2 => ?_⟩
  · rw [m1 50 j (by decide) (by decide) (Or.inl (by decide)), m1 144 _ (by decide) (by decide) (Or.inl (by decide)), k2, z j j1 j2]
    exact I.2.1 j j1 j2
  · rw [m1 83 j (by decide) (by decide) (Or.inl (by decide)), m2 _ (by omega) (by omega), k1 j j1 j2, z j j1 j2]
    exact I.2.1 j j1 j2
theorem qs_undo {σ : zS} (I : InvS σ) : two (g_c_undo σ) g_m_undo (fun _ _ s => InvS s) := by
  obtain ⟨v, s1, e1, w, s2, e2, J⟩ := qt_undo I.1
  refine ⟨v, s1, e1, w, s2, e2, J, ?_⟩
  obtain ⟨-, G1, -⟩ := zP'.of (g_c_undo_sp I.1.1.1.1) v s1 e1
  have ref : ∀ a j, 143 ≤ a → a < 168 → s1 a j = σ a j := fun a j k1 k2 => G1 a j (Or.inl ⟨k1, k2⟩)
  obtain ⟨m1, m2, m3⟩ := f_undo w s2 e2
  have h6 : σ 39 2 ≠ 0 ↔ σ 143 6 ≠ 0 := I.1.1.2.2.1
  have e6 : s1 143 6 = σ 143 6 := ref 143 6 (by decide) (by decide)
  by_cases c : σ 143 6 ≠ 0
  · have Ri := I.1.1.2.2.2 c
    have II := I.1.1.1.2.1.2.2.2 c
    have R9 : σ 96 1 = σ 145 9 := Ri.2.1
    have h9 : 0 ≤ σ 145 9 ∧ σ 145 9 ≤ 10 := II.2.2.2.2.1
    have key : zP' (g_c_undo σ) (fun _ s => (∀ j : Int, 0 ≤ j → j < 7 → s 50 j = σ 83 j) ∧ ∀ j, s 83 j = σ 83 j) := by
      unfold g_c_undo
      try dsimp +instances only
      rw [if_pos (h6.mpr c)]
      refine zP'.bind (p_stF_und (σ := σ) (by omega)) (fun _ t p => ?_)
      obtain ⟨p1, -, -, -, p5⟩ := p
      try dsimp +instances only
      exact zP'.ret ⟨p1, fun j => p5 83 j (by omega)⟩
    obtain ⟨k1, k2⟩ := key v s1 e1
    obtain ⟨n1, -⟩ := m2 (by rw [e6]; exact c)
    refine ⟨fun j j1 j2 => ?_, fun _ j j1 j2 => ?_⟩
    · rw [m1 50 j (by decide) (by decide), n1 _ (by omega) (by omega), k1 j j1 j2, ref 145 _ (by decide) (by decide)]
      exact I.2.2 c j j1 j2
    · rw [m1 83 j (by decide) (by decide), m1 145 _ (by decide) (by decide), k2, ref 145 _ (by decide) (by decide)]
      exact I.2.2 c j j1 j2
  · have c6 : σ 143 6 = 0 := Classical.byContradiction (fun h => c h)
    have key : zP' (g_c_undo σ) (fun _ s => s = σ) := by
      unfold g_c_undo
      try dsimp +instances only
      rw [if_neg (fun h => c (h6.mp h))]
      exact zP'.ret rfl
    have k := key v s1 e1
    have n := m3 (by rw [e6]; exact c6)
    rw [n, k]
    exact I.2
theorem InvS_s0 : InvS s0 := by
  refine ⟨⟨Inv2_s0, fun j h1 h2 => ?_⟩, fun j h1 h2 => ?_, fun h => ?_⟩
  · have e : s0 120 1 = 0 := by decide +kernel
    rw [e] at h2
    omega
  · have e : ∀ n : Fin 7, s0 50 ((n.val : Nat) : Int) = s0 144 (11 + ((n.val : Nat) : Int)) := by decide +kernel
    obtain ⟨n, rfl⟩ : ∃ n : Nat, j = (n : Int) := ⟨j.toNat, by omega⟩
    exact e ⟨n, by omega⟩
  · have e : s0 143 6 = 0 := by decide +kernel
    exact absurd e h
end
section
/-! 6l.expr -/
/-! E, told once: its signs, and for which rows it holds -/
abbrev zEx : Type := Sum Int ((Int → Bool) × Int)
def ltrR (f : Int → Int) (L p : Int) : zRd := if p < L then (if f p = 119 then .inr (0, p + 1) else if f p = 120 then .inr (1, p + 1) else if f p = 121 then .inr (2, p + 1) else if f p = 114 then .inr (3, p + 1) else .inl p) else .inl p
def cmpR (f : Int → Int) (L p : Int) : zRd := if p < L then (if f p = 60 then .inr (0, p + 1) else if f p = 61 then .inr (1, p + 1) else if f p = 62 then .inr (2, p + 1) else .inl p) else .inl p
def negB (f : Int → Int) (L p : Int) : Bool := decide (p < L ∧ f p = 45)
def tstN (f : Int → Int) (L p : Int) : zRd := numR 9 0 999999999 f L (if negB f L p = true then p + 1 else p)
def tstV (l c : Int) (n : Bool) : zRd → Sum Int ((Int × Int × Int) × Int)
  | .inl q => .inl q
  | .inr x => .inr ((l, c, if n = true then -x.1 else x.1), x.2)
def tstC (l : Int) (f : Int → Int) (L p : Int) : Sum Int ((Int × Int × Int) × Int) := match cmpR f L p with
  | .inl q => .inl q
  | .inr y => tstV l y.1 (negB f L y.2) (tstN f L y.2)
def tstP (f : Int → Int) (L p : Int) : Sum Int ((Int × Int × Int) × Int) := match ltrR f L p with
  | .inl q => .inl q
  | .inr x => tstC x.1 f L x.2
def cmpB (c a b : Int) : Bool := if c = 0 then decide (a < b) else if c = 1 then decide (a = b) else decide (b < a)
def exTst (ev : Int → Int → Int) : Sum Int ((Int × Int × Int) × Int) → zEx
  | .inl q => .inl q
  | .inr x => .inr (fun r => cmpB x.1.2.1 (ev x.1.1 r) x.1.2.2, x.2)
def exNot : zEx → zEx
  | .inl q => .inl q
  | .inr x => .inr (fun r => !x.1 r, x.2)
def exPar (f : Int → Int) (L : Int) : zEx → zEx
  | .inl q => .inl q
  | .inr x => match sgnR 41 f L x.2 with
    | .inl q => .inl q
    | .inr y => .inr (x.1, y.2)
def exSeq (k : Int → (Int → Bool) → zEx) : zEx → zEx
  | .inl q => .inl q
  | .inr x => k x.2 x.1
/-- kinds: 0 either, 1 both, 2 single, 3 and 4 their loops behind T -/
def eP (ev : Int → Int → Int) (f : Int → Int) (L : Int) : Nat → Nat → Int → Int → (Int → Bool) → zEx
  | 0, _, _, p, _ => .inl p
  | n + 1, 0, d, p, T => exSeq (fun p' T' => eP ev f L n 3 d p' T') (eP ev f L n 1 d p T)
  | n + 1, 1, d, p, T => exSeq (fun p' T' => eP ev f L n 4 d p' T') (eP ev f L n 2 d p T)
  | n + 1, 3, d, p, T => if p < L ∧ f p = 124 then exSeq (fun p' T' => eP ev f L n 3 d p' (fun r => T r || T' r)) (eP ev f L n 1 d (p + 1) T) else .inr (T, p)
  | n + 1, 4, d, p, T => if p < L ∧ f p = 38 then exSeq (fun p' T' => eP ev f L n 4 d p' (fun r => T r && T' r)) (eP ev f L n 2 d (p + 1) T) else .inr (T, p)
  | n + 1, _, d, p, T => if d < 4 ∧ p < L ∧ f p = 33 then exNot (eP ev f L n 2 (d + 1) (p + 1) T) else if d < 4 ∧ p < L ∧ f p = 40 then exPar f L (eP ev f L n 0 (d + 1) (p + 1) T) else exTst ev (tstP f L p)
def eN (k : Nat) : Int := if k = 0 then 3 else if k = 1 then 2 else 1
theorem ltrR_ok {f : Int → Int} {L p v p' : Int} (h : ltrR f L p = .inr (v, p')) : p < L ∧ p' = p + 1 ∧ ((v = 0 ∧ f p = 119) ∨ (v = 1 ∧ f p = 120) ∨ (v = 2 ∧ f p = 121) ∨ (v = 3 ∧ f p = 114)) := by
  unfold ltrR at h
  repeat' (split at h)
  all_goals first
    | (cases h; refine ⟨by assumption, rfl, ?_⟩; omega)
    | cases h
theorem ltrR_no {f : Int → Int} {L p q : Int} (h : ltrR f L p = .inl q) : q = p ∧ (p < L → f p ≠ 119 ∧ f p ≠ 120 ∧ f p ≠ 121 ∧ f p ≠ 114) := by
  unfold ltrR at h
  repeat' (split at h)
  all_goals first
    | (cases h; exact ⟨rfl, fun _ => ⟨by assumption, by assumption, by assumption, by assumption⟩⟩)
    | (cases h; exact ⟨rfl, fun _ => by omega⟩)
    | cases h
theorem cmpR_ok {f : Int → Int} {L p v p' : Int} (h : cmpR f L p = .inr (v, p')) : p < L ∧ p' = p + 1 ∧ ((v = 0 ∧ f p = 60) ∨ (v = 1 ∧ f p = 61) ∨ (v = 2 ∧ f p = 62)) := by
  unfold cmpR at h
  repeat' (split at h)
  all_goals first
    | (cases h; refine ⟨by assumption, rfl, ?_⟩; omega)
    | cases h
theorem cmpR_no {f : Int → Int} {L p q : Int} (h : cmpR f L p = .inl q) : q = p ∧ (p < L → f p ≠ 60 ∧ f p ≠ 61 ∧ f p ≠ 62) := by
  unfold cmpR at h
  repeat' (split at h)
  all_goals first
    | (cases h; exact ⟨rfl, fun _ => ⟨by assumption, by assumption, by assumption⟩⟩)
    | (cases h; exact ⟨rfl, fun _ => by omega⟩)
    | cases h
theorem ltrR_bd {f : Int → Int} {L p : Int} (h : p ≤ L) : rBd p L (ltrR f L p) := by
  cases e : ltrR f L p with
  | inl q =>
    have k := (ltrR_no e).1
    exact ⟨by omega, by omega⟩
  | inr x =>
    have k := ltrR_ok (v := x.1) (p' := x.2) e
    exact ⟨by omega, by omega⟩
theorem cmpR_bd {f : Int → Int} {L p : Int} (h : p ≤ L) : rBd p L (cmpR f L p) := by
  cases e : cmpR f L p with
  | inl q =>
    have k := (cmpR_no e).1
    exact ⟨by omega, by omega⟩
  | inr x =>
    have k := cmpR_ok (v := x.1) (p' := x.2) e
    exact ⟨by omega, by omega⟩
theorem negB_t {f : Int → Int} {L p : Int} (h : negB f L p = true) : p < L ∧ f p = 45 := of_decide_eq_true h
theorem negB_f {f : Int → Int} {L p : Int} (h : negB f L p = false) : ¬ (p < L ∧ f p = 45) := of_decide_eq_false h
theorem tstN_bd {f : Int → Int} {L p : Int} (h : p ≤ L) : rBd p L (tstN f L p) := by
  unfold tstN
  cases e : negB f L p with
  | true =>
    have k := (negB_t e).1
    have b := numR_bd (w := 9) (lo := 0) (hi := 999999999) (f := f) (L := L) (p := p + 1) (by omega)
    rw [if_pos rfl]
    cases e2 : numR 9 0 999999999 f L (p + 1) with
    | inl q =>
      rw [e2] at b
      exact ⟨by have := b.1; omega, b.2⟩
    | inr x =>
      rw [e2] at b
      exact ⟨by have := b.1; omega, b.2⟩
  | false =>
    rw [if_neg (by decide)]
    exact numR_bd h
/-- places go on -/
def xBd (p L : Int) : zEx → Prop
  | .inl q => p ≤ q ∧ q ≤ L
  | .inr x => p < x.2 ∧ x.2 ≤ L
def tBd (p L : Int) : Sum Int ((Int × Int × Int) × Int) → Prop
  | .inl q => p ≤ q ∧ q ≤ L
  | .inr x => p < x.2 ∧ x.2 ≤ L
theorem tstP_bd {f : Int → Int} {L p : Int} (h : p ≤ L) : tBd p L (tstP f L p) := by
  unfold tstP tstC
  have b1 := ltrR_bd (f := f) h
  cases e1 : ltrR f L p with
  | inl q =>
    rw [e1] at b1
    exact b1
  | inr x =>
    rw [e1] at b1
    have k1 := ltrR_ok (v := x.1) (p' := x.2) e1
    have b1 : p ≤ x.2 ∧ x.2 ≤ L := b1
    have b2 := cmpR_bd (f := f) b1.2
    try dsimp only
    cases e2 : cmpR f L x.2 with
    | inl q =>
      rw [e2] at b2
      exact ⟨by have := b2.1; omega, b2.2⟩
    | inr y =>
      rw [e2] at b2
      have b2 : x.2 ≤ y.2 ∧ y.2 ≤ L := b2
      have b3 := tstN_bd (f := f) b2.2
      try dsimp only
      cases e3 : tstN f L y.2 with
      | inl q =>
        rw [e3] at b3
        exact ⟨by have := b3.1; omega, b3.2⟩
      | inr z =>
        rw [e3] at b3
        have b3 : y.2 ≤ z.2 ∧ z.2 ≤ L := b3
        exact ⟨by show p < z.2; omega, b3.2⟩
theorem eP_z {ev : Int → Int → Int} {f : Int → Int} {L : Int} {k : Nat} {d p : Int} {T : Int → Bool} : eP ev f L 0 k d p T = .inl p := rfl
theorem eP_0 {ev : Int → Int → Int} {f : Int → Int} {L : Int} {n : Nat} {d p : Int} {T : Int → Bool} : eP ev f L (n + 1) 0 d p T = exSeq (fun p' T' => eP ev f L n 3 d p' T') (eP ev f L n 1 d p T) := rfl
theorem eP_1 {ev : Int → Int → Int} {f : Int → Int} {L : Int} {n : Nat} {d p : Int} {T : Int → Bool} : eP ev f L (n + 1) 1 d p T = exSeq (fun p' T' => eP ev f L n 4 d p' T') (eP ev f L n 2 d p T) := rfl
theorem eP_3 {ev : Int → Int → Int} {f : Int → Int} {L : Int} {n : Nat} {d p : Int} {T : Int → Bool} : eP ev f L (n + 1) 3 d p T = if p < L ∧ f p = 124 then exSeq (fun p' T' => eP ev f L n 3 d p' (fun r => T r || T' r)) (eP ev f L n 1 d (p + 1) T) else .inr (T, p) := rfl
theorem eP_4 {ev : Int → Int → Int} {f : Int → Int} {L : Int} {n : Nat} {d p : Int} {T : Int → Bool} : eP ev f L (n + 1) 4 d p T = if p < L ∧ f p = 38 then exSeq (fun p' T' => eP ev f L n 4 d p' (fun r => T r && T' r)) (eP ev f L n 2 d (p + 1) T) else .inr (T, p) := rfl
theorem eP_2 {ev : Int → Int → Int} {f : Int → Int} {L : Int} {n : Nat} {d p : Int} {T : Int → Bool} : eP ev f L (n + 1) 2 d p T = if d < 4 ∧ p < L ∧ f p = 33 then exNot (eP ev f L n 2 (d + 1) (p + 1) T) else if d < 4 ∧ p < L ∧ f p = 40 then exPar f L (eP ev f L n 0 (d + 1) (p + 1) T) else exTst ev (tstP f L p) := rfl
/-- from its place on, kind k comes to a place that is further, its loops to one not ahead -/
theorem eP_bd {ev : Int → Int → Int} {f : Int → Int} {L : Int} : ∀ (n k : Nat) (d p : Int) (T : Int → Bool), k ≤ 4 → p ≤ L → (∀ q, eP ev f L n k d p T = .inl q → p ≤ q ∧ q ≤ L) ∧ ∀ x, eP ev f L n k d p T = .inr x → p ≤ x.2 ∧ x.2 ≤ L ∧ (k ≠ 3 → k ≠ 4 → p < x.2)
  | 0, k, d, p, T, _, h => by
    refine ⟨fun q e => ?_, fun x e => ?_⟩
    · rw [eP_z] at e
      cases e
      exact ⟨Int.le_refl p, h⟩
    · rw [eP_z] at e
      cases e
  | n + 1, 0, d, p, T, _, h => by
    obtain ⟨a1, a2⟩ := eP_bd (ev := ev) (f := f) (L := L) n 1 d p T (by decide) h
    rw [eP_0]
    cases e1 : eP ev f L n 1 d p T with
    | inl q => exact ⟨fun q' e => (by cases e; exact a1 _ e1), fun x e => (by cases e)⟩
    | inr x =>
      have b := a2 x e1
      have b3 := b.2.2 (by decide) (by decide)
      obtain ⟨c1, c2⟩ := eP_bd (ev := ev) (f := f) (L := L) n 3 d x.2 x.1 (by decide) b.2.1
      refine ⟨fun q e => ?_, fun y e => ?_⟩
      · have := c1 q e
        omega
      · have := c2 y e
        omega
  | n + 1, 1, d, p, T, _, h => by
    obtain ⟨a1, a2⟩ := eP_bd (ev := ev) (f := f) (L := L) n 2 d p T (by decide) h
    rw [eP_1]
    cases e1 : eP ev f L n 2 d p T with
    | inl q => exact ⟨fun q' e => (by cases e; exact a1 _ e1), fun x e => (by cases e)⟩
    | inr x =>
      have b := a2 x e1
      have b3 := b.2.2 (by decide) (by decide)
      obtain ⟨c1, c2⟩ := eP_bd (ev := ev) (f := f) (L := L) n 4 d x.2 x.1 (by decide) b.2.1
      refine ⟨fun q e => ?_, fun y e => ?_⟩
      · have := c1 q e
        omega
      · have := c2 y e
        omega
  | n + 1, 3, d, p, T, _, h => by
    rw [eP_3]
    by_cases c : p < L ∧ f p = 124
    · rw [if_pos c]
      obtain ⟨a1, a2⟩ := eP_bd (ev := ev) (f := f) (L := L) n 1 d (p + 1) T (by decide) (by omega)
      cases e1 : eP ev f L n 1 d (p + 1) T with
      | inl q => exact ⟨fun q' e => (by cases e; have := a1 _ e1; omega), fun x e => (by cases e)⟩
      | inr x =>
        have b := a2 x e1
        obtain ⟨c1, c2⟩ := eP_bd (ev := ev) (f := f) (L := L) n 3 d x.2 (fun r => T r || x.1 r) (by decide) b.2.1
        refine ⟨fun q e => ?_, fun y e => ?_⟩
        · have := c1 q e
          omega
        · have := c2 y e
          exact ⟨by omega, by omega, fun hk => absurd rfl hk⟩
    · rw [if_neg c]
      exact ⟨fun q e => (by cases e), fun x e => (by cases e; exact ⟨Int.le_refl p, h, fun hk => absurd rfl hk⟩)⟩
  | n + 1, 4, d, p, T, _, h => by
    rw [eP_4]
    by_cases c : p < L ∧ f p = 38
    · rw [if_pos c]
      obtain ⟨a1, a2⟩ := eP_bd (ev := ev) (f := f) (L := L) n 2 d (p + 1) T (by decide) (by omega)
      cases e1 : eP ev f L n 2 d (p + 1) T with
      | inl q => exact ⟨fun q' e => (by cases e; have := a1 _ e1; omega), fun x e => (by cases e)⟩
      | inr x =>
        have b := a2 x e1
        obtain ⟨c1, c2⟩ := eP_bd (ev := ev) (f := f) (L := L) n 4 d x.2 (fun r => T r && x.1 r) (by decide) b.2.1
        refine ⟨fun q e => ?_, fun y e => ?_⟩
        · have := c1 q e
          omega
        · have := c2 y e
          exact ⟨by omega, by omega, fun _ hk => absurd rfl hk⟩
    · rw [if_neg c]
      exact ⟨fun q e => (by cases e), fun x e => (by cases e; exact ⟨Int.le_refl p, h, fun _ hk => absurd rfl hk⟩)⟩
  | n + 1, 2, d, p, T, _, h => by
    rw [eP_2]
    by_cases c : d < 4 ∧ p < L ∧ f p = 33
    · rw [if_pos c]
      obtain ⟨a1, a2⟩ := eP_bd (ev := ev) (f := f) (L := L) n 2 (d + 1) (p + 1) T (by decide) (by omega)
      cases e1 : eP ev f L n 2 (d + 1) (p + 1) T with
      | inl q => exact ⟨fun q' e => (by cases e; have := a1 _ e1; omega), fun x e => (by cases e)⟩
      | inr x =>
        have b := a2 x e1
        exact ⟨fun q e => (by cases e), fun y e => (by cases e; exact ⟨by dsimp only; omega, b.2.1, fun _ _ => by dsimp only; omega⟩)⟩
    · rw [if_neg c]
      by_cases c2 : d < 4 ∧ p < L ∧ f p = 40
      · rw [if_pos c2]
        obtain ⟨a1, a2⟩ := eP_bd (ev := ev) (f := f) (L := L) n 0 (d + 1) (p + 1) T (by decide) (by omega)
        cases e1 : eP ev f L n 0 (d + 1) (p + 1) T with
        | inl q => exact ⟨fun q' e => (by cases e; have := a1 _ e1; omega), fun x e => (by cases e)⟩
        | inr x =>
          have b := a2 x e1
          have s := sgnR_bd (x := 41) (f := f) b.2.1
          unfold exPar
          try dsimp only
          cases e2 : sgnR 41 f L x.2 with
          | inl q =>
            rw [e2] at s
            have s : x.2 ≤ q ∧ q ≤ L := s
            exact ⟨fun q' e => (by cases e; omega), fun x e => (by cases e)⟩
          | inr y =>
            rw [e2] at s
            have s : x.2 ≤ y.2 ∧ y.2 ≤ L := s
            exact ⟨fun q' e => (by cases e), fun x e => (by cases e; exact ⟨by dsimp only; omega, s.2, fun _ _ => by dsimp only; omega⟩)⟩
      · rw [if_neg c2]
        have b := tstP_bd (f := f) h
        cases e1 : tstP f L p with
        | inl q =>
          rw [e1] at b
          exact ⟨fun q' e => (by cases e; exact b), fun x e => (by cases e)⟩
        | inr x =>
          rw [e1] at b
          have b : p < x.2 ∧ x.2 ≤ L := b
          exact ⟨fun q' e => (by cases e), fun y e => (by cases e; exact ⟨by dsimp only; omega, b.2, fun _ _ => b.1⟩)⟩
  | n + 1, k + 5, d, p, T, hk, h => absurd hk (by omega)
end
section
/-! 6m.exprC -/
/-! E OF THE CLASS: the rows for which it holds, as bits -/
def idxF (c : Int → Int) (x : Int) : Nat → Int → Int
  | 0, _ => -1
  | n + 1, i => if c i = x then i else idxF c x n (i + 1)
theorem p_idxL {a : Nat} {len x : Int} {σ : zS} (hl : len = zLI a) (hl2 : len ≤ 100) : ∀ (n d : Nat) (i : Int), 0 ≤ i → i + (d : Int) = len → zP' (g_jStringLatin1_indexOfChar_L7 a n len x i σ) (fun v s => s = σ ∧ v = idxF (zs0 a) x d i)
  | 0, _, _, _, _ => zP'.no
  | n + 1, d, i, h0, hd => by
    unfold g_jStringLatin1_indexOfChar_L7
    refine zP'.ite (fun c => zP'.ret ⟨rfl, ?_⟩) (fun c => ?_)
    · rw [show d = 0 by omega]
      rfl
    · obtain ⟨d, rfl⟩ : ∃ q, d = q + 1 := ⟨d - 1, by omega⟩
      refine zP'.gd (fun _ => ?_)
      try dsimp +instances only
      refine zP'.ite (fun c2 => ?_) (fun c2 => zP'.ret ⟨rfl, ?_⟩)
      · rw [w32_id (x := i + 1) (by omega) (by omega)]
        refine (p_idxL hl hl2 n d (i + 1) (by omega) (by omega)).imp (fun v s p => ⟨p.1, p.2.trans ?_⟩)
        exact (if_neg c2).symm
      · have c2 : zs0 a i = x := Classical.byContradiction (fun h => c2 h)
        exact (if_pos c2).symm
theorem p_idx {a Ln : Nat} (hw : swk a Ln) (h0 : 0 < Ln) {x : Int} {σ : zS} (hx : 0 ≤ x ∧ x ≤ 127) : zP' (g_jString_indexOf_295 a (w16 x) σ) (fun v s => s = σ ∧ v = idxF (zs0 (a + 18)) x Ln 0) := by
  obtain ⟨w1, w2, w3⟩ := hw
  have e16 : w16 x = x := by
    unfold w16
    omega
  have pass : ∀ {y : Option (Int × zS)} {Q : Int → zS → Prop}, zP' y Q → zP' (y.bind fun o => some (o.1, o.2)) Q := fun hy => zP'.bind hy (fun v s p => zP'.ret p)
  unfold g_jString_indexOf_295
  rw [e16]
  refine pass ?_
  unfold g_jString_indexOf_296
  have e : g_jString_isLatin1 a σ = some (1, σ) := by
    unfold g_jString_isLatin1
    rw [if_neg (by decide), if_neg (by decide)]
  rw [e]
  rw [Option.bind_some]
  try dsimp +instances only
  rw [if_neg (by decide), s_length w2]
  rw [Option.bind_some]
  try dsimp +instances only
  refine pass ?_
  unfold g_jStringLatin1_indexOf
  have e2 : g_jStringLatin1_canEncode_310 x σ = some (1, σ) := by
    unfold g_jStringLatin1_canEncode_310
    rw [if_neg (by omega), if_neg (by omega)]
  rw [e2]
  rw [Option.bind_some]
  try dsimp +instances only
  rw [if_pos (by decide)]
  have e3 : g_jMath_max_289 0 0 σ = some (0, σ) := rfl
  rw [e3]
  rw [Option.bind_some]
  try dsimp +instances only
  have e4 : g_jMath_min_291 (zLI (a + 18)) (zLI (a + 18)) σ = some (zLI (a + 18), σ) := by
    unfold g_jMath_min_291
    rw [if_neg (by omega)]
  rw [e4]
  rw [Option.bind_some]
  try dsimp +instances only
  rw [if_pos (by omega)]
  refine pass ?_
  unfold g_jStringLatin1_indexOfChar
  rw [w8_id (by omega) (by omega)]
  exact p_idxL rfl (by omega) zK Ln 0 (by omega) (by omega)
theorem swk6 : swk 6 4 := ⟨by decide +kernel, by decide +kernel, by decide⟩
theorem swk7 : swk 7 3 := ⟨by decide +kernel, by decide +kernel, by decide⟩
theorem idx6 {x : Int} : idxF (zs0 24) x 4 0 = if 119 = x then 0 else if 120 = x then 1 else if 121 = x then 2 else if 114 = x then 3 else -1 := by
  have h0 : zs0 24 0 = 119 := by decide +kernel
  have h1 : zs0 24 (0 + 1) = 120 := by decide +kernel
  have h2 : zs0 24 (0 + 1 + 1) = 121 := by decide +kernel
  have h3 : zs0 24 (0 + 1 + 1 + 1) = 114 := by decide +kernel
  unfold idxF idxF idxF idxF idxF
  rw [h0, h1, h2, h3]
  rfl
theorem idx7 {x : Int} : idxF (zs0 25) x 3 0 = if 60 = x then 0 else if 61 = x then 1 else if 62 = x then 2 else -1 := by
  have h0 : zs0 25 0 = 60 := by decide +kernel
  have h1 : zs0 25 (0 + 1) = 61 := by decide +kernel
  have h2 : zs0 25 (0 + 1 + 1) = 62 := by decide +kernel
  unfold idxF idxF idxF idxF
  rw [h0, h1, h2]
  rfl
theorem tpH_cT {σ : zS} (h : tpL σ) : tpH σ = if σ 120 2 < σ 120 1 then cT σ (σ 120 2) else 0 := by
  unfold tpH
  by_cases c : σ 120 2 < σ 120 1
  · rw [if_pos c, if_pos c]
    exact cT_e h.2.1.1 _ (Int.le_refl _) c
  · rw [if_neg c, if_neg c]
theorem tpH_rg {σ : zS} (h : tpL σ) : 0 ≤ tpH σ ∧ tpH σ ≤ 127 := by
  unfold tpH
  split
  · rename_i c
    have := h.2.2 _ h.2.1.1 c
    omega
  · omega
theorem c_oneOf {a Ln : Nat} (hw : swk a Ln) (h0 : 0 < Ln) {σ : zS} (h : tpL σ) (hs : σ 120 3 = -1) : zP' (g_ta_oneOf a σ) (fun v s => frTa σ s ∧ v = idxF (zs0 (a + 18)) (tpH σ) Ln 0 ∧ (0 ≤ v → s 120 2 = σ 120 2 + 1 ∧ s 120 3 = -1) ∧ (v < 0 → s 120 3 = σ 120 2)) := by
  have h1 := h.1
  have h2 := h.2.1
  unfold g_ta_oneOf
  rw [p_here h.i hs]
  rw [Option.bind_some]
  try dsimp +instances only
  refine zP'.bind (p_idx hw h0 (tpH_rg h)) (fun v s p => ?_)
  obtain ⟨p1, p2⟩ := p
  try dsimp +instances only
  rw [p1]
  refine zP'.ite (fun c => ?_) (fun c => ?_)
  · rw [w32_id (x := σ 120 2 + 1) (by omega) (by omega)]
    exact zP'.ret ⟨frTa.u (Or.inl rfl), p2, fun _ => ⟨zu_e rfl, (zu_i (by decide)).trans hs⟩, fun k => absurd c (by omega)⟩
  · rw [p_blame, if_pos hs]
    rw [Option.bind_some]
    exact zP'.ret ⟨frTa.u (Or.inr rfl), p2, fun k => absurd k c, fun _ => by dsimp only; exact zu_e rfl⟩
theorem c_ltr {σ : zS} (h : tpL σ) (hs : σ 120 3 = -1) : zP' (g_ta_oneOf 6 σ) (cPo σ (ltrR (cT σ) (σ 120 1) (σ 120 2))) := by
  refine (c_oneOf swk6 (by decide) h hs).imp (fun v s p => ?_)
  obtain ⟨p1, p2, p3, p4⟩ := p
  have p2 : v = idxF (zs0 24) (tpH σ) 4 0 := p2
  rw [idx6, tpH_cT h] at p2
  unfold ltrR
  by_cases c : σ 120 2 < σ 120 1
  · rw [if_pos c] at p2 ⊢
    by_cases c1 : cT σ (σ 120 2) = 119
    · rw [if_pos c1.symm] at p2
      rw [if_pos c1]
      exact ⟨p1, p2, p3 (by omega)⟩
    · rw [if_neg (fun e => c1 e.symm)] at p2
      rw [if_neg c1]
      by_cases c2 : cT σ (σ 120 2) = 120
      · rw [if_pos c2.symm] at p2
        rw [if_pos c2]
        exact ⟨p1, p2, p3 (by omega)⟩
      · rw [if_neg (fun e => c2 e.symm)] at p2
        rw [if_neg c2]
        by_cases c3 : cT σ (σ 120 2) = 121
        · rw [if_pos c3.symm] at p2
          rw [if_pos c3]
          exact ⟨p1, p2, p3 (by omega)⟩
        · rw [if_neg (fun e => c3 e.symm)] at p2
          rw [if_neg c3]
          by_cases c4 : cT σ (σ 120 2) = 114
          · rw [if_pos c4.symm] at p2
            rw [if_pos c4]
            exact ⟨p1, p2, p3 (by omega)⟩
          · rw [if_neg (fun e => c4 e.symm)] at p2
            rw [if_neg c4]
            exact ⟨p1, p4 (by omega)⟩
  · rw [if_neg c] at p2 ⊢
    rw [if_neg (by decide), if_neg (by decide), if_neg (by decide), if_neg (by decide)] at p2
    exact ⟨p1, p4 (by omega)⟩
theorem c_cmp {σ : zS} (h : tpL σ) (hs : σ 120 3 = -1) : zP' (g_ta_oneOf 7 σ) (cPo σ (cmpR (cT σ) (σ 120 1) (σ 120 2))) := by
  refine (c_oneOf swk7 (by decide) h hs).imp (fun v s p => ?_)
  obtain ⟨p1, p2, p3, p4⟩ := p
  have p2 : v = idxF (zs0 25) (tpH σ) 3 0 := p2
  rw [idx7, tpH_cT h] at p2
  unfold cmpR
  by_cases c : σ 120 2 < σ 120 1
  · rw [if_pos c] at p2 ⊢
    by_cases c1 : cT σ (σ 120 2) = 60
    · rw [if_pos c1.symm] at p2
      rw [if_pos c1]
      exact ⟨p1, p2, p3 (by omega)⟩
    · rw [if_neg (fun e => c1 e.symm)] at p2
      rw [if_neg c1]
      by_cases c2 : cT σ (σ 120 2) = 61
      · rw [if_pos c2.symm] at p2
        rw [if_pos c2]
        exact ⟨p1, p2, p3 (by omega)⟩
      · rw [if_neg (fun e => c2 e.symm)] at p2
        rw [if_neg c2]
        by_cases c3 : cT σ (σ 120 2) = 62
        · rw [if_pos c3.symm] at p2
          rw [if_pos c3]
          exact ⟨p1, p2, p3 (by omega)⟩
        · rw [if_neg (fun e => c3 e.symm)] at p2
          rw [if_neg c3]
          exact ⟨p1, p4 (by omega)⟩
  · rw [if_neg c] at p2 ⊢
    rw [if_neg (by decide), if_neg (by decide), if_neg (by decide)] at p2
    exact ⟨p1, p4 (by omega)⟩
theorem c_oneOf0 {a Ln : Nat} (hw : swk a Ln) (h0 : 0 < Ln) (hz : idxF (zs0 (a + 18)) 0 Ln 0 < 0) {σ : zS} (hs : σ 120 3 ≠ -1) : zP' (g_ta_oneOf a σ) (fun _ s => s = σ) := by
  unfold g_ta_oneOf
  rw [p_here0 hs]
  rw [Option.bind_some]
  try dsimp +instances only
  refine zP'.bind (p_idx hw h0 (x := 0) (by decide)) (fun v s p => ?_)
  obtain ⟨p1, p2⟩ := p
  try dsimp +instances only
  rw [p1, if_neg (by omega), p_blame0 hs]
  rw [Option.bind_some]
  exact zP'.ret rfl
/-! rows by their letters -/
def cev (σ : zS) (l r : Int) : Int := if l = 0 then σ 44 r else if l = 1 then σ 42 r else if l = 2 then σ 43 r else r
theorem p_read {r l : Int} {σ : zS} (hr : 0 ≤ r ∧ r < 60) : g_so_read r l σ = some (cev σ l r, σ) := by
  unfold g_so_read cev
  rw [if_neg (by omega), if_pos hr.2]
  by_cases c0 : l = 0
  · rw [if_pos c0, if_pos c0, if_pos hr]
  · rw [if_neg c0, if_neg c0]
    by_cases c1 : l = 1
    · rw [if_pos c1, if_pos c1, if_pos hr]
    · rw [if_neg c1, if_neg c1]
      by_cases c2 : l = 2
      · rw [if_pos c2, if_pos c2, if_pos hr]
      · rw [if_neg c2, if_neg c2]
theorem p_cmp {a b : Int} {σ : zS} : g_jLong_compare a b σ = some (if a < b then -1 else if a = b then 0 else 1, σ) := by
  unfold g_jLong_compare
  by_cases c : a < b
  · rw [if_pos c, if_neg (fun h => lCmp_0.mp h c)]
  · rw [if_neg c, if_pos (lCmp_0.mpr c)]
    by_cases c2 : a = b
    · rw [if_pos c2, if_neg (fun h => h (lCmp_eq.mpr c2))]
    · rw [if_neg c2, if_pos (fun h => c2 (lCmp_eq.mp h))]
def rwF (σ : zS) (l c v : Int) (q : Nat) : Nat → Int → Bool
  | 0, _ => false
  | d + 1, i => (decide (σ 45 i = (q : Int)) && cmpB c (cev σ l (q : Int)) v) || rwF σ l c v q d (i + 1)
theorem p_rows6 {l c v : Int} {C : Nat} {σ : zS} (hC : σ 41 4 = (C : Int)) (hc : 0 ≤ c ∧ c ≤ 2) (hv : ∀ j : Nat, (j : Int) < σ 41 4 → 0 ≤ σ 45 (j : Int) ∧ σ 45 (j : Int) < 60) : ∀ (n d : Nat) (y i : Int), 0 ≤ i → i + (d : Int) = (C : Int) → zP' (g_so_rowsWith_L6 n l c v y i σ) (fun w s => s = σ ∧ ∀ q : Nat, q < 60 → bq w q = (bq y q || rwF σ l c v q d i))
  | 0, _, _, _, _, _ => zP'.no
  | n + 1, d, y, i, h0, hd => by
    unfold g_so_rowsWith_L6
    try dsimp +instances only
    rw [hC]
    refine zP'.ite (fun c1 => zP'.ret ⟨rfl, fun q hq => ?_⟩) (fun c1 => ?_)
    · rw [show d = 0 by omega]
      exact (Bool.or_false _).symm
    · obtain ⟨d, rfl⟩ : ∃ q, d = q + 1 := ⟨d - 1, by omega⟩
      refine zP'.gd (fun c2 => ?_)
      have hr := hv i.toNat (by omega)
      rw [show ((i.toNat : Nat) : Int) = i by omega] at hr
      try dsimp +instances only
      rw [p_read hr]
      rw [Option.bind_some]
      try dsimp +instances only
      rw [p_cmp]
      rw [Option.bind_some]
      try dsimp +instances only
      have ei := w32_id (x := i + 1) (by omega) (by omega)
      have key : w32 (1 + if cev σ l (σ 45 i) < v then -1 else if cev σ l (σ 45 i) = v then 0 else 1) = c ↔ cmpB c (cev σ l (σ 45 i)) v = true := by
        unfold cmpB
        by_cases k1 : cev σ l (σ 45 i) < v
        · rw [if_pos k1]
          have e : w32 (1 + -1) = 0 := by decide
          rw [e]
          by_cases k2 : c = 0
          · rw [if_pos k2, decide_eq_true k1]
            exact ⟨fun _ => rfl, fun _ => k2.symm⟩
          · rw [if_neg k2]
            by_cases k3 : c = 1
            · rw [if_pos k3, decide_eq_false (by omega)]
              exact ⟨fun e => absurd e.symm k2, fun e => by cases e⟩
            · rw [if_neg k3, decide_eq_false (by omega)]
              exact ⟨fun e => absurd e.symm k2, fun e => by cases e⟩
        · rw [if_neg k1]
          by_cases k2 : cev σ l (σ 45 i) = v
          · rw [if_pos k2]
            have e : w32 (1 + 0) = 1 := by decide
            rw [e]
            by_cases k3 : c = 0
            · rw [if_pos k3, decide_eq_false k1]
              exact ⟨fun e => by omega, fun e => by cases e⟩
            · rw [if_neg k3]
              by_cases k4 : c = 1
              · rw [if_pos k4, decide_eq_true k2]
                exact ⟨fun _ => rfl, fun _ => k4.symm⟩
              · rw [if_neg k4, decide_eq_false (by omega)]
                exact ⟨fun e => absurd e.symm k4, fun e => by cases e⟩
          · rw [if_neg k2]
            have e : w32 (1 + 1) = 2 := by decide
            rw [e]
            by_cases k3 : c = 0
            · rw [if_pos k3, decide_eq_false k1]
              exact ⟨fun e => by omega, fun e => by cases e⟩
            · rw [if_neg k3]
              by_cases k4 : c = 1
              · rw [if_pos k4, decide_eq_false k2]
                exact ⟨fun e => by omega, fun e => by cases e⟩
              · rw [if_neg k4, decide_eq_true (by omega)]
                exact ⟨fun _ => rfl, fun _ => by omega⟩
      have stepF : ∀ q : Nat, rwF σ l c v q (d + 1) i = ((decide (σ 45 i = (q : Int)) && cmpB c (cev σ l (q : Int)) v) || rwF σ l c v q d (i + 1)) := fun _ => rfl
      refine zP'.ite (fun k => ?_) (fun k => ?_)
      · unfold g_so_rowsWith_L51
        rw [ei]
        refine (p_rows6 hC hc hv n d y (i + 1) (by omega) (by omega)).imp (fun w s p => ⟨p.1, fun q hq => ?_⟩)
        rw [p.2 q hq, stepF]
        by_cases cq : σ 45 i = (q : Int)
        · have : cmpB c (cev σ l (q : Int)) v = false := by
            rw [← cq]
            exact Bool.eq_false_iff.mpr (fun h => k (key.mpr h))
          rw [this, Bool.and_false, Bool.false_or]
        · rw [decide_eq_false cq, Bool.false_and, Bool.false_or]
      · have k := key.mp (Classical.byContradiction (fun h => k h))
        unfold g_so_rowsWith_L51
        rw [ei]
        refine (p_rows6 hC hc hv n d _ (i + 1) (by omega) (by omega)).imp (fun w s p => ⟨p.1, fun q hq => ?_⟩)
        rw [p.2 q hq, stepF, bq_or]
        obtain ⟨r, hr'⟩ : ∃ r : Nat, σ 45 i = (r : Int) := ⟨(σ 45 i).toNat, by omega⟩
        rw [hr'] at k ⊢
        rw [bq_bit (by omega), Bool.or_assoc]
        by_cases cq : q = r
        · subst cq
          rw [k, decide_eq_true rfl, decide_eq_true rfl]
          rfl
        · rw [decide_eq_false cq, decide_eq_false (by omega), Bool.false_and]
theorem rwF_mem {σ : zS} {l c v : Int} {q : Nat} : ∀ (d : Nat) (i : Int), rwF σ l c v q d i = true ↔ cmpB c (cev σ l (q : Int)) v = true ∧ (q : Int) ∈ sg (σ 45) i d
  | 0, i => ⟨fun h => (by cases h), fun h => (by cases h.2)⟩
  | d + 1, i => by
    show ((decide (σ 45 i = (q : Int)) && cmpB c (cev σ l (q : Int)) v) || rwF σ l c v q d (i + 1)) = true ↔ cmpB c (cev σ l (q : Int)) v = true ∧ (q : Int) ∈ σ 45 i :: sg (σ 45) (i + 1) d
    rw [Bool.or_eq_true, Bool.and_eq_true, rwF_mem d (i + 1), decide_eq_true_iff, List.mem_cons]
    constructor
    · rintro (⟨h1, h2⟩ | ⟨h1, h2⟩)
      · exact ⟨h2, Or.inl h1.symm⟩
      · exact ⟨h1, Or.inr h2⟩
    · rintro ⟨h1, h2 | h2⟩
      · exact Or.inl ⟨h2.symm, h1⟩
      · exact Or.inr ⟨h1, h2⟩
theorem p_rows {l c v : Int} {I : Nat → Bool} {σ : zS} (H : CI σ) (S : ST σ 41 I) (hc : 0 ≤ c ∧ c ≤ 2) : zP' (g_so_rowsWith l c v σ) (fun w s => s = σ ∧ ∀ q : Nat, q < 60 → I q = true → bq w q = cmpB c (cev σ l (q : Int)) v) := by
  have h4 := CI.c4 (a := 41) H (by omega)
  unfold g_so_rowsWith
  refine (p_rows6 (C := (σ 41 4).toNat) (by omega) hc (ST_val S) zK (σ 41 4).toNat 0 0 (by omega) (by omega)).imp (fun w s p => ⟨p.1, fun q hq hI => ?_⟩)
  rw [p.2 q hq, bq_0, Bool.false_or]
  have hm : (q : Int) ∈ sg (σ 45) 0 (σ 41 4).toNat := (S.2.2.2 (q : Int)).mpr ⟨q, rfl, hI⟩
  cases e : cmpB c (cev σ l (q : Int)) v with
  | true => exact (rwF_mem _ _).mpr ⟨e, hm⟩
  | false => exact Bool.eq_false_iff.mpr (fun h => by
      have := ((rwF_mem _ _).mp h).1
      rw [e] at this
      cases this)
theorem p_rows0 {l c v : Int} {σ : zS} : zP' (g_so_rowsWith l c v σ) (fun _ s => s = σ) := by
  have lp : ∀ (n : Nat) (y i : Int), zP' (g_so_rowsWith_L6 n l c v y i σ) (fun _ s => s = σ) := by
    intro n
    induction n with
    | zero => exact fun _ _ => zP'.no
    | succ n ih =>
      intro y i
      unfold g_so_rowsWith_L6 g_so_rowsWith_L51
      refine zP'.ite (fun _ => zP'.ret rfl) (fun _ => zP'.gd (fun _ => ?_))
      try dsimp +instances only
      refine zP'.bind (P := fun _ s => s = σ) ?_ (fun a s p => ?_)
      · unfold g_so_read
        refine zP'.ite (fun _ => zP'.ret rfl) (fun _ => zP'.ite (fun _ => ?_) (fun _ => zP'.ret rfl))
        exact zP'.ite (fun _ => zP'.gd (fun _ => zP'.ret rfl)) (fun _ => zP'.ite (fun _ => zP'.gd (fun _ => zP'.ret rfl)) (fun _ => zP'.ite (fun _ => zP'.gd (fun _ => zP'.ret rfl)) (fun _ => zP'.ret rfl)))
      · try dsimp +instances only
        rw [p, p_cmp]
        rw [Option.bind_some]
        try dsimp +instances only
        exact zP'.ite (fun _ => ih _ _) (fun _ => ih _ _)
  exact lp zK 0 0
end
section
/-! 6n.exprD -/
/-! E OF THE CLASS, read through -/
def btE (I : Nat → Bool) (v : Int) (T : Int → Bool) : Prop := ∀ q : Nat, q < 60 → I q = true → bq v q = T (q : Int)
def exPo (I : Nat → Bool) (σ : zS) (r : zEx) (v : Int) (s : zS) : Prop := frTa σ s ∧ match r with
  | .inl q => s 120 3 = q
  | .inr x => s 120 2 = x.2 ∧ s 120 3 = -1 ∧ btE I v x.1
def exOk (I : Nat → Bool) (ev : Int → Int → Int) (σ : zS) : Prop := CI σ ∧ ST σ 41 I ∧ ∀ q : Nat, q < 60 → I q = true → ∀ l : Int, 0 ≤ l → l ≤ 3 → cev σ l (q : Int) = ev l (q : Int)
theorem CI_Ta {σ s : zS} (H : CI σ) (e : frTa σ s) (h : 0 ≤ s 120 2 ∧ s 120 2 ≤ 160) : CI s := by
  refine ⟨fun a j => ?_, ?_⟩
  · by_cases c : a = 120 ∧ (j = 2 ∨ j = 3)
    · obtain ⟨rfl, rfl | rfl⟩ := c
      · intro lo hi k
        have k2 : rng 120 2 = some (0, 160) := rfl
        rw [k2] at k
        cases k
        exact h
      · intro lo hi k
        have k2 : rng 120 3 = none := rfl
        rw [k2] at k
        cases k
    · rw [e a j (by omega)]
      exact H.1 a j
  · unfold PG
    rw [e 129 1 (Or.inl (by decide)), e 129 3 (Or.inl (by decide)), e 169 0 (Or.inl (by decide))]
    exact H.2
theorem exOk.f {I : Nat → Bool} {ev : Int → Int → Int} {σ s : zS} (h : exOk I ev σ) (e : frTa σ s) (t : tpL s) : exOk I ev s := by
  refine ⟨CI_Ta h.1 e ⟨t.2.1.1, Int.le_trans t.2.1.2 t.1.2⟩, ST_E h.2.1 (fun a j k => e a j (Or.inl (by unfold stK at k; omega))), fun q hq hI l l0 l3 => ?_⟩
  rw [← h.2.2 q hq hI l l0 l3]
  unfold cev
  rw [e 44 _ (Or.inl (by decide)), e 42 _ (Or.inl (by decide)), e 43 _ (Or.inl (by decide))]
/-! behind a fault -/
theorem c_129 {rec : Nat → Int → zS → Option (Int × zS)} {v c l : Int} {σ : zS} : zP' (g_qu_single_L129 rec v c l σ) (fun _ s => s = σ) := by
  unfold g_qu_single_L129
  exact zP'.bind p_rows0 (fun a s p => zP'.ret p)
theorem c_tst0c {rec : Nat → Int → zS → Option (Int × zS)} {l c : Int} {σ : zS} (hs : σ 120 3 ≠ -1) : zP' ((g_ta_takes 45 σ).bind fun o_91 => (g_ta_number 9 0 999999999 o_91.2).bind fun o_105 => if o_91.1 = 0 then g_qu_single_L129 rec o_105.1 c l o_105.2 else g_qu_single_L129 rec (w32 (-o_105.1)) c l o_105.2) (fun _ s => s = σ) := by
  rw [p_takes0 hs (by decide)]
  rw [Option.bind_some]
  try dsimp +instances only
  refine zP'.bind (p_number0 hs (by decide)) (fun v s p => ?_)
  try dsimp +instances only
  rw [p]
  exact zP'.ite (fun _ => c_129) (fun _ => c_129)
theorem c_tst0b {rec : Nat → Int → zS → Option (Int × zS)} {l : Int} {σ : zS} (hs : σ 120 3 ≠ -1) : zP' ((g_ta_oneOf 7 σ).bind fun o_81 => (g_ta_takes 45 o_81.2).bind fun o_91 => (g_ta_number 9 0 999999999 o_91.2).bind fun o_105 => if o_91.1 = 0 then g_qu_single_L129 rec o_105.1 o_81.1 l o_105.2 else g_qu_single_L129 rec (w32 (-o_105.1)) o_81.1 l o_105.2) (fun _ s => s = σ) := by
  refine zP'.bind (c_oneOf0 swk7 (by decide) (by rw [idx7]; decide) hs) (fun v s p => ?_)
  try dsimp +instances only
  rw [p]
  exact c_tst0c hs
theorem c_tst0 {rec : Nat → Int → zS → Option (Int × zS)} {σ : zS} (hs : σ 120 3 ≠ -1) : zP' (g_qu_single_L65 rec σ) (fun _ s => s = σ) := by
  unfold g_qu_single_L65
  refine zP'.bind (c_oneOf0 swk6 (by decide) (by rw [idx6]; decide) hs) (fun v s p => ?_)
  try dsimp +instances only
  rw [p]
  exact c_tst0b hs
theorem c_eloop0 {rec : Nat → Int → zS → Option (Int × zS)} {d y i : Int} {σ : zS} (hs : σ 120 3 ≠ -1) : ∀ n, zP' (g_qu_either_L9 rec n d y i σ) (fun _ s => s = σ)
  | 0 => zP'.no
  | n + 1 => by
    unfold g_qu_either_L9
    refine zP'.ite (fun _ => zP'.ret rfl) (fun _ => ?_)
    rw [p_takes0 hs (by decide)]
    rw [Option.bind_some]
    try dsimp +instances only
    rw [if_pos rfl]
    exact zP'.ret rfl
theorem c_bloop0 {rec : Nat → Int → zS → Option (Int × zS)} {d y i : Int} {σ : zS} (hs : σ 120 3 ≠ -1) : ∀ n, zP' (g_qu_both_L9 rec n d y i σ) (fun _ s => s = σ)
  | 0 => zP'.no
  | n + 1 => by
    unfold g_qu_both_L9
    refine zP'.ite (fun _ => zP'.ret rfl) (fun _ => ?_)
    rw [p_takes0 hs (by decide)]
    rw [Option.bind_some]
    try dsimp +instances only
    rw [if_pos rfl]
    exact zP'.ret rfl
theorem c_ex0 {σ : zS} (hs : σ 120 3 ≠ -1) : ∀ (n : Nat), (∀ d, zP' (g_grp68 n 68 d σ) (fun _ s => s = σ)) ∧ (∀ d, zP' (g_grp68 n 69 d σ) (fun _ s => s = σ)) ∧ ∀ d, zP' (g_grp68 n 70 d σ) (fun _ s => s = σ)
  | 0 => ⟨fun _ => zP'.no, fun _ => zP'.no, fun _ => zP'.no⟩
  | n + 1 => by
    obtain ⟨i1, i2, i3⟩ := c_ex0 hs n
    rw [grp68_68, grp68_69, grp68_70]
    refine ⟨fun d => ?_, fun d => ?_, fun d => ?_⟩
    · unfold g_qu_either
      refine zP'.bind (i2 d) (fun v s p => ?_)
      try dsimp +instances only
      rw [p]
      exact c_eloop0 hs _
    · unfold g_qu_both
      refine zP'.bind (i3 d) (fun v s p => ?_)
      try dsimp +instances only
      rw [p]
      exact c_bloop0 hs _
    · have l29 : zP' (g_qu_single_L29 (g_grp68 n) d σ) (fun _ s => s = σ) := by
        unfold g_qu_single_L29
        refine zP'.ite (fun _ => c_tst0 hs) (fun _ => ?_)
        rw [p_takes0 hs (by decide)]
        rw [Option.bind_some]
        try dsimp +instances only
        rw [if_pos rfl]
        exact c_tst0 hs
      unfold g_qu_single
      refine zP'.ite (fun _ => l29) (fun _ => ?_)
      rw [p_takes0 hs (by decide)]
      rw [Option.bind_some]
      try dsimp +instances only
      rw [if_pos rfl]
      exact l29
/-! a test -/
theorem c_tst {rec : Nat → Int → zS → Option (Int × zS)} {I : Nat → Bool} {ev : Int → Int → Int} {σ : zS} (h : tpL σ) (hs : σ 120 3 = -1) (O : exOk I ev σ) : zP' (g_qu_single_L65 rec σ) (exPo I σ (exTst ev (tstP (cT σ) (σ 120 1) (σ 120 2)))) := by
  have h2 := h.2.1
  unfold g_qu_single_L65 tstP tstC
  refine zP'.bind (c_ltr h hs) (fun l s1 p1 => ?_)
  try dsimp +instances only
  have b1 := ltrR_bd (f := cT σ) h2.2
  cases e1 : ltrR (cT σ) (σ 120 1) (σ 120 2) with
  | inl q =>
    obtain ⟨f1, f3⟩ := p1.no e1
    rw [e1] at b1
    have b1 : σ 120 2 ≤ q ∧ q ≤ σ 120 1 := b1
    exact (c_tst0b (by rw [f3]; omega)).imp (fun v s k => by
      rw [k]
      exact ⟨f1, f3⟩)
  | inr x =>
    obtain ⟨f1, fv, fp, f3⟩ := p1.ok e1
    have k1 := ltrR_ok (v := x.1) (p' := x.2) e1
    have t1 : tpL s1 := h.mv f1 (by omega)
    have L1 : s1 120 1 = σ 120 1 := f1 120 1 (Or.inr (by decide))
    subst fv
    try dsimp only
    refine zP'.bind (c_cmp t1 f3) (fun c s2 p2 => ?_)
    try dsimp +instances only
    rw [cT_f f1, L1, fp] at p2
    have b2 := cmpR_bd (f := cT σ) (L := σ 120 1) (p := x.2) (by omega)
    cases e2 : cmpR (cT σ) (σ 120 1) x.2 with
    | inl q =>
      obtain ⟨g1, g3⟩ := p2.no e2
      rw [e2] at b2
      have b2 : x.2 ≤ q ∧ q ≤ σ 120 1 := b2
      exact (c_tst0c (by rw [g3]; omega)).imp (fun v s k => by
        rw [k]
        exact ⟨f1.trans g1, g3⟩)
    | inr y =>
      obtain ⟨g1, gv, gp, g3⟩ := p2.ok e2
      have k2 := cmpR_ok (v := y.1) (p' := y.2) e2
      have g12 := f1.trans g1
      have t2 : tpL s2 := h.mv g12 (by omega)
      have L2 : s2 120 1 = σ 120 1 := g12 120 1 (Or.inr (by decide))
      subst gv
      try dsimp only
      -- a sign ahead, if one likes
      have fin : ∀ (s3 : zS) (sg : Int), frTa σ s3 → tpL s3 → s3 120 3 = -1 → s3 120 2 = (if negB (cT σ) (σ 120 1) y.2 = true then y.2 + 1 else y.2) → (sg = 0 ↔ negB (cT σ) (σ 120 1) y.2 = false) → zP' ((g_ta_number 9 0 999999999 s3).bind fun o_105 => if sg = 0 then g_qu_single_L129 rec o_105.1 y.1 x.1 o_105.2 else g_qu_single_L129 rec (w32 (-o_105.1)) y.1 x.1 o_105.2) (exPo I σ (exTst ev (tstV x.1 y.1 (negB (cT σ) (σ 120 1) y.2) (tstN (cT σ) (σ 120 1) y.2)))) := fun s3 sg i1 t3 i3 ip is => by
        have N := c_num (w := 9) (lo := 0) (hi := 999999999) t3 i3 (by decide)
        have L3 : s3 120 1 = σ 120 1 := i1 120 1 (Or.inr (by decide))
        rw [cT_f i1, L3, ip] at N
        have N : zP' (g_ta_number 9 0 999999999 s3) (cPo s3 (tstN (cT σ) (σ 120 1) y.2)) := N
        refine zP'.bind N (fun v s4 p4 => ?_)
        try dsimp +instances only
        have b3 := tstN_bd (f := cT σ) (L := σ 120 1) (p := y.2) (by omega)
        cases e3 : tstN (cT σ) (σ 120 1) y.2 with
        | inl q =>
          obtain ⟨j1, j3⟩ := p4.no e3
          have r : ∀ w, zP' (g_qu_single_L129 rec w y.1 x.1 s4) (exPo I σ (.inl q)) := fun w => c_129.imp (fun v s k => by
            rw [k]
            exact ⟨i1.trans j1, j3⟩)
          exact zP'.ite (fun _ => r _) (fun _ => r _)
        | inr z =>
          obtain ⟨j1, jv, jp, j3⟩ := p4.ok e3
          rw [e3] at b3
          have b3 : y.2 ≤ z.2 ∧ z.2 ≤ σ 120 1 := b3
          have k3 : 0 ≤ z.1 ∧ z.1 ≤ 999999999 := by
            have k := numR_ok (v := z.1) (p' := z.2) (show numR 9 0 999999999 (cT σ) (σ 120 1) _ = _ from e3)
            exact ⟨k.1, k.2.1⟩
          subst jv
          have i14 := i1.trans j1
          have t4 : tpL s4 := h.mv i14 (by omega)
          have O4 := O.f i14 t4
          have r : ∀ w, w = (if negB (cT σ) (σ 120 1) y.2 = true then -z.1 else z.1) → zP' (g_qu_single_L129 rec w y.1 x.1 s4) (exPo I σ (.inr (fun r => cmpB y.1 (ev x.1 r) (if negB (cT σ) (σ 120 1) y.2 = true then -z.1 else z.1), z.2))) := fun w hw => by
            unfold g_qu_single_L129
            refine zP'.bind (p_rows (l := x.1) (c := y.1) (v := w) O4.1 O4.2.1 (by omega)) (fun v5 s5 p5 => zP'.ret ?_)
            obtain ⟨q1, q2⟩ := p5
            try dsimp only
            rw [q1]
            refine ⟨i14, jp, j3, fun q hq hI => ?_⟩
            rw [q2 q hq hI, O4.2.2 q hq hI x.1 (by omega) (by omega), hw]
          refine zP'.ite (fun c => ?_) (fun c => ?_)
          · have hn := is.mp c
            exact r _ (by rw [hn]; rfl)
          · have hn : negB (cT σ) (σ 120 1) y.2 = true := by
              cases hb : negB (cT σ) (σ 120 1) y.2 with
              | true => rfl
              | false => exact absurd (is.mpr hb) c
            exact r _ (by rw [hn, if_pos rfl, w32_id (x := -z.1) (by omega) (by omega)])
      rw [p_takes t2.i g3 (by decide)]
      rw [Option.bind_some]
      try dsimp +instances only
      have eH : tpH s2 = 45 ↔ negB (cT σ) (σ 120 1) y.2 = true := by
        rw [tpH_cT t2, cT_f g12, L2, gp]
        unfold negB
        rw [decide_eq_true_iff]
        by_cases c : y.2 < σ 120 1
        · rw [if_pos c]
          exact ⟨fun e => ⟨c, e⟩, fun e => e.2⟩
        · rw [if_neg c]
          exact ⟨fun e => by omega, fun e => absurd e.1 c⟩
      by_cases c45 : tpH s2 = 45
      · have hn := eH.mp c45
        rw [if_pos c45, if_pos c45]
        have hp := (negB_t hn).1
        have e2 : zu s2 120 2 (s2 120 2 + 1) 120 2 = y.2 + 1 := by rw [zu_e rfl, gp]
        refine fin _ 1 (g12.trans (frTa.u (Or.inl rfl))) (t2.mv (frTa.u (Or.inl rfl)) (by rw [e2, L2]; omega)) ((zu_i (by decide)).trans g3) (by rw [hn, if_pos rfl]; exact e2) ⟨fun e => absurd e (by decide), fun e => by rw [hn] at e; cases e⟩
      · have hn : negB (cT σ) (σ 120 1) y.2 = false := Bool.eq_false_iff.mpr (fun e => c45 (eH.mpr e))
        rw [if_neg c45, if_neg c45]
        exact fin s2 0 g12 t2 g3 (by rw [hn]; exact gp) ⟨fun _ => hn, fun _ => rfl⟩
/-! the whole of E -/
theorem c_seq {I : Nat → Bool} {σ : zS} {x : Option (Int × zS)} {g : Int × zS → Option (Int × zS)} {r : zEx} {k : Int → (Int → Bool) → zEx} (h : tpL σ) (hx : zP' x (exPo I σ r)) (b0 : ∀ q, r = .inl q → σ 120 2 ≤ q) (b1 : ∀ y, r = .inr y → σ 120 2 ≤ y.2 ∧ y.2 ≤ σ 120 1) (h0 : ∀ v s, s 120 3 ≠ -1 → zP' (g (v, s)) (fun _ t => t = s)) (hk : ∀ v s y, r = .inr y → frTa σ s → tpL s → s 120 3 = -1 → s 120 2 = y.2 → btE I v y.1 → zP' (g (v, s)) (exPo I s (k y.2 y.1))) : zP' (x.bind g) (exPo I σ (exSeq k r)) := by
  refine zP'.bind hx (fun v s p => ?_)
  obtain ⟨f, p⟩ := p
  cases e : r with
  | inl q =>
    rw [e] at p
    have p : s 120 3 = q := p
    have := b0 q e
    have h2 := h.2.1
    exact (h0 v s (by omega)).imp (fun v t kk => by
      rw [kk]
      exact ⟨f, p⟩)
  | inr y =>
    rw [e] at p
    obtain ⟨p1, p2, p3⟩ := p
    have b := b1 y e
    have h2 := h.2.1
    refine (hk v s y e f (h.mv f (by omega)) p2 p1 p3).imp (fun v t kk => ?_)
    obtain ⟨f2, kk⟩ := kk
    exact ⟨f.trans f2, kk⟩
def c_all (I : Nat → Bool) (ev : Int → Int → Int) (m : Nat) : Prop :=
  (∀ (n : Nat) (d : Int) (T : Int → Bool) (σ : zS), tpL σ → σ 120 3 = -1 → exOk I ev σ → 0 ≤ d → d ≤ 4 → 4 * (σ 120 1 - σ 120 2) + 3 ≤ (m : Int) → zP' (g_grp68 n 68 d σ) (exPo I σ (eP ev (cT σ) (σ 120 1) m 0 d (σ 120 2) T))) ∧
  (∀ (n : Nat) (d : Int) (T : Int → Bool) (σ : zS), tpL σ → σ 120 3 = -1 → exOk I ev σ → 0 ≤ d → d ≤ 4 → 4 * (σ 120 1 - σ 120 2) + 2 ≤ (m : Int) → zP' (g_grp68 n 69 d σ) (exPo I σ (eP ev (cT σ) (σ 120 1) m 1 d (σ 120 2) T))) ∧
  (∀ (n : Nat) (d : Int) (T : Int → Bool) (σ : zS), tpL σ → σ 120 3 = -1 → exOk I ev σ → 0 ≤ d → d ≤ 4 → 4 * (σ 120 1 - σ 120 2) + 1 ≤ (m : Int) → zP' (g_grp68 n 70 d σ) (exPo I σ (eP ev (cT σ) (σ 120 1) m 2 d (σ 120 2) T))) ∧
  (∀ (n w : Nat) (d y i : Int) (T : Int → Bool) (σ : zS), tpL σ → σ 120 3 = -1 → exOk I ev σ → 0 ≤ d → d ≤ 4 → 0 ≤ i → i ≤ σ 120 2 → btE I y T → 4 * (σ 120 1 - σ 120 2) + 1 ≤ (m : Int) → zP' (g_qu_either_L9 (g_grp68 n) w d y i σ) (exPo I σ (eP ev (cT σ) (σ 120 1) m 3 d (σ 120 2) T))) ∧
  (∀ (n w : Nat) (d y i : Int) (T : Int → Bool) (σ : zS), tpL σ → σ 120 3 = -1 → exOk I ev σ → 0 ≤ d → d ≤ 4 → 0 ≤ i → i ≤ σ 120 2 → btE I y T → 4 * (σ 120 1 - σ 120 2) + 1 ≤ (m : Int) → zP' (g_qu_both_L9 (g_grp68 n) w d y i σ) (exPo I σ (eP ev (cT σ) (σ 120 1) m 4 d (σ 120 2) T)))
theorem tpH_is {σ : zS} (h : tpL σ) {x : Int} (hx : 1 ≤ x) : tpH σ = x ↔ σ 120 2 < σ 120 1 ∧ cT σ (σ 120 2) = x := by
  rw [tpH_cT h]
  by_cases c : σ 120 2 < σ 120 1
  · rw [if_pos c]
    exact ⟨fun e => ⟨c, e⟩, fun e => e.2⟩
  · rw [if_neg c]
    exact ⟨fun e => by omega, fun e => absurd e.1 c⟩
theorem tk_st {σ : zS} (h : tpL σ) (hs : σ 120 3 = -1) (hp : σ 120 2 < σ 120 1) : frTa σ (zu σ 120 2 (σ 120 2 + 1)) ∧ tpL (zu σ 120 2 (σ 120 2 + 1)) ∧ zu σ 120 2 (σ 120 2 + 1) 120 3 = -1 ∧ zu σ 120 2 (σ 120 2 + 1) 120 2 = σ 120 2 + 1 ∧ cT (zu σ 120 2 (σ 120 2 + 1)) = cT σ ∧ zu σ 120 2 (σ 120 2 + 1) 120 1 = σ 120 1 := by
  have f : frTa σ (zu σ 120 2 (σ 120 2 + 1)) := frTa.u (Or.inl rfl)
  have e2 : zu σ 120 2 (σ 120 2 + 1) 120 2 = σ 120 2 + 1 := zu_e rfl
  have h2 := h.2.1
  exact ⟨f, h.mv f (by rw [e2]; omega), (zu_i (by decide)).trans hs, e2, cT_f f, f 120 1 (Or.inr (by decide))⟩
theorem exPo.tr {I : Nat → Bool} {σ s : zS} {r : zEx} {v : Int} {t : zS} (f : frTa σ s) (h : exPo I s r v t) : exPo I σ r v t := by
  obtain ⟨h1, h2⟩ := h
  exact ⟨f.trans h1, h2⟩
theorem c_expr {I : Nat → Bool} {ev : Int → Int → Int} : ∀ m : Nat, c_all I ev m
  | 0 => ⟨fun n d T σ h hs _ _ _ hm => by have := h.2.1; omega, fun n d T σ h hs _ _ _ hm => by have := h.2.1; omega, fun n d T σ h hs _ _ _ hm => by have := h.2.1; omega, fun n w d y i T σ h hs _ _ _ _ _ _ hm => by have := h.2.1; omega, fun n w d y i T σ h hs _ _ _ _ _ _ hm => by have := h.2.1; omega⟩
  | m + 1 => by
    obtain ⟨A0, A1, A2, A3, A4⟩ := c_expr (I := I) (ev := ev) m
    have bd : ∀ (k : Nat) (d p : Int) (T : Int → Bool) (f : Int → Int) (L : Int), k ≤ 4 → p ≤ L → (∀ q, eP ev f L m k d p T = .inl q → p ≤ q) ∧ ∀ x, eP ev f L m k d p T = .inr x → p ≤ x.2 ∧ x.2 ≤ L := fun k d p T f L hk h => by
      obtain ⟨b1, b2⟩ := eP_bd (ev := ev) (f := f) m k d p T hk h
      exact ⟨fun q e => (b1 q e).1, fun x e => ⟨(b2 x e).1, (b2 x e).2.1⟩⟩
    have st : ∀ (k : Nat) (d p : Int) (T : Int → Bool) (f : Int → Int) (L : Int), k ≤ 2 → p ≤ L → ∀ x, eP ev f L m k d p T = .inr x → p < x.2 := fun k d p T f L hk h x e => ((eP_bd (ev := ev) (f := f) m k d p T (by omega) h).2 x e).2.2 (by omega) (by omega)
    refine ⟨fun n d T σ h hs O d0 d4 hm => ?_, fun n d T σ h hs O d0 d4 hm => ?_, fun n d T σ h hs O d0 d4 hm => ?_, fun n w d y i T σ h hs O d0 d4 i0 i1 hy hm => ?_, fun n w d y i T σ h hs O d0 d4 i0 i1 hy hm => ?_⟩
    · cases n with
      | zero => exact zP'.no
      | succ n =>
        have h2 := h.2.1
        rw [grp68_68, eP_0]
        unfold g_qu_either
        obtain ⟨c1, c2⟩ := bd 1 d (σ 120 2) T (cT σ) (σ 120 1) (by decide) h2.2
        refine c_seq h (A1 n d T σ h hs O d0 d4 (by omega)) c1 c2 (fun v s k => c_eloop0 k _) (fun v s y e f t k2 kp hy => ?_)
        have hl := st 1 d _ T _ _ (by decide) h2.2 y e
        have L1 : s 120 1 = σ 120 1 := f 120 1 (Or.inr (by decide))
        have R := A3 n zK d v 0 y.1 s t k2 (O.f f t) d0 d4 (by omega) (by omega) hy (by rw [L1, kp]; omega)
        rw [cT_f f, L1, kp] at R
        exact R
    · cases n with
      | zero => exact zP'.no
      | succ n =>
        have h2 := h.2.1
        rw [grp68_69, eP_1]
        unfold g_qu_both
        obtain ⟨c1, c2⟩ := bd 2 d (σ 120 2) T (cT σ) (σ 120 1) (by decide) h2.2
        refine c_seq h (A2 n d T σ h hs O d0 d4 (by omega)) c1 c2 (fun v s k => c_bloop0 k _) (fun v s y e f t k2 kp hy => ?_)
        have hl := st 2 d _ T _ _ (by decide) h2.2 y e
        have L1 : s 120 1 = σ 120 1 := f 120 1 (Or.inr (by decide))
        have R := A4 n zK d v 0 y.1 s t k2 (O.f f t) d0 d4 (by omega) (by omega) hy (by rw [L1, kp]; omega)
        rw [cT_f f, L1, kp] at R
        exact R
    · cases n with
      | zero => exact zP'.no
      | succ n =>
        have h2 := h.2.1
        rw [grp68_70, eP_2]
        have l65 : zP' (g_qu_single_L65 (g_grp68 n) σ) (exPo I σ (exTst ev (tstP (cT σ) (σ 120 1) (σ 120 2)))) := c_tst h hs O
        unfold g_qu_single
        refine zP'.ite (fun c => ?_) (fun c => ?_)
        · rw [if_neg (by omega), if_neg (by omega)]
          unfold g_qu_single_L29
          rw [if_pos c]
          exact l65
        · rw [p_takes h.i hs (by decide)]
          rw [Option.bind_some]
          try dsimp +instances only
          by_cases c33 : tpH σ = 33
          · have k := (tpH_is h (by decide)).mp c33
            rw [if_pos c33, if_pos c33, if_neg (by decide), if_pos ⟨by omega, k⟩, w32_id (x := d + 1) (by omega) (by omega)]
            obtain ⟨f, t, s3, s2, sT, sL⟩ := tk_st h hs k.1
            have R := A2 n (d + 1) T _ t s3 (O.f f t) (by omega) (by omega) (by rw [sL, s2]; omega)
            rw [sT, sL, s2] at R
            refine zP'.bind R (fun v s p => zP'.ret ?_)
            obtain ⟨p1, p2⟩ := p
            try dsimp only
            cases e : eP ev (cT σ) (σ 120 1) m 2 (d + 1) (σ 120 2 + 1) T with
            | inl q =>
              rw [e] at p2
              exact ⟨f.trans p1, p2⟩
            | inr x =>
              rw [e] at p2
              obtain ⟨n1, n2, n3⟩ := p2
              refine ⟨f.trans p1, n1, n2, fun q hq hI => ?_⟩
              rw [bq_not _ (by omega), n3 q hq hI]
          · have nk : ¬ (d < 4 ∧ σ 120 2 < σ 120 1 ∧ cT σ (σ 120 2) = 33) := fun e => c33 ((tpH_is h (by decide)).mpr e.2)
            rw [if_neg c33, if_neg c33, if_pos rfl, if_neg nk]
            unfold g_qu_single_L29
            rw [if_neg c, p_takes h.i hs (by decide)]
            rw [Option.bind_some]
            try dsimp +instances only
            by_cases c40 : tpH σ = 40
            · have k := (tpH_is h (by decide)).mp c40
              rw [if_pos c40, if_pos c40, if_neg (by decide), if_pos ⟨by omega, k⟩, w32_id (x := d + 1) (by omega) (by omega)]
              obtain ⟨f, t, s3, s2, sT, sL⟩ := tk_st h hs k.1
              have R := A0 n (d + 1) T _ t s3 (O.f f t) (by omega) (by omega) (by rw [sL, s2]; omega)
              rw [sT, sL, s2] at R
              obtain ⟨c1, c2⟩ := bd 0 (d + 1) (σ 120 2 + 1) T (cT σ) (σ 120 1) (by decide) (by omega)
              refine zP'.bind R (fun v s p => ?_)
              obtain ⟨p1, p2⟩ := p
              try dsimp +instances only
              cases e : eP ev (cT σ) (σ 120 1) m 0 (d + 1) (σ 120 2 + 1) T with
              | inl q =>
                rw [e] at p2
                have p2 : s 120 3 = q := p2
                have := c1 q e
                rw [p_wants0 (by omega) (by decide)]
                rw [Option.bind_some]
                exact zP'.ret ⟨f.trans p1, p2⟩
              | inr x =>
                rw [e] at p2
                obtain ⟨n1, n2, n3⟩ := p2
                have b := c2 x e
                have fs := f.trans p1
                have ts : tpL s := h.mv fs (by omega)
                have L1 : s 120 1 = σ 120 1 := fs 120 1 (Or.inr (by decide))
                have W := c_sgn' (x := 41) ts n2 (by decide)
                rw [cT_f fs, L1, n1] at W
                refine zP'.bind W (fun u s4 p4 => zP'.ret ?_)
                unfold exPar
                try dsimp only
                cases e4 : sgnR 41 (cT σ) (σ 120 1) x.2 with
                | inl q =>
                  obtain ⟨g1, g3⟩ := p4.no e4
                  exact ⟨fs.trans g1, g3⟩
                | inr z =>
                  obtain ⟨g1, -, gp, g3⟩ := p4.ok e4
                  exact ⟨fs.trans g1, gp, g3, n3⟩
            · have nk2 : ¬ (d < 4 ∧ σ 120 2 < σ 120 1 ∧ cT σ (σ 120 2) = 40) := fun e => c40 ((tpH_is h (by decide)).mpr e.2)
              rw [if_neg c40, if_neg c40, if_pos rfl, if_neg nk2]
              exact l65
    · cases w with
      | zero => exact zP'.no
      | succ w =>
        have h1 := h.1
        have h2 := h.2.1
        rw [eP_3]
        unfold g_qu_either_L9
        refine zP'.ite (fun c => ?_) (fun c => ?_)
        · rw [if_neg (fun e => by omega)]
          exact zP'.ret ⟨frTa.refl σ, rfl, hs, hy⟩
        · rw [p_takes h.i hs (by decide)]
          rw [Option.bind_some]
          try dsimp +instances only
          by_cases c124 : tpH σ = 124
          · have k := (tpH_is h (by decide)).mp c124
            rw [if_pos c124, if_pos c124, if_neg (by decide), if_pos k]
            obtain ⟨f, t, s3, s2, sT, sL⟩ := tk_st h hs k.1
            have R := A1 n d T _ t s3 (O.f f t) d0 d4 (by rw [sL, s2]; omega)
            rw [sT, sL, s2] at R
            obtain ⟨c1, c2⟩ := bd 1 d (σ 120 2 + 1) T (cT σ) (σ 120 1) (by decide) (by omega)
            refine (c_seq t R (fun q e => by rw [s2]; exact c1 q e) (fun y e => by rw [s2, sL]; exact c2 y e) (fun v s kk => c_eloop0 kk _) (fun v s x e g tg k2 kp hx => ?_)).imp (fun v s p => p.tr f)
            have fg := f.trans g
            have L1 : s 120 1 = σ 120 1 := fg 120 1 (Or.inr (by decide))
            have b := c2 x e
            have R2 := A3 n w d (lOr y v) (i + 1) (fun r => T r || x.1 r) s tg k2 (O.f fg tg) d0 d4 (by omega) (by omega) (fun q hq hI => by rw [bq_or, hy q hq hI, hx q hq hI]) (by rw [L1, kp]; omega)
            rw [cT_f fg, L1, kp] at R2
            try dsimp +instances only
            rw [w32_id (x := i + 1) (by omega) (by omega)]
            exact R2
          · have nk : ¬ (σ 120 2 < σ 120 1 ∧ cT σ (σ 120 2) = 124) := fun e => c124 ((tpH_is h (by decide)).mpr e)
            rw [if_neg c124, if_neg c124, if_pos rfl, if_neg nk]
            exact zP'.ret ⟨frTa.refl σ, rfl, hs, hy⟩
    · cases w with
      | zero => exact zP'.no
      | succ w =>
        have h1 := h.1
        have h2 := h.2.1
        rw [eP_4]
        unfold g_qu_both_L9
        refine zP'.ite (fun c => ?_) (fun c => ?_)
        · rw [if_neg (fun e => by omega)]
          exact zP'.ret ⟨frTa.refl σ, rfl, hs, hy⟩
        · rw [p_takes h.i hs (by decide)]
          rw [Option.bind_some]
          try dsimp +instances only
          by_cases c38 : tpH σ = 38
          · have k := (tpH_is h (by decide)).mp c38
            rw [if_pos c38, if_pos c38, if_neg (by decide), if_pos k]
            obtain ⟨f, t, s3, s2, sT, sL⟩ := tk_st h hs k.1
            have R := A2 n d T _ t s3 (O.f f t) d0 d4 (by rw [sL, s2]; omega)
            rw [sT, sL, s2] at R
            obtain ⟨c1, c2⟩ := bd 2 d (σ 120 2 + 1) T (cT σ) (σ 120 1) (by decide) (by omega)
            refine (c_seq t R (fun q e => by rw [s2]; exact c1 q e) (fun y e => by rw [s2, sL]; exact c2 y e) (fun v s kk => c_bloop0 kk _) (fun v s x e g tg k2 kp hx => ?_)).imp (fun v s p => p.tr f)
            have fg := f.trans g
            have L1 : s 120 1 = σ 120 1 := fg 120 1 (Or.inr (by decide))
            have b := c2 x e
            have R2 := A4 n w d (lAnd y v) (i + 1) (fun r => T r && x.1 r) s tg k2 (O.f fg tg) d0 d4 (by omega) (by omega) (fun q hq hI => by rw [bq_and, hy q hq hI, hx q hq hI]) (by rw [L1, kp]; omega)
            rw [cT_f fg, L1, kp] at R2
            try dsimp +instances only
            rw [w32_id (x := i + 1) (by omega) (by omega)]
            exact R2
          · have nk : ¬ (σ 120 2 < σ 120 1 ∧ cT σ (σ 120 2) = 38) := fun e => c38 ((tpH_is h (by decide)).mpr e)
            rw [if_neg c38, if_neg c38, if_pos rfl, if_neg nk]
            exact zP'.ret ⟨frTa.refl σ, rfl, hs, hy⟩
end
section
/-! 6o.exprM -/
/-! E OF THE REFERENCE: its signs read -/
def mxPo (σ : zS) (r : zEx) (b : Int) (s : zS) : Prop := fr3 σ s ∧ match r with
  | .inl q => b = 0 ∧ s 143 22 = q
  | .inr x => b = 1 ∧ s 143 21 = x.2 ∧ s 143 22 = σ 143 22
theorem hereC_mT {σ : zS} (h : tpP σ) : hereC σ = if σ 143 21 < σ 143 20 then mT σ (σ 143 21) else -1 := by
  unfold hereC
  by_cases c : σ 143 21 < σ 143 20
  · rw [if_pos c, if_neg (by omega)]
    exact mT_e h.2.1.1 _ (Int.le_refl _) c
  · rw [if_neg c, if_pos (by omega)]
theorem hereC_is {σ : zS} (h : tpP σ) {x : Int} (hx : 1 ≤ x) : hereC σ = x ↔ σ 143 21 < σ 143 20 ∧ mT σ (σ 143 21) = x := by
  rw [hereC_mT h]
  by_cases c : σ 143 21 < σ 143 20
  · rw [if_pos c]
    exact ⟨fun e => ⟨c, e⟩, fun e => e.2⟩
  · rw [if_neg c]
    exact ⟨fun e => by omega, fun e => absurd e.1 c⟩
theorem mk_st {σ : zS} (h : tpP σ) (hp : σ 143 21 < σ 143 20) : w32 (σ 143 21 + 1) = σ 143 21 + 1 ∧ fr3 σ (zu σ 143 21 (σ 143 21 + 1)) ∧ tpP (zu σ 143 21 (σ 143 21 + 1)) ∧ zu σ 143 21 (σ 143 21 + 1) 143 22 = σ 143 22 ∧ zu σ 143 21 (σ 143 21 + 1) 143 21 = σ 143 21 + 1 ∧ mT (zu σ 143 21 (σ 143 21 + 1)) = mT σ ∧ zu σ 143 21 (σ 143 21 + 1) 143 20 = σ 143 20 := by
  have f : fr3 σ (zu σ 143 21 (σ 143 21 + 1)) := fr3.u (Or.inl rfl)
  have e2 : zu σ 143 21 (σ 143 21 + 1) 143 21 = σ 143 21 + 1 := zu_e rfl
  have h1 := h.1
  have h2 := h.2.1
  exact ⟨w32_id (by omega) (by omega), f, h.mv (f 143 20 (Or.inr (by decide))) (funext (fun j => f 159 j (Or.inl (by decide)))) (by rw [e2]; omega), zu_i (by decide), e2, mT_f f, f 143 20 (Or.inr (by decide))⟩
theorem m_fail {σ : zS} {x : Int} (hs : σ 143 22 < 0) : g_m_fails x σ = some (0, zu σ 143 22 x) := by
  unfold g_m_fails
  try dsimp only
  rw [if_neg (by omega)]
theorem b01 {Q : Int → zS → Prop} {b : Int} {s : zS} (h : Q b s) : zP' (if b = 0 ∨ b = 1 then some (b, s) else none) Q := zP'.gd (fun _ => zP'.ret h)
def tsQ (σ : zS) (b : Int) (s : zS) : Sum Int ((Int × Int × Int) × Int) → Prop
  | .inl q => b = 0 ∧ s 143 22 = q
  | .inr x => b = 1 ∧ s 143 21 = x.2 ∧ s 143 22 = σ 143 22
def mtPo (σ : zS) (r : Sum Int ((Int × Int × Int) × Int)) (b : Int) (s : zS) : Prop := fr3 σ s ∧ tsQ σ b s r
theorem mtPo.tr {σ s : zS} {r : Sum Int ((Int × Int × Int) × Int)} {b : Int} {t : zS} (f : fr3 σ s) (e : s 143 22 = σ 143 22) (h : mtPo s r b t) : mtPo σ r b t := by
  obtain ⟨h1, h2⟩ := h
  refine ⟨f.trans h1, ?_⟩
  cases r with
  | inl q => exact h2
  | inr x =>
    obtain ⟨a1, a2, a3⟩ := h2
    exact ⟨a1, a2, a3.trans e⟩
theorem m_tst109 {σ : zS} {y : Int} {l c : Int} (h : tpP σ) (hs : σ 143 22 < 0) (hn : σ 143 21 = (if negB (mT σ) (σ 143 20) y = true then y + 1 else y)) : zP' (g_m_isTest_L109 σ) (mtPo σ (tstV l c (negB (mT σ) (σ 143 20) y) (tstN (mT σ) (σ 143 20) y))) := by
  have N := m_num (w := 9) (lo := 0) (hi := 999999999) h hs (by decide)
  rw [hn] at N
  unfold g_m_isTest_L109
  refine zP'.bind N (fun b s p => ?_)
  obtain ⟨p1, -⟩ := p
  have p1 : mPo σ (tstN (mT σ) (σ 143 20) y) b s := p1
  try dsimp +instances only
  refine b01 ?_
  cases e : tstN (mT σ) (σ 143 20) y with
  | inl q =>
    obtain ⟨f1, f2, f3⟩ := p1.no e
    exact ⟨f1, f2, f3⟩
  | inr z =>
    obtain ⟨f1, f2, f3, f4⟩ := p1.ok e
    exact ⟨f1, f2, f3, f4⟩
theorem m_tst80 {σ : zS} {l c : Int} (h : tpP σ) (hs : σ 143 22 < 0) (hp : σ 143 21 < σ 143 20) : zP' (g_m_isTest_L80 σ) (mtPo σ (tstV l c (negB (mT σ) (σ 143 20) (σ 143 21 + 1)) (tstN (mT σ) (σ 143 20) (σ 143 21 + 1)))) := by
  obtain ⟨ew, f, t, s22, s21, sT, s20⟩ := mk_st h hp
  unfold g_m_isTest_L80
  try dsimp +instances only
  rw [ew]
  generalize zu σ 143 21 (σ 143 21 + 1) = s1 at f t s22 s21 sT s20
  rw [s_here t.i]
  rw [Option.bind_some]
  try dsimp +instances only
  have eH : hereC s1 = 45 ↔ negB (mT σ) (σ 143 20) (σ 143 21 + 1) = true := by
    rw [hereC_is t (by decide), sT, s20, s21]
    unfold negB
    rw [decide_eq_true_iff]
  by_cases c45 : hereC s1 = 45
  · have hn := eH.mp c45
    have hp1 := (negB_t hn).1
    rw [if_neg (fun k => k c45)]
    obtain ⟨ew2, f2, t2, u22, u21, uT, u20⟩ := mk_st t (by omega)
    rw [ew2]
    generalize zu s1 143 21 (s1 143 21 + 1) = s2 at f2 t2 u22 u21 uT u20
    have R := m_tst109 (y := σ 143 21 + 1) (l := l) (c := c) t2 (by omega) (by rw [uT, u20, sT, s20, hn, if_pos rfl, u21, s21])
    rw [uT, u20, sT, s20] at R
    exact R.imp (fun b s p => p.tr (f.trans f2) (u22.trans s22))
  · have hn : negB (mT σ) (σ 143 20) (σ 143 21 + 1) = false := Bool.eq_false_iff.mpr (fun e => c45 (eH.mpr e))
    rw [if_pos c45]
    have R := m_tst109 (y := σ 143 21 + 1) (l := l) (c := c) t (by omega) (by rw [sT, s20, hn, s21]; rfl)
    rw [sT, s20] at R
    exact R.imp (fun b s p => p.tr f s22)
theorem m_tst38 {σ : zS} {l : Int} (h : tpP σ) (hs : σ 143 22 < 0) (hp : σ 143 21 < σ 143 20) : zP' (g_m_isTest_L38 σ) (mtPo σ (tstC l (mT σ) (σ 143 20) (σ 143 21 + 1))) := by
  obtain ⟨ew, f, t, s22, s21, sT, s20⟩ := mk_st h hp
  unfold g_m_isTest_L38 tstC
  try dsimp +instances only
  rw [ew]
  generalize zu σ 143 21 (σ 143 21 + 1) = s1 at f t s22 s21 sT s20
  rw [s_here t.i]
  rw [Option.bind_some]
  try dsimp +instances only
  cases e : cmpR (mT σ) (σ 143 20) (σ 143 21 + 1) with
  | inl q =>
    obtain ⟨k1, k2⟩ := cmpR_no e
    have no : ∀ x, 1 ≤ x → (x = 60 ∨ x = 61 ∨ x = 62) → ¬ hereC s1 = x := fun x hx hx2 hh => by
      obtain ⟨a1, a2⟩ := (hereC_is t hx).mp hh
      rw [s20, s21] at a1
      rw [sT, s21] at a2
      have := k2 a1
      omega
    rw [if_neg (no 60 (by decide) (by decide)), if_neg (no 61 (by decide) (by decide)), if_neg (no 62 (by decide) (by decide)), m_fail (by omega)]
    rw [Option.bind_some]
    try dsimp +instances only
    rw [if_pos (Or.inl rfl)]
    exact zP'.ret ⟨f.trans (fr3.u (by omega)), rfl, by (try dsimp only); rw [zu_e rfl, s21, k1]⟩
  | inr y =>
    obtain ⟨k1, k2, k3⟩ := cmpR_ok (v := y.1) (p' := y.2) e
    have R := m_tst80 (l := l) (c := y.1) t (by omega) (by omega)
    rw [sT, s20, s21, ← k2] at R
    have R := R.imp (fun b s p => p.tr f s22)
    have is : ∀ x, 1 ≤ x → mT σ (σ 143 21 + 1) = x → hereC s1 = x := fun x hx hx2 => (hereC_is t hx).mpr ⟨by omega, by rw [sT, s21]; exact hx2⟩
    try dsimp only
    rcases k3 with ⟨-, k3⟩ | ⟨-, k3⟩ | ⟨-, k3⟩
    · rw [if_pos (is 60 (by decide) k3)]
      exact R
    · have e61 := is 61 (by decide) k3
      rw [if_neg (by omega), if_pos e61]
      exact R
    · have e62 := is 62 (by decide) k3
      rw [if_neg (by omega), if_neg (by omega), if_pos e62]
      exact R
theorem m_test {σ : zS} (h : tpP σ) (hs : σ 143 22 < 0) : zP' (g_m_isTest σ) (mtPo σ (tstP (mT σ) (σ 143 20) (σ 143 21))) := by
  unfold g_m_isTest tstP
  rw [s_here h.i]
  rw [Option.bind_some]
  try dsimp +instances only
  cases e : ltrR (mT σ) (σ 143 20) (σ 143 21) with
  | inl q =>
    obtain ⟨k1, k2⟩ := ltrR_no e
    have no : ∀ x, 1 ≤ x → (x = 119 ∨ x = 120 ∨ x = 121 ∨ x = 114) → ¬ hereC σ = x := fun x hx hx2 hh => by
      obtain ⟨a1, a2⟩ := (hereC_is h hx).mp hh
      have := k2 a1
      omega
    rw [if_neg (no 119 (by decide) (by decide)), if_neg (no 120 (by decide) (by decide)), if_neg (no 121 (by decide) (by decide)), if_neg (no 114 (by decide) (by decide)), m_fail hs]
    rw [Option.bind_some]
    try dsimp +instances only
    rw [if_pos (Or.inl rfl)]
    exact zP'.ret ⟨fr3.u (by omega), rfl, by (try dsimp only); rw [zu_e rfl, k1]⟩
  | inr y =>
    obtain ⟨k1, k2, k3⟩ := ltrR_ok (v := y.1) (p' := y.2) e
    have R := m_tst38 (l := y.1) h hs k1
    rw [← k2] at R
    have is : ∀ x, 1 ≤ x → mT σ (σ 143 21) = x → hereC σ = x := fun x hx hx2 => (hereC_is h hx).mpr ⟨k1, hx2⟩
    try dsimp only
    rcases k3 with ⟨-, k3⟩ | ⟨-, k3⟩ | ⟨-, k3⟩ | ⟨-, k3⟩
    · rw [if_pos (is 119 (by decide) k3)]
      exact R
    · have e1 := is 120 (by decide) k3
      rw [if_neg (by omega), if_pos e1]
      exact R
    · have e1 := is 121 (by decide) k3
      rw [if_neg (by omega), if_neg (by omega), if_pos e1]
      exact R
    · have e1 := is 114 (by decide) k3
      rw [if_neg (by omega), if_neg (by omega), if_neg (by omega), if_pos e1]
      exact R
/-! the whole of E -/
theorem mxPo.tr {σ s : zS} {r : zEx} {b : Int} {t : zS} (f : fr3 σ s) (e : s 143 22 = σ 143 22) (h : mxPo s r b t) : mxPo σ r b t := by
  obtain ⟨h1, h2⟩ := h
  refine ⟨f.trans h1, ?_⟩
  cases r with
  | inl q => exact h2
  | inr x =>
    obtain ⟨a1, a2, a3⟩ := h2
    exact ⟨a1, a2, a3.trans e⟩
theorem tpP.f {σ s : zS} (h : tpP σ) (f : fr3 σ s) (h2 : 0 ≤ s 143 21 ∧ s 143 21 ≤ σ 143 20) : tpP s := h.mv (f 143 20 (Or.inr (by decide))) (funext (fun j => f 159 j (Or.inl (by decide)))) h2
theorem m_seq {σ : zS} {x : Option (Int × zS)} {g : Int × zS → Option (Int × zS)} {r : zEx} {k : Int → (Int → Bool) → zEx} (h : tpP σ) (hx : zP' x (mxPo σ r)) (b1 : ∀ y, r = .inr y → σ 143 21 ≤ y.2 ∧ y.2 ≤ σ 143 20) (h0 : ∀ s, zP' (g (0, s)) (fun b t => b = 0 ∧ t = s)) (hk : ∀ s y, r = .inr y → fr3 σ s → tpP s → s 143 22 = σ 143 22 → s 143 21 = y.2 → zP' (g (1, s)) (mxPo s (k y.2 y.1))) : zP' (x.bind g) (mxPo σ (exSeq k r)) := by
  refine zP'.bind hx (fun b s p => ?_)
  obtain ⟨f, p⟩ := p
  cases e : r with
  | inl q =>
    rw [e] at p
    obtain ⟨rfl, p2⟩ := p
    exact (h0 s).imp (fun v t kk => by
      obtain ⟨k1, k2⟩ := kk
      rw [k2]
      exact ⟨f, k1, p2⟩)
  | inr y =>
    rw [e] at p
    obtain ⟨rfl, p2, p3⟩ := p
    have b := b1 y e
    have h2 := h.2.1
    exact (hk s y e f (h.f f (by omega)) p3 p2).imp (fun v t kk => kk.tr f p3)
theorem m_eloop0 {rec : Nat → Int → zS → Option (Int × zS)} {d : Int} {s : zS} : ∀ n, zP' (g_m_isEither_L6 rec n d 0 s) (fun b t => b = 0 ∧ t = s)
  | 0 => zP'.no
  | n + 1 => by
    unfold g_m_isEither_L6
    rw [if_pos rfl, if_pos (Or.inl rfl)]
    exact zP'.ret ⟨rfl, rfl⟩
theorem m_bloop0 {rec : Nat → Int → zS → Option (Int × zS)} {d : Int} {s : zS} : ∀ n, zP' (g_m_isBoth_L6 rec n d 0 s) (fun b t => b = 0 ∧ t = s)
  | 0 => zP'.no
  | n + 1 => by
    unfold g_m_isBoth_L6
    rw [if_pos rfl, if_pos (Or.inl rfl)]
    exact zP'.ret ⟨rfl, rfl⟩
def m_all (ev : Int → Int → Int) (m : Nat) : Prop :=
  (∀ (n : Nat) (d : Int) (T : Int → Bool) (σ : zS), tpP σ → σ 143 22 < 0 → 0 ≤ d → d ≤ 4 → 4 * (σ 143 20 - σ 143 21) + 3 ≤ (m : Int) → zP' (g_grp225 n 227 d σ) (mxPo σ (eP ev (mT σ) (σ 143 20) m 0 d (σ 143 21) T))) ∧
  (∀ (n : Nat) (d : Int) (T : Int → Bool) (σ : zS), tpP σ → σ 143 22 < 0 → 0 ≤ d → d ≤ 4 → 4 * (σ 143 20 - σ 143 21) + 2 ≤ (m : Int) → zP' (g_grp225 n 226 d σ) (mxPo σ (eP ev (mT σ) (σ 143 20) m 1 d (σ 143 21) T))) ∧
  (∀ (n : Nat) (d : Int) (T : Int → Bool) (σ : zS), tpP σ → σ 143 22 < 0 → 0 ≤ d → d ≤ 4 → 4 * (σ 143 20 - σ 143 21) + 1 ≤ (m : Int) → zP' (g_grp225 n 225 d σ) (mxPo σ (eP ev (mT σ) (σ 143 20) m 2 d (σ 143 21) T))) ∧
  (∀ (n w : Nat) (d : Int) (T : Int → Bool) (σ : zS), tpP σ → σ 143 22 < 0 → 0 ≤ d → d ≤ 4 → 4 * (σ 143 20 - σ 143 21) + 1 ≤ (m : Int) → zP' (g_m_isEither_L6 (g_grp225 n) w d 1 σ) (mxPo σ (eP ev (mT σ) (σ 143 20) m 3 d (σ 143 21) T))) ∧
  (∀ (n w : Nat) (d : Int) (T : Int → Bool) (σ : zS), tpP σ → σ 143 22 < 0 → 0 ≤ d → d ≤ 4 → 4 * (σ 143 20 - σ 143 21) + 1 ≤ (m : Int) → zP' (g_m_isBoth_L6 (g_grp225 n) w d 1 σ) (mxPo σ (eP ev (mT σ) (σ 143 20) m 4 d (σ 143 21) T)))
theorem m_expr {ev : Int → Int → Int} : ∀ m : Nat, m_all ev m
  | 0 => ⟨fun n d T σ h hs _ _ hm => by have := h.2.1; omega, fun n d T σ h hs _ _ hm => by have := h.2.1; omega, fun n d T σ h hs _ _ hm => by have := h.2.1; omega, fun n w d T σ h hs _ _ hm => by have := h.2.1; omega, fun n w d T σ h hs _ _ hm => by have := h.2.1; omega⟩
  | m + 1 => by
    obtain ⟨A0, A1, A2, A3, A4⟩ := m_expr (ev := ev) m
    have bd : ∀ (k : Nat) (d p : Int) (T : Int → Bool) (f : Int → Int) (L : Int), k ≤ 4 → p ≤ L → ∀ x, eP ev f L m k d p T = .inr x → p ≤ x.2 ∧ x.2 ≤ L := fun k d p T f L hk h x e => by
      have b := (eP_bd (ev := ev) (f := f) m k d p T hk h).2 x e
      exact ⟨b.1, b.2.1⟩
    have st : ∀ (k : Nat) (d p : Int) (T : Int → Bool) (f : Int → Int) (L : Int), k ≤ 2 → p ≤ L → ∀ x, eP ev f L m k d p T = .inr x → p < x.2 := fun k d p T f L hk h x e => ((eP_bd (ev := ev) (f := f) m k d p T (by omega) h).2 x e).2.2 (by omega) (by omega)
    refine ⟨fun n d T σ h hs d0 d4 hm => ?_, fun n d T σ h hs d0 d4 hm => ?_, fun n d T σ h hs d0 d4 hm => ?_, fun n w d T σ h hs d0 d4 hm => ?_, fun n w d T σ h hs d0 d4 hm => ?_⟩
    · cases n with
      | zero => exact zP'.no
      | succ n =>
        have h2 := h.2.1
        rw [grp225_227, eP_0]
        unfold g_m_isEither
        refine m_seq h (A1 n d T σ h hs d0 d4 (by omega)) (bd 1 d _ T _ _ (by decide) h2.2) (fun s => m_eloop0 _) (fun s y e f t k2 kp => ?_)
        have hl := st 1 d _ T _ _ (by decide) h2.2 y e
        have L1 : s 143 20 = σ 143 20 := f 143 20 (Or.inr (by decide))
        have R := A3 n zK d y.1 s t (by omega) d0 d4 (by rw [L1, kp]; omega)
        rw [mT_f f, L1, kp] at R
        exact R
    · cases n with
      | zero => exact zP'.no
      | succ n =>
        have h2 := h.2.1
        rw [grp225_226, eP_1]
        unfold g_m_isBoth
        refine m_seq h (A2 n d T σ h hs d0 d4 (by omega)) (bd 2 d _ T _ _ (by decide) h2.2) (fun s => m_bloop0 _) (fun s y e f t k2 kp => ?_)
        have hl := st 2 d _ T _ _ (by decide) h2.2 y e
        have L1 : s 143 20 = σ 143 20 := f 143 20 (Or.inr (by decide))
        have R := A4 n zK d y.1 s t (by omega) d0 d4 (by rw [L1, kp]; omega)
        rw [mT_f f, L1, kp] at R
        exact R
    · cases n with
      | zero => exact zP'.no
      | succ n =>
        have h2 := h.2.1
        rw [grp225_225, eP_2]
        have l80 : zP' (g_m_isFactor_L80 (g_grp225 n) σ) (mxPo σ (exTst ev (tstP (mT σ) (σ 143 20) (σ 143 21)))) := by
          unfold g_m_isFactor_L80
          refine zP'.bind (m_test h hs) (fun b s p => b01 ?_)
          obtain ⟨p1, p2⟩ := p
          try dsimp only
          cases e : tstP (mT σ) (σ 143 20) (σ 143 21) with
          | inl q =>
            rw [e] at p2
            exact ⟨p1, p2⟩
          | inr x =>
            rw [e] at p2
            exact ⟨p1, p2⟩
        unfold g_m_isFactor
        rw [s_here h.i]
        rw [Option.bind_some]
        try dsimp +instances only
        refine zP'.ite (fun c => ?_) (fun c => ?_)
        · rw [if_neg (by omega), if_neg (by omega)]
          unfold g_m_isFactor_L34
          rw [if_pos c]
          exact l80
        · by_cases c33 : hereC σ = 33
          · have k := (hereC_is h (by decide)).mp c33
            rw [if_neg (fun e => e c33), if_pos ⟨by omega, k⟩, w32_id (x := d + 1) (by omega) (by omega)]
            obtain ⟨ew, f, t, s22, s21, sT, s20⟩ := mk_st h k.1
            rw [ew]
            have R := A2 n (d + 1) T _ t (by omega) (by omega) (by omega) (by rw [s20, s21]; omega)
            rw [sT, s20, s21] at R
            refine zP'.bind R (fun b s p => b01 ?_)
            have p := p.tr f s22
            obtain ⟨p1, p2⟩ := p
            try dsimp only
            cases e : eP ev (mT σ) (σ 143 20) m 2 (d + 1) (σ 143 21 + 1) T with
            | inl q =>
              rw [e] at p2
              exact ⟨p1, p2⟩
            | inr x =>
              rw [e] at p2
              exact ⟨p1, p2⟩
          · have nk : ¬ (d < 4 ∧ σ 143 21 < σ 143 20 ∧ mT σ (σ 143 21) = 33) := fun e => c33 ((hereC_is h (by decide)).mpr e.2)
            rw [if_pos c33, if_neg nk]
            unfold g_m_isFactor_L34
            rw [if_neg c]
            by_cases c40 : hereC σ = 40
            · have k := (hereC_is h (by decide)).mp c40
              rw [if_neg (fun e => e c40), if_pos ⟨by omega, k⟩, w32_id (x := d + 1) (by omega) (by omega)]
              try dsimp +instances only
              obtain ⟨ew, f, t, s22, s21, sT, s20⟩ := mk_st h k.1
              rw [ew]
              have R := A0 n (d + 1) T _ t (by omega) (by omega) (by omega) (by rw [s20, s21]; omega)
              rw [sT, s20, s21] at R
              have c2 := bd 0 (d + 1) (σ 143 21 + 1) T (mT σ) (σ 143 20) (by decide) (by omega)
              refine zP'.bind R (fun b s p => ?_)
              have p := p.tr f s22
              obtain ⟨p1, p2⟩ := p
              try dsimp +instances only
              cases e : eP ev (mT σ) (σ 143 20) m 0 (d + 1) (σ 143 21 + 1) T with
              | inl q =>
                rw [e] at p2
                obtain ⟨rfl, p3⟩ := p2
                rw [if_pos rfl]
                exact zP'.ret ⟨p1, rfl, p3⟩
              | inr x =>
                rw [e] at p2
                obtain ⟨rfl, n1, n2⟩ := p2
                have b := c2 x e
                have ts : tpP s := h.f p1 (by omega)
                have L1 : s 143 20 = σ 143 20 := p1 143 20 (Or.inr (by decide))
                have W := m_sgn (x := 41) ts (by omega) (by decide)
                rw [mT_f p1, L1, n1] at W
                rw [if_neg (by decide)]
                refine zP'.bind W (fun b s4 p4 => ?_)
                try dsimp +instances only
                unfold exPar
                try dsimp only
                cases e4 : sgnR 41 (mT σ) (σ 143 20) x.2 with
                | inl q =>
                  obtain ⟨g1, rfl, g3⟩ := p4.no e4
                  rw [if_pos rfl]
                  exact zP'.ret ⟨p1.trans g1, rfl, g3⟩
                | inr z =>
                  obtain ⟨g1, rfl, gp, g3⟩ := p4.ok e4
                  rw [if_neg (by decide)]
                  exact zP'.ret ⟨p1.trans g1, rfl, gp, g3.trans n2⟩
            · have nk2 : ¬ (d < 4 ∧ σ 143 21 < σ 143 20 ∧ mT σ (σ 143 21) = 40) := fun e => c40 ((hereC_is h (by decide)).mpr e.2)
              rw [if_pos c40, if_neg nk2]
              exact l80
    · cases w with
      | zero => exact zP'.no
      | succ w =>
        have h2 := h.2.1
        rw [eP_3]
        unfold g_m_isEither_L6
        rw [if_neg (by decide), s_here h.i]
        rw [Option.bind_some]
        try dsimp +instances only
        by_cases c124 : hereC σ = 124
        · have k := (hereC_is h (by decide)).mp c124
          rw [if_neg (fun e => e c124), if_pos k]
          obtain ⟨ew, f, t, s22, s21, sT, s20⟩ := mk_st h k.1
          rw [ew]
          have R := A1 n d T _ t (by omega) d0 d4 (by rw [s20, s21]; omega)
          rw [sT, s20, s21] at R
          have c2 := bd 1 d (σ 143 21 + 1) T (mT σ) (σ 143 20) (by decide) (by omega)
          refine (m_seq t R (fun y e => by rw [s21, s20]; exact c2 y e) (fun s => m_eloop0 _) (fun s x e g tg k2 kp => ?_)).imp (fun v s p => p.tr f s22)
          have fg := f.trans g
          have L1 : s 143 20 = σ 143 20 := fg 143 20 (Or.inr (by decide))
          have b := c2 x e
          have R2 := A3 n w d (fun r => T r || x.1 r) s tg (by omega) d0 d4 (by rw [L1, kp]; omega)
          rw [mT_f fg, L1, kp] at R2
          exact R2
        · have nk : ¬ (σ 143 21 < σ 143 20 ∧ mT σ (σ 143 21) = 124) := fun e => c124 ((hereC_is h (by decide)).mpr e)
          rw [if_pos c124, if_neg nk, if_pos (Or.inr rfl)]
          exact zP'.ret ⟨fr3.refl σ, rfl, rfl, rfl⟩
    · cases w with
      | zero => exact zP'.no
      | succ w =>
        have h2 := h.2.1
        rw [eP_4]
        unfold g_m_isBoth_L6
        rw [if_neg (by decide), s_here h.i]
        rw [Option.bind_some]
        try dsimp +instances only
        by_cases c38 : hereC σ = 38
        · have k := (hereC_is h (by decide)).mp c38
          rw [if_neg (fun e => e c38), if_pos k]
          obtain ⟨ew, f, t, s22, s21, sT, s20⟩ := mk_st h k.1
          rw [ew]
          have R := A2 n d T _ t (by omega) d0 d4 (by rw [s20, s21]; omega)
          rw [sT, s20, s21] at R
          have c2 := bd 2 d (σ 143 21 + 1) T (mT σ) (σ 143 20) (by decide) (by omega)
          refine (m_seq t R (fun y e => by rw [s21, s20]; exact c2 y e) (fun s => m_bloop0 _) (fun s x e g tg k2 kp => ?_)).imp (fun v s p => p.tr f s22)
          have fg := f.trans g
          have L1 : s 143 20 = σ 143 20 := fg 143 20 (Or.inr (by decide))
          have b := c2 x e
          have R2 := A4 n w d (fun r => T r && x.1 r) s tg (by omega) d0 d4 (by rw [L1, kp]; omega)
          rw [mT_f fg, L1, kp] at R2
          exact R2
        · have nk : ¬ (σ 143 21 < σ 143 20 ∧ mT σ (σ 143 21) = 38) := fun e => c38 ((hereC_is h (by decide)).mpr e)
          rw [if_pos c38, if_neg nk, if_pos (Or.inr rfl)]
          exact zP'.ret ⟨fr3.refl σ, rfl, rfl, rfl⟩
end
