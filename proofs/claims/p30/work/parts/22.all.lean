section
/-! 66.ops2 -/
/-! BOTH SIDES: every pair of calls keeps the rows and counts told alike, and what they answer -/
theorem p_crow {r w : Int} {σ : zS} (H : CI σ) (R : Rel σ) : g_c_row r w σ = some (rowA σ r w, σ) := by
  obtain ⟨⟨⟨S, hr⟩, -⟩, -, -⟩ := R
  unfold g_c_row rowA
  rw [p_isRow]
  rw [Option.bind_some]
  try dsimp +instances only
  by_cases c1 : 0 ≤ r ∧ r < 60
  · obtain ⟨k, rfl⟩ : ∃ k : Nat, r = (k : Int) := ⟨r.toNat, by omega⟩
    have hk : k < 60 := by omega
    obtain ⟨g1, g2, g3, -⟩ := hr k hk
    rw [if_pos c1, if_pos c1, if_neg (by decide)]
    by_cases c2 : 0 ≤ w ∧ w ≤ 1
    · rw [if_pos c2, if_neg (by omega), if_pos c2.2, p_isIn hk, ST_bit H S hk]
      rw [Option.bind_some]
      try dsimp +instances only
      by_cases c3 : σ 144 (20 + 3 * (k : Int)) = 0
      · have hI : inS σ 144 k = false := decide_eq_false (fun h => by omega)
        rw [hI, if_pos c3, if_neg (by decide)]
      · have hI : inS σ 144 k = true := decide_eq_true ⟨hk, by omega⟩
        rw [hI, if_neg c3, if_pos (by decide)]
        by_cases c4 : w ≠ 0
        · rw [if_pos c4, if_pos c1, show 21 + 3 * (k : Int) + w = 22 + 3 * (k : Int) by omega, ← g3]
        · rw [if_neg c4, if_pos c1, show 21 + 3 * (k : Int) + w = 21 + 3 * (k : Int) by omega, ← g2]
    · rw [if_neg c2]
      by_cases c4 : w < 0
      · rw [if_pos c4]
      · rw [if_neg c4, if_neg (by omega)]
  · rw [if_neg c1, if_neg c1, if_pos rfl]
theorem p_cworth {r : Int} {σ : zS} (H : CI σ) (R : Rel σ) : g_c_worth r σ = some (worthA σ r, σ) := by
  obtain ⟨⟨⟨S, hr⟩, -⟩, -, -⟩ := R
  unfold g_c_worth worthA
  by_cases c1 : 0 ≤ r ∧ r < 60
  · obtain ⟨k, rfl⟩ : ∃ k : Nat, r = (k : Int) := ⟨r.toNat, by omega⟩
    have hk : k < 60 := by omega
    obtain ⟨g1, g2, g3, g4, -⟩ := hr k hk
    rw [if_pos c1, p_isIn hk, ST_bit H S hk]
    rw [Option.bind_some]
    try dsimp +instances only
    by_cases c3 : σ 144 (20 + 3 * (k : Int)) = 1
    · have hI : inS σ 144 k = true := decide_eq_true ⟨hk, c3⟩
      rw [hI, if_pos c3, if_neg (by decide), if_pos c1, ← g4]
    · have hI : inS σ 144 k = false := decide_eq_false (fun h => c3 h.2)
      rw [hI, if_neg c3, if_pos (by decide)]
  · rw [if_neg c1, p_isInN c1]
    rw [Option.bind_some]
    try dsimp +instances only
    rw [if_pos rfl]
def iE (σ s : zS) : Prop := ∀ a j, ((75 ≤ a ∧ a ≤ 80) ∨ (a = 74 ∧ j = 4) ∨ (a = 96 ∧ j = 1) ∨ (a = 98 ∧ j = 5) ∨ (a = 39 ∧ j = 2) ∨ (a = 97 ∨ a = 99 ∨ a = 100 ∨ a = 101) ∨ a = 145 ∨ a = 148 ∨ (a = 143 ∧ j = 6)) → s a j = σ a j
theorem iE.trans {σ s t : zS} (h1 : iE σ s) (h2 : iE s t) : iE σ t := fun a j k => (h2 a j k).trans (h1 a j k)
theorem Rel_img {σ s : zS} (H : CI σ) (R : Rel σ) (e : iE σ s) (B : BK s 41 144 147) : Rel s := by
  obtain ⟨-, h6, Bi⟩ := R
  have c4' := CI.c4 (a := 74) H (by omega)
  refine ⟨B, ?_, fun h => ?_⟩
  · rw [e 39 2 (by omega), e 143 6 (by omega)]; exact h6
  · rw [e 143 6 (by omega)] at h
    exact BK_mv (Bi h) c4' (e 74 4 (by omega)) (fun k h1 h2 j _ => e (74 + k) _ (by omega)) (fun k h1 h2 j _ => e (74 + k) _ (by omega)) (e 96 1 (by omega)) (e 98 5 (by omega)) (fun t _ _ => e 97 _ (by omega)) (fun k h1 h2 j _ => e (74 + k) _ (by omega)) (fun j _ => e 145 j (by omega)) (fun j _ _ => e 148 j (by omega))
/-- a class's call that leaves the image alone -/
def iF (F : Nat → Int → Bool) : Prop := ∀ j, F 75 j = false ∧ F 76 j = false ∧ F 77 j = false ∧ F 78 j = false ∧ F 79 j = false ∧ F 80 j = false ∧ F 74 4 = false ∧ F 96 1 = false ∧ F 98 5 = false ∧ F 39 2 = false ∧ F 97 j = false ∧ F 99 j = false ∧ F 100 j = false ∧ F 101 j = false
theorem iE.of {F : Nat → Int → Bool} {σ s : zS} (G : fr F σ s) (h : iF F) : iE σ s := fun a j k => by
  obtain ⟨h1, h2, h3, h4, h5, h6, h7, h8, h9, h10, h11, h12, h13, h14⟩ := h j
  rcases k with k | ⟨rfl, rfl⟩ | ⟨rfl, rfl⟩ | ⟨rfl, rfl⟩ | ⟨rfl, rfl⟩ | (rfl | rfl | rfl | rfl) | rfl | rfl | ⟨rfl, rfl⟩
  · have k6 : a = 75 ∨ a = 76 ∨ a = 77 ∨ a = 78 ∨ a = 79 ∨ a = 80 := by omega
    rcases k6 with rfl | rfl | rfl | rfl | rfl | rfl
    · exact G _ _ (Or.inr h1)
    · exact G _ _ (Or.inr h2)
    · exact G _ _ (Or.inr h3)
    · exact G _ _ (Or.inr h4)
    · exact G _ _ (Or.inr h5)
    · exact G _ _ (Or.inr h6)
  · exact G _ _ (Or.inr h7)
  · exact G _ _ (Or.inr h8)
  · exact G _ _ (Or.inr h9)
  · exact G _ _ (Or.inr h10)
  · exact G _ _ (Or.inr h11)
  · exact G _ _ (Or.inr h12)
  · exact G _ _ (Or.inr h13)
  · exact G _ _ (Or.inr h14)
  · exact G _ _ (Or.inl (by decide))
  · exact G _ _ (Or.inl (by decide))
  · exact G _ _ (Or.inl (by decide))
theorem chgA_bd {b v n : Int} (h : -2147483648 ≤ v ∧ v < 2147483648) : -2147483648 ≤ chgA b v n ∧ chgA b v n < 2147483648 := by
  unfold chgA
  have hw := w32_bd (v + 1)
  split
  · exact h
  · exact hw
theorem lOr_ok (x y : Int) : okL (lOr x y) := by
  unfold lOr
  have h1 := Int64.le_toInt (Int64.ofInt x ||| Int64.ofInt y)
  have h2 := Int64.toInt_lt (Int64.ofInt x ||| Int64.ofInt y)
  omega
def bxs (σ : zS) (k : Nat) : Bx := bxA σ 144 (301 + 6 * (k : Int))
theorem BK.wc {σ : zS} (B : BK σ 41 144 147) : WC σ (bxs σ) := fun k h1 h2 => by
  obtain ⟨-, -, b3, -, b5⟩ := B
  have b3 : σ 65 5 = σ 144 10 := b3
  obtain ⟨g1, g2, -, g4, g5, -⟩ := b5 k h1 (by omega)
  have g4 : σ 66 (k : Int) = σ 144 (300 + 6 * (k : Int)) := g4
  rw [g4]
  exact ⟨g1, g5, g2.1, g2.2⟩
theorem BK.ok {σ : zS} (B : BK σ 41 144 147) : ok44 σ := fun r hr => by
  obtain ⟨-, -, -, g4, g5⟩ := B.1.2 r hr
  have g4 : σ 44 (r : Int) = σ 147 (1 + (r : Int)) := g4
  rw [g4]
  exact g5
theorem BK.wr {σ s : zS} (B : BK σ 41 144 147) (e : s 144 = σ 144) : WR s (bxs σ) := fun k h1 h2 => by
  rw [e] at h2
  obtain ⟨-, g2, g3, -, -, -⟩ := B.2.2.2.2 k h1 h2
  unfold bxs bxA
  rw [e]
  exact ⟨rfl, g2, g3⟩
theorem BK.ok7 {σ s : zS} (B : BK σ 41 144 147) (e : s 147 = σ 147) : ok147 s := fun r hr => by
  obtain ⟨-, -, -, -, g5⟩ := B.1.2 r hr
  rw [e]
  exact g5
theorem WT_put {σ s1 s2 : zS} (B : BK σ 41 144 147) (R2 : RW s2 41 144 147) (cls : ∀ x j, x < 143 → s2 x j = s1 x j) (e4 : s1 144 = σ 144) (e7 : s1 147 = σ 147) (c66 : ∀ j, s1 66 j = σ 66 j) (c67 : ∀ j, s1 67 j = σ 67 j) (cw : ∀ i : Nat, (i : Int) < σ 65 5 → s1 68 (i : Int) = chgA (valC σ 41 (bxs σ i) (σ 66 (i : Int))) (σ 68 (i : Int)) (valC s1 41 (bxs σ i) (σ 66 (i : Int)))) (tw : chP s1 s2 (bxs σ)) : WT s2 41 144 := fun k h1 h2 => by
  obtain ⟨b1, -, b3, -, b5⟩ := B
  obtain ⟨t1, t2⟩ := tw
  have b3 : σ 65 5 = σ 144 10 := b3
  rw [t1 10 (Or.inl rfl), e4] at h2
  obtain ⟨g1, g2, g3, g4, g5, g6⟩ := b5 k h1 h2
  have g4 : σ 66 (k : Int) = σ 144 (300 + 6 * (k : Int)) := g4
  have g5 : σ 67 (k : Int) = enc (bxA σ 144 (301 + 6 * (k : Int))) := g5
  have g6 : σ 68 (k : Int) = σ 144 (305 + 6 * (k : Int)) := g6
  have eb : bxA s2 144 (301 + 6 * (k : Int)) = bxA σ 144 (301 + 6 * (k : Int)) := by
    unfold bxA
    rw [t1 _ (Or.inr (by unfold n5; omega)), t1 _ (Or.inr (by unfold n5; omega)), t1 _ (Or.inr (by unfold n5; omega)), t1 _ (Or.inr (by unfold n5; omega)), e4]
  have e300 : s2 144 (300 + 6 * (k : Int)) = σ 144 (300 + 6 * (k : Int)) := by
    rw [t1 _ (Or.inr (by unfold n5; omega)), e4]
  have v1 : VR s1 (bxs σ) k = valC σ 41 (bxs σ k) (σ 66 (k : Int)) := by
    unfold VR
    rw [e4, e7, g4, val_eq b1]
  have st : stE s1 s2 := fun a j h => cls a j (by unfold stK at h; omega)
  have v2 : VR s2 (bxs σ) k = valC s1 41 (bxs σ k) (σ 66 (k : Int)) := by
    unfold VR
    rw [e300, g4, ← valC_E st, val_eq R2]
  have c := cw k (by omega)
  have d := t2 k (by rw [e4]; exact h2)
  rw [v1, v2, e4] at d
  rw [g6] at c
  refine ⟨by rw [eb]; exact g1, by rw [e300]; exact g2, ?_, ?_, ?_, ?_⟩
  · rw [d]
    exact chgA_bd g3
  · show s2 66 _ = _
    rw [cls 66 _ (by decide), c66, e300]
    exact g4
  · show s2 67 _ = _
    rw [cls 67 _ (by decide), c67, eb]
    exact g5
  · show s2 68 _ = _
    rw [cls 68 _ (by decide), c, d]
theorem q_put {a b c d : Int} {σ : zS} (hd : okL d) (I : Inv2 σ) : two (g_c_put a b c d σ) (g_m_put a b c d) (fun _ _ s => Inv2 s) := by
  obtain ⟨I1, R⟩ := I
  obtain ⟨v, s1, e1, w, s2, e2, J⟩ := o_put (a := a) (b := b) (c := c) (d := d) I1
  refine ⟨v, s1, e1, w, s2, e2, J, ?_⟩
  obtain ⟨H1, G1, -⟩ := zP'.of (g_c_put_sp (x1 := a) (x2 := b) (x3 := c) (y4 := d) I1.1) v s1 e1
  have M1 : MI s1 := MI_cls I1.2.1 (fun x j h1 h2 => G1 x j (Or.inl ⟨h1, h2⟩))
  obtain ⟨c1, c2⟩ := c_put (r := a) (x := b) (y := c) (v := d) I1.1 R.1.1.1 v s1 e1
  obtain ⟨w', s2', e2', t1, t2⟩ := t_put (r := a) (x := b) (y := c) (v := d) M1.2.1 M1.1
  obtain ⟨w3, s3, e3, -, -, f3⟩ := s_put (r := a) (x := b) (y := c) (v := d) M1.2.1 M1.1
  rw [e2] at e2' e3
  cases e2'
  cases e3
  have ref : ∀ x j, 143 ≤ x → x < 168 → s1 x j = σ x j := fun x j h1 h2 => G1 x j (Or.inl ⟨h1, h2⟩)
  have cls : ∀ x j, x < 143 → s2 x j = s1 x j := fun x j h => f3 x j (by omega) (by omega) (by omega) (by omega) (by omega) (by omega) (by omega) (by omega) (by omega)
  have im : iE σ s2 := (iE.of G1 (fun _ => ⟨rfl, rfl, rfl, rfl, rfl, rfl, rfl, rfl, rfl, rfl, rfl, rfl, rfl, rfl⟩)).trans (fun x j h => f3 x j (by omega) (by omega) (by omega) (by omega) (by omega) (by omega) (by omega) (by omega) (by omega))
  obtain ⟨cw1, cw2⟩ := c_putW (B := bxs σ) I1.1 R.1.1.1 R.1.wc R.1.ok hd v s1 e1
  have q4 : s1 144 = σ 144 := funext (fun j => ref 144 j (by decide) (by decide))
  have q7 : s1 147 = σ 147 := funext (fun j => ref 147 j (by decide) (by decide))
  obtain ⟨w4, s4, e4, tw1, tw2⟩ := t_putW (r := a) (x := b) (y := c) (v := d) (B := bxs σ) M1.2.1 M1.1 (R.1.wr q4) (R.1.ok7 q7) hd
  rw [e2] at e4
  cases e4
  by_cases ca : acc a b c d
  case neg =>
    rw [tw2 ca, cw2 ca]
    exact R
  refine Rel_img I1.1 R im ?_
  have n9 : s2 63 1 = s2 144 9 := by
    rw [cls 63 1 (by decide), G1 63 1 (Or.inr rfl), f3 144 9 (by omega) (by omega) (by omega) (by omega) (by omega) (by omega) (by omega) (by omega) (by omega), ref 144 9 (by decide) (by decide)]
    exact R.1.2.1
  have n10 : s2 65 5 = s2 144 10 := by
    rw [cls 65 5 (by decide), G1 65 5 (Or.inr rfl), f3 144 10 (by omega) (by omega) (by omega) (by omega) (by omega) (by omega) (by omega) (by omega) (by omega), ref 144 10 (by decide) (by decide)]
    exact R.1.2.2.1
  have rw2 : RW s2 41 144 147 := by
    obtain ⟨k, rfl, hk, S, x1, x2, x3⟩ := c1 ca
    obtain ⟨r1, r2⟩ := t1 ca
    have eI : inS s2 144 = fun q => inS σ 144 q || decide (q = k) := by
      funext q
      unfold inS
      by_cases cq : q < 60
      · rw [r1 _ (by omega) (by omega), ref 144 _ (by decide) (by decide)]
        by_cases ck : q = k
        · subst ck
          rw [if_pos rfl]
          simp [cq]
        · rw [if_neg (by omega), if_neg (by omega), if_neg (by omega)]
          simp [ck]
      · have ck : ¬ q = k := by omega
        simp [cq, ck]
    refine ⟨?_, fun q hq => ?_⟩
    · rw [eI]
      exact ST_E S (fun x j h => cls x j (by unfold stK at h; omega))
    · obtain ⟨g1, g2, g3, g4, g5⟩ := R.1.1.2 q hq
      show (s2 144 _ = 0 ∨ s2 144 _ = 1) ∧ s2 42 _ = _ ∧ s2 43 _ = _ ∧ s2 44 _ = _ ∧ okL _
      rw [cls 42 _ (by decide), cls 43 _ (by decide), cls 44 _ (by decide), x1, x2, x3, r1 _ (by omega) (by omega), r1 _ (by omega) (by omega), r1 _ (by omega) (by omega), r2 _ (by omega) (by omega), ref 144 _ (by decide) (by decide), ref 144 _ (by decide) (by decide), ref 144 _ (by decide) (by decide), ref 147 _ (by decide) (by decide)]
      by_cases ck : q = k
      · subst ck
        rw [if_pos rfl, if_pos rfl, if_pos rfl, if_pos rfl, if_neg (by omega), if_pos rfl, if_neg (by omega), if_neg (by omega), if_pos rfl, if_pos rfl]
        exact ⟨Or.inr rfl, rfl, rfl, rfl, hd⟩
      · rw [if_neg (by omega), if_neg (by omega), if_neg (by omega), if_neg (by omega), if_neg (by omega), if_neg (by omega), if_neg (by omega), if_neg (by omega), if_neg (by omega), if_neg (by omega), if_neg (by omega), if_neg (by omega), if_neg (by omega)]
        exact ⟨g1, g2, g3, g4, g5⟩
  refine ⟨rw2, n9, n10, TR_mv R.1.2.2.2.1 (fun t _ => ?_) (fun j hj => ?_), WT_put R.1 rw2 cls q4 q7 (fun j => G1 66 j (Or.inr rfl)) (fun j => G1 67 j (Or.inr rfl)) (cw1 ca) (tw1 ca)⟩
  · show s2 64 _ = σ 64 _
    rw [cls 64 _ (by decide)]
    exact G1 64 _ (Or.inr rfl)
  · rw [f3 144 _ (by omega) (by omega) (by omega) (by omega) (by omega) (by omega) (by omega) (by omega) (by omega), q4]
theorem q_take {a : Int} {σ : zS} (I : Inv2 σ) : two (g_c_take a σ) (g_m_take a) (fun _ _ s => Inv2 s) := by
  obtain ⟨I1, R⟩ := I
  obtain ⟨v, s1, e1, w, s2, e2, J⟩ := o_take (a := a) I1
  refine ⟨v, s1, e1, w, s2, e2, J, ?_⟩
  obtain ⟨H1, G1, -⟩ := zP'.of (g_c_take_sp (x1 := a) I1.1) v s1 e1
  have M1 : MI s1 := MI_cls I1.2.1 (fun x j h1 h2 => G1 x j (Or.inl ⟨h1, h2⟩))
  obtain ⟨c1, c2⟩ := c_take (r := a) I1.1 R.1.1.1 v s1 e1
  obtain ⟨w', s2', e2', t1, t2⟩ := t_take (r := a) M1.2.1 M1.1
  obtain ⟨w3, s3, e3, -, -, f3⟩ := s_take (r := a) M1.2.1 M1.1
  rw [e2] at e2' e3
  cases e2'
  cases e3
  have ref : ∀ x j, 143 ≤ x → x < 168 → s1 x j = σ x j := fun x j h1 h2 => G1 x j (Or.inl ⟨h1, h2⟩)
  have cls : ∀ x j, x < 143 → s2 x j = s1 x j := fun x j h => f3 x j (by omega) (by omega) (by omega) (by omega) (by omega) (by omega) (by omega) (by omega) (by omega)
  have im : iE σ s2 := (iE.of G1 (fun _ => ⟨rfl, rfl, rfl, rfl, rfl, rfl, rfl, rfl, rfl, rfl, rfl, rfl, rfl, rfl⟩)).trans (fun x j h => f3 x j (by omega) (by omega) (by omega) (by omega) (by omega) (by omega) (by omega) (by omega) (by omega))
  obtain ⟨cw1, cw2⟩ := c_takeW (r := a) (B := bxs σ) I1.1 R.1.1.1 R.1.wc R.1.ok v s1 e1
  have q4 : s1 144 = σ 144 := funext (fun j => ref 144 j (by decide) (by decide))
  have q7 : s1 147 = σ 147 := funext (fun j => ref 147 j (by decide) (by decide))
  obtain ⟨w4, s4, e4, tw1, tw2⟩ := t_takeW (r := a) (B := bxs σ) M1.2.1 M1.1 (R.1.wr q4) (R.1.ok7 q7)
  rw [e2] at e4
  cases e4
  rw [ref 144 _ (by decide) (by decide)] at t1 t2 tw1 tw2
  by_cases ca : (0 ≤ a ∧ a < 60) ∧ σ 144 (20 + 3 * a) ≠ 0
  case neg =>
    have hin : ¬ ((0 ≤ a ∧ a < 60) ∧ inS σ 144 a.toNat = true) := fun h => by
      have h2 := of_decide_eq_true h.2
      rw [show ((a.toNat : Nat) : Int) = a by omega] at h2
      exact ca ⟨h.1, by omega⟩
    rw [tw2 ca, cw2 hin]
    exact R
  refine Rel_img I1.1 R im ?_
  have n9 : s2 63 1 = s2 144 9 := by
    rw [cls 63 1 (by decide), G1 63 1 (Or.inr rfl), f3 144 9 (by omega) (by omega) (by omega) (by omega) (by omega) (by omega) (by omega) (by omega) (by omega), ref 144 9 (by decide) (by decide)]
    exact R.1.2.1
  have n10 : s2 65 5 = s2 144 10 := by
    rw [cls 65 5 (by decide), G1 65 5 (Or.inr rfl), f3 144 10 (by omega) (by omega) (by omega) (by omega) (by omega) (by omega) (by omega) (by omega) (by omega), ref 144 10 (by decide) (by decide)]
    exact R.1.2.2.1
  have hin : inS σ 144 a.toNat = true := by
    obtain ⟨g1, -, -, -⟩ := R.1.1.2 a.toNat (by omega)
    rw [show ((a.toNat : Nat) : Int) = a by omega] at g1
    refine decide_eq_true ⟨by omega, ?_⟩
    rw [show ((a.toNat : Nat) : Int) = a by omega]
    omega
  have rw2 : RW s2 41 144 147 := by
    obtain ⟨k, rfl, S, x1⟩ := c1 ⟨ca.1, hin⟩
    obtain ⟨r1, r2⟩ := t1 ca
    have hk : k < 60 := by omega
    have eI : inS s2 144 = fun q => inS σ 144 q && !decide (q = k) := by
      funext q
      unfold inS
      by_cases cq : q < 60
      · rw [r1 _ (by omega) (by omega), ref 144 _ (by decide) (by decide)]
        by_cases ck : q = k
        · subst ck
          rw [if_pos rfl]
          simp
        · rw [if_neg (by omega)]
          simp [ck]
      · simp [cq]
    refine ⟨?_, fun q hq => ?_⟩
    · rw [eI]
      exact ST_E S (fun x j h => cls x j (by unfold stK at h; omega))
    · obtain ⟨g1, g2, g3, g4, g5⟩ := R.1.1.2 q hq
      show (s2 144 _ = 0 ∨ s2 144 _ = 1) ∧ s2 42 _ = _ ∧ s2 43 _ = _ ∧ s2 44 _ = _ ∧ okL _
      rw [cls 42 _ (by decide), cls 43 _ (by decide), cls 44 _ (by decide), x1 42 _ (by omega), x1 43 _ (by omega), x1 44 _ (by omega)]
      refine ⟨?_, ?_, ?_, ?_, ?_⟩
      · rw [r1 _ (by omega) (by omega)]
        by_cases ck : 20 + 3 * (q : Int) = 20 + 3 * (k : Int)
        · rw [if_pos ck]; exact Or.inl rfl
        · rw [if_neg ck, ref 144 _ (by decide) (by decide)]; exact g1
      · rw [r1 _ (by omega) (by omega), if_neg (by omega), ref 144 _ (by decide) (by decide)]; exact g2
      · rw [r1 _ (by omega) (by omega), if_neg (by omega), ref 144 _ (by decide) (by decide)]; exact g3
      · rw [r2 _ (by omega) (by omega), ref 147 _ (by decide) (by decide)]; exact g4
      · rw [r2 _ (by omega) (by omega), ref 147 _ (by decide) (by decide)]; exact g5
  refine ⟨rw2, n9, n10, TR_mv R.1.2.2.2.1 (fun t _ => ?_) (fun j hj => ?_), WT_put R.1 rw2 cls q4 q7 (fun j => G1 66 j (Or.inr rfl)) (fun j => G1 67 j (Or.inr rfl)) (cw1 ⟨ca.1, hin⟩) (tw1 ca)⟩
  · show s2 64 _ = σ 64 _
    rw [cls 64 _ (by decide)]
    exact G1 64 _ (Or.inr rfl)
  · rw [f3 144 _ (by omega) (by omega) (by omega) (by omega) (by omega) (by omega) (by omega) (by omega) (by omega), q4]
theorem q_trace {a b c d : Int} {σ : zS} (I : Inv2 σ) : two (g_c_trace a b c d σ) (g_m_trace a b c d) (fun v w s => Inv2 s ∧ v = w) := by
  obtain ⟨I1, R⟩ := I
  obtain ⟨v, s1, e1, w, s2, e2, J⟩ := o_trace (a := a) (b := b) (c := c) (d := d) I1
  have h9 := I1.2.1.2.1.2.2.2.1
  have R9 : σ 63 1 = σ 144 9 := R.1.2.1
  obtain ⟨s1', e1', n1, f1, tr1, tr2⟩ := p_trace (x0 := a) (x1 := b) (y0 := c) (y1 := d) (σ := σ) (by rw [R9]; exact h9)
  rw [e1] at e1'
  cases e1'
  have r9 : s1 144 9 = σ 144 9 := f1 144 9 (by decide) (Or.inl (by decide))
  obtain ⟨s2', e2', n2, f2, tt1, tt2⟩ := t_trace (x0 := a) (x1 := b) (y0 := c) (y1 := d) (σ := s1) (by rw [r9]; exact h9)
  rw [e2] at e2'
  cases e2'
  refine ⟨_, s1, e1, _, s2, e2, ⟨J, ?_⟩, by rw [r9, R9]⟩
  have hi : ∀ j, 300 ≤ j → s2 144 j = σ 144 j := fun j hj => by
    rw [← f1 144 j (by decide) (Or.inl (by decide))]
    by_cases ok : trOk (s1 144 9) a b c d
    · have hn := ok.2.2
      rw [r9] at hn
      exact (tt1 ok).2 j (by omega) (Or.inr (by rw [r9]; omega))
    · exact tt2 ok j (by omega)
  have all : ∀ x j, x ≠ 64 → (x ≠ 63 ∨ j ≠ 1) → (x ≠ 144 ∨ (j ≠ 9 ∧ j < 260)) → s2 x j = σ x j := fun x j k1 k2 k3 => (f2 x j k3).trans (f1 x j k1 k2)
  refine Rel_img I1.1 R (fun x j h => all x j (by omega) (by omega) (by omega)) ⟨?_, ?_, ?_, fun t ht h => ?_, ?_⟩
  · exact RW_mv R.1.1 (CI.c4 (a := 41) I1.1 (by omega)) (all 41 4 (by omega) (by omega) (by omega)) (fun k h1 h2 j _ => all (41 + k) _ (by omega) (by omega) (by omega)) (fun k h1 h2 j _ => all (41 + k) _ (by omega) (by omega) (by omega)) (fun j _ => all 144 j (by omega) (by omega) (by omega)) (fun j _ _ => all 147 j (by omega) (by omega) (by omega))
  · show s2 63 1 = s2 144 9
    rw [n2, f2 63 1 (by decide), n1, r9, R9]
  · show s2 65 5 = s2 144 10
    rw [all 65 5 (by omega) (by omega) (by omega), all 144 10 (by omega) (by omega) (by omega)]
    exact R.1.2.2.1
  · rw [n2, r9] at h
    by_cases ok : trOk (σ 144 9) a b c d
    · have hn : trN (σ 144 9) a b c d = σ 144 9 + 1 := by
        unfold trN
        rw [if_pos ok.1, if_pos ok.2.1, if_pos ok.2.2]
      rw [hn] at h
      obtain ⟨u1, u2⟩ := tr1 (by rw [R9]; exact ok)
      obtain ⟨w1, w2⟩ := tt1 (by rw [r9]; exact ok)
      rw [r9] at w1 w2
      rw [R9] at u1 u2
      by_cases ct : (t : Int) = σ 144 9
      · have eb : bxA s2 144 (260 + 4 * (t : Int)) = (a, b, c, d) := by rw [ct]; exact w1
        rw [eb]
        refine ⟨ok.2.1, ?_⟩
        show s2 64 _ = _
        rw [f2 64 _ (Or.inl (by decide)), ct]
        exact u1
      · have eb : bxA s2 144 (260 + 4 * (t : Int)) = bxA σ 144 (260 + 4 * (t : Int)) := by
          unfold bxA
          rw [w2 _ (by omega) (by omega), w2 _ (by omega) (by omega), w2 _ (by omega) (by omega), w2 _ (by omega) (by omega), f1 144 _ (by decide) (Or.inl (by decide)), f1 144 _ (by decide) (Or.inl (by decide)), f1 144 _ (by decide) (Or.inl (by decide)), f1 144 _ (by decide) (Or.inl (by decide))]
        obtain ⟨g1, g2⟩ := R.1.2.2.2.1 t ht (by omega)
        rw [eb]
        refine ⟨g1, ?_⟩
        show s2 64 _ = _
        rw [f2 64 _ (Or.inl (by decide)), u2 _ ct]
        exact g2
    · have hn : trN (σ 144 9) a b c d ≤ σ 144 9 := by
        unfold trN
        by_cases c1 : a ≠ -1
        · rw [if_pos c1]
          by_cases c2 : bOk (a, b, c, d)
          · rw [if_pos c2, if_neg (fun h => ok ⟨c1, c2, h⟩)]
            exact Int.le_refl _
          · rw [if_neg c2]
            exact Int.le_refl _
        · rw [if_neg c1]
          exact h9.1
      have u2 := tr2 (by rw [R9]; exact ok)
      have w2 := tt2 (by rw [r9]; exact ok)
      have eb : bxA s2 144 (260 + 4 * (t : Int)) = bxA σ 144 (260 + 4 * (t : Int)) := by
        unfold bxA
        rw [w2 _ (by omega), w2 _ (by omega), w2 _ (by omega), w2 _ (by omega), f1 144 _ (by decide) (Or.inl (by decide)), f1 144 _ (by decide) (Or.inl (by decide)), f1 144 _ (by decide) (Or.inl (by decide)), f1 144 _ (by decide) (Or.inl (by decide))]
      obtain ⟨g1, g2⟩ := R.1.2.2.2.1 t ht (by omega)
      rw [eb]
      refine ⟨g1, ?_⟩
      show s2 64 _ = _
      rw [f2 64 _ (Or.inl (by decide)), u2]
      exact g2
  · refine WT_mv R.1.2.2.2.2 (fun k k1 k2 j _ => all (41 + k) _ (by omega) (by omega) (by omega)) (fun j hj => ?_)
    by_cases c : j = 10
    · subst c
      exact all 144 10 (by omega) (by omega) (by omega)
    · exact hi j (by omega)
theorem q_watch {a b c d e : Int} {σ : zS} (I : Inv2 σ) : two (g_c_watch a b c d e σ) (g_m_watch a b c d e) (fun v w s => Inv2 s ∧ v = w) := by
  obtain ⟨I1, R⟩ := I
  obtain ⟨v, s1, e1, w, s2, e2, J⟩ := o_watch (a := a) (b := b) (c := c) (d := d) (e := e) I1
  have h10 := I1.2.1.2.1.2.2.2.2.1
  have R10 : σ 65 5 = σ 144 10 := R.1.2.2.1
  obtain ⟨s1', e1', n1, f1, tr1, tr2⟩ := p_watch (m := a) (x0 := b) (x1 := c) (y0 := d) (y1 := e) (σ := σ) (by rw [R10]; exact h10)
  rw [e1] at e1'
  cases e1'
  have r10 : s1 144 10 = σ 144 10 := f1 144 10 (by decide) (by decide) (by decide) (Or.inl (by decide))
  obtain ⟨s2', e2', n2, f2, tt1, tt2⟩ := t_watch (m := a) (x0 := b) (x1 := c) (y0 := d) (y1 := e) (σ := s1) (by rw [r10]; exact h10)
  rw [e2] at e2'
  cases e2'
  refine ⟨_, s1, e1, _, s2, e2, ⟨J, ?_⟩, by rw [r10, R10]⟩
  have all : ∀ x j, x ≠ 66 → x ≠ 67 → x ≠ 68 → (x ≠ 65 ∨ j ≠ 5) → (x ≠ 144 ∨ (j ≠ 10 ∧ j < 300)) → s2 x j = σ x j := fun x j k1 k2 k3 k4 k5 => (f2 x j k5).trans (f1 x j k1 k2 k3 k4)
  refine Rel_img I1.1 R (fun x j h => all x j (by omega) (by omega) (by omega) (by omega) (by omega)) ⟨?_, ?_, ?_, ?_, fun t ht h => ?_⟩
  · exact RW_mv R.1.1 (CI.c4 (a := 41) I1.1 (by omega)) (all 41 4 (by omega) (by omega) (by omega) (by omega) (by omega)) (fun k h1 h2 j _ => all (41 + k) _ (by omega) (by omega) (by omega) (by omega) (by omega)) (fun k h1 h2 j _ => all (41 + k) _ (by omega) (by omega) (by omega) (by omega) (by omega)) (fun j _ => all 144 j (by omega) (by omega) (by omega) (by omega) (by omega)) (fun j _ _ => all 147 j (by omega) (by omega) (by omega) (by omega) (by omega))
  · show s2 63 1 = s2 144 9
    rw [all 63 1 (by omega) (by omega) (by omega) (by omega) (by omega), all 144 9 (by omega) (by omega) (by omega) (by omega) (by omega)]
    exact R.1.2.1
  · show s2 65 5 = s2 144 10
    rw [n2, f2 65 5 (by decide), n1, r10, R10]
  · exact TR_mv R.1.2.2.2.1 (fun t _ => all 64 _ (by omega) (by omega) (by omega) (by omega) (by omega)) (fun j hj => all 144 j (by omega) (by omega) (by omega) (by omega) (by omega))
  · have g144 : ∀ j, s1 144 j = σ 144 j := fun j => f1 144 j (by decide) (by decide) (by decide) (Or.inl (by decide))
    have f66 : ∀ j, s2 66 j = s1 66 j ∧ s2 67 j = s1 67 j ∧ s2 68 j = s1 68 j := fun j => ⟨f2 66 j (Or.inl (by decide)), f2 67 j (Or.inl (by decide)), f2 68 j (Or.inl (by decide))⟩
    rw [n2, r10] at h
    show bOk (bxA s2 144 (301 + 6 * (t : Int))) ∧ _ ∧ _ ∧ s2 66 _ = _ ∧ s2 67 _ = _ ∧ s2 68 _ = _
    rw [(f66 _).1, (f66 _).2.1, (f66 _).2.2]
    by_cases ok : wtOk (σ 144 10) a b c d e
    · have hn : wtN (σ 144 10) a b c d e = σ 144 10 + 1 := by
        unfold wtN
        rw [if_pos ok.1, if_pos ok.2.1, if_pos ok.2.2]
      rw [hn] at h
      obtain ⟨⟨u1, u2, u3⟩, u4⟩ := tr1 (by rw [R10]; exact ok)
      obtain ⟨w1, w2, w3, w4⟩ := tt1 (by rw [r10]; exact ok)
      rw [r10] at w1 w2 w3 w4
      rw [R10] at u1 u2 u3 u4
      by_cases ct : (t : Int) = σ 144 10
      · rw [ct, w1, w2, w3, u1, u2, u3]
        exact ⟨ok.2.1, ok.1, by decide, rfl, rfl, rfl⟩
      · have eb : bxA s2 144 (301 + 6 * (t : Int)) = bxA σ 144 (301 + 6 * (t : Int)) := by
          unfold bxA
          rw [w4 _ (by omega) (by omega), w4 _ (by omega) (by omega), w4 _ (by omega) (by omega), w4 _ (by omega) (by omega), g144, g144, g144, g144]
        rw [eb, w4 _ (by omega) (by omega), w4 _ (by omega) (by omega), g144, g144, (u4 _ ct).1, (u4 _ ct).2.1, (u4 _ ct).2.2]
        exact R.1.2.2.2.2 t ht (by omega)
    · have hn : wtN (σ 144 10) a b c d e ≤ σ 144 10 := by
        unfold wtN
        by_cases c1 : 0 ≤ a ∧ a ≤ 6
        · rw [if_pos c1]
          by_cases c2 : bOk (b, c, d, e)
          · rw [if_pos c2, if_neg (fun h => ok ⟨c1, c2, h⟩)]
            exact Int.le_refl _
          · rw [if_neg c2]
            exact Int.le_refl _
        · rw [if_neg c1]
          exact Int.le_refl _
      have u4 := tr2 (by rw [R10]; exact ok)
      have w4 := tt2 (by rw [r10]; exact ok)
      have eb : bxA s2 144 (301 + 6 * (t : Int)) = bxA σ 144 (301 + 6 * (t : Int)) := by
        unfold bxA
        rw [w4 _ (by omega), w4 _ (by omega), w4 _ (by omega), w4 _ (by omega), g144, g144, g144, g144]
      rw [eb, w4 _ (by omega), w4 _ (by omega), g144, g144, (u4 _).1, (u4 _).2.1, (u4 _).2.2]
      exact R.1.2.2.2.2 t ht (by omega)
theorem q_image {σ : zS} (I : Inv2 σ) : two (g_c_image σ) g_m_image (fun _ _ s => Inv2 s) := by
  obtain ⟨I1, R⟩ := I
  obtain ⟨v, s1, e1, w, s2, e2, J⟩ := o_image I1
  refine ⟨v, s1, e1, w, s2, e2, J, ?_⟩
  have ht : σ 63 1 ≤ 10 := by
    have h9 := I1.2.1.2.1.2.2.2.1
    have R9 : σ 63 1 = σ 144 9 := R.1.2.1
    omega
  have c4 := CI.c4 (a := 41) I1.1 (by omega)
  have key : zP' (g_c_image σ) (fun _ s => s 74 4 = σ 41 4 ∧ (∀ k : Nat, 1 ≤ k → k ≤ 4 → ∀ j : Nat, j < 60 → s (74 + k) (j : Int) = σ (41 + k) (j : Int)) ∧ (∀ k : Nat, 5 ≤ k → k ≤ 6 → ∀ j : Nat, j ≤ 32 → s (74 + k) (j : Int) = σ (41 + k) (j : Int)) ∧ s 96 1 = σ 63 1 ∧ s 98 5 = σ 65 5 ∧ (∀ t : Nat, t < 10 → (t : Int) < σ 63 1 → s 97 (t : Int) = σ 64 (t : Int)) ∧ (∀ k : Nat, 25 ≤ k → k ≤ 27 → ∀ j : Nat, j < 6 → s (74 + k) (j : Int) = σ (41 + k) (j : Int)) ∧ (∀ a j, (a < 73 ∨ 104 ≤ a) → a < 106 → (a ≠ 39 ∨ j ≠ 2) → s a j = σ a j) ∧ s 39 2 = 1) := by
    unfold g_c_image
    refine zP'.bind (p_st_img I1.1 ht) (fun _ t p => ?_)
    obtain ⟨p1, p2, p3, p4, p5, pa, pb, p6⟩ := p
    try dsimp +instances only
    refine zP'.ret ⟨by (try dsimp only); rw [zu_a (by decide)]; exact p1, fun k h1 h2 j hj => by (try dsimp only); rw [zu_a (by omega)]; exact p2 k h1 h2 j hj, fun k h1 h2 j hj => by (try dsimp only); rw [zu_a (by omega)]; exact p3 k h1 h2 j hj, by (try dsimp only); rw [zu_a (by decide)]; exact p4, by (try dsimp only); rw [zu_a (by decide)]; exact p5, fun t0 h1 h2 => by (try dsimp only); rw [zu_a (by decide)]; exact pa t0 h1 h2, fun k h1 h2 j hj => by (try dsimp only); rw [zu_a (by omega)]; exact pb k h1 h2 j hj, fun a j h h2 h3 => by (try dsimp only); rw [zu_c h3]; exact p6 a j h h2, zu_e rfl⟩
  obtain ⟨k1, k2, k3, k4, k5, ka, kb, k6, k7⟩ := key v s1 e1
  obtain ⟨H1, G1, -⟩ := zP'.of (g_c_image_sp I1.1) v s1 e1
  have ref : ∀ x j, 143 ≤ x → x < 168 → s1 x j = σ x j := fun x j h1 h2 => G1 x j (Or.inl ⟨h1, h2⟩)
  have e2' := e2
  unfold g_m_image at e2'
  rw [s_keeps (a := 145) (b := 148) (by decide)] at e2'
  rw [Option.bind_some] at e2'
  dsimp only at e2'
  cases e2'
  have q : ∀ a j, a ≠ 145 → a ≠ 148 → ¬ (a = 143 ∧ j = 6) → zu (kpS s1 145 148) 143 6 1 a j = s1 a j := fun a j h1 h2 h3 => by
    rw [zu_c (by omega)]
    unfold kpS
    rw [if_neg (fun e => h1 e.1), if_neg (fun e => h2 e.1)]
  have q5 : ∀ j : Int, 0 ≤ j → j < 2740 → zu (kpS s1 145 148) 143 6 1 145 j = s1 144 j := fun j h1 h2 => by
    rw [zu_a (by decide)]
    unfold kpS
    rw [if_pos ⟨rfl, h1, h2⟩]
  have q8 : ∀ j : Int, 0 ≤ j → j < 361 → zu (kpS s1 145 148) 143 6 1 148 j = s1 147 j := fun j h1 h2 => by
    rw [zu_a (by decide)]
    unfold kpS
    rw [if_neg (fun e => absurd e.1 (by decide)), if_pos ⟨rfl, h1, h2⟩]
  refine ⟨?_, ?_, fun _ => ?_⟩
  · refine BK_mv R.1 c4 ?_ (fun k h1 h2 j hj => ?_) (fun k h1 h2 j hj => ?_) ?_ ?_ (fun t0 h1 h2 => ?_) (fun k h1 h2 j hj => ?_) (fun j hj => ?_) (fun j h1 h2 => ?_)
    · rw [q 41 4 (by decide) (by decide) (by omega)]; exact k6 41 4 (by omega) (by omega) (by omega)
    · rw [q (41 + k) _ (by omega) (by omega) (by omega)]; exact k6 (41 + k) _ (by omega) (by omega) (by omega)
    · rw [q (41 + k) _ (by omega) (by omega) (by omega)]; exact k6 (41 + k) _ (by omega) (by omega) (by omega)
    · rw [q (41 + 22) 1 (by decide) (by decide) (by omega)]; exact k6 63 1 (by omega) (by omega) (by omega)
    · rw [q (41 + 24) 5 (by decide) (by decide) (by omega)]; exact k6 65 5 (by omega) (by omega) (by omega)
    · rw [q (41 + 23) _ (by decide) (by decide) (by omega)]; exact k6 64 _ (by omega) (by omega) (by omega)
    · rw [q (41 + k) _ (by omega) (by omega) (by omega)]; exact k6 (41 + k) _ (by omega) (by omega) (by omega)
    · rw [q 144 j (by decide) (by decide) (by omega)]; exact ref 144 j (by decide) (by decide)
    · rw [q 147 j (by decide) (by decide) (by omega)]; exact ref 147 j (by decide) (by decide)
  · rw [q 39 2 (by decide) (by decide) (by omega), k7, zu_e rfl]
  · refine BK_mv R.1 c4 ?_ (fun k h1 h2 j hj => ?_) (fun k h1 h2 j hj => ?_) ?_ ?_ (fun t0 h1 h2 => ?_) (fun k h1 h2 j hj => ?_) (fun j hj => ?_) (fun j h1 h2 => ?_)
    · rw [q 74 4 (by decide) (by decide) (by omega)]; exact k1
    · rw [q (74 + k) _ (by omega) (by omega) (by omega)]; exact k2 k h1 h2 j hj
    · rw [q (74 + k) _ (by omega) (by omega) (by omega)]; exact k3 k h1 h2 j hj
    · rw [q (74 + 22) 1 (by decide) (by decide) (by omega)]; exact k4
    · rw [q (74 + 24) 5 (by decide) (by decide) (by omega)]; exact k5
    · rw [q (74 + 23) _ (by decide) (by decide) (by omega)]; exact ka t0 h1 h2
    · rw [q (74 + k) _ (by omega) (by omega) (by omega)]; exact kb k h1 h2 j hj
    · rw [q5 j (by omega) (by omega)]; exact ref 144 j (by decide) (by decide)
    · rw [q8 j (by omega) (by omega)]; exact ref 147 j (by decide) (by decide)
theorem q_undo {σ : zS} (I : Inv2 σ) : two (g_c_undo σ) g_m_undo (fun _ _ s => Inv2 s) := by
  obtain ⟨I1, R⟩ := I
  obtain ⟨v, s1, e1, w, s2, e2, J⟩ := o_undo I1
  refine ⟨v, s1, e1, w, s2, e2, J, ?_⟩
  have c4' := CI.c4 (a := 74) I1.1 (by omega)
  obtain ⟨H1, G1, -⟩ := zP'.of (g_c_undo_sp I1.1) v s1 e1
  have ref : ∀ x j, 143 ≤ x → x < 168 → s1 x j = σ x j := fun x j h1 h2 => G1 x j (Or.inl ⟨h1, h2⟩)
  by_cases c : σ 143 6 ≠ 0
  · have Bi := R.2.2 c
    have ht : σ 96 1 ≤ 10 := by
      have h9 := (I1.2.1.2.2.2 c).2.2.2.2.1
      have h9 : 0 ≤ σ 145 9 ∧ σ 145 9 ≤ 10 := h9
      have R9 : σ 96 1 = σ 145 9 := Bi.2.1
      omega
    have hc : σ 39 2 ≠ 0 := R.2.1.mpr c
    have key : zP' (g_c_undo σ) (fun _ s => s 41 4 = σ 74 4 ∧ (∀ k : Nat, 1 ≤ k → k ≤ 4 → ∀ j : Nat, j < 60 → s (41 + k) (j : Int) = σ (74 + k) (j : Int)) ∧ (∀ k : Nat, 5 ≤ k → k ≤ 6 → ∀ j : Nat, j ≤ 32 → s (41 + k) (j : Int) = σ (74 + k) (j : Int)) ∧ s 63 1 = σ 96 1 ∧ s 65 5 = σ 98 5 ∧ (∀ t : Nat, t < 10 → (t : Int) < σ 96 1 → s 64 (t : Int) = σ 97 (t : Int)) ∧ (∀ k : Nat, 25 ≤ k → k ≤ 27 → ∀ j : Nat, j < 6 → s (41 + k) (j : Int) = σ (74 + k) (j : Int)) ∧ (∀ a j, (a < 40 ∨ 71 ≤ a) → a < 106 → s a j = σ a j)) := by
      unfold g_c_undo
      try dsimp only
      rw [if_pos hc]
      refine zP'.bind (p_st_und I1.1 ht) (fun _ t p => zP'.ret p)
    obtain ⟨k1, k2, k3, k4, k5, ka, kb, k6⟩ := key v s1 e1
    have r6 : s1 143 6 ≠ 0 := by rw [ref 143 6 (by decide) (by decide)]; exact c
    have e2' := e2
    unfold g_m_undo at e2'
    dsimp only at e2'
    rw [if_pos r6, s_back (a := 145) (b := 148) (by decide)] at e2'
    rw [Option.bind_some] at e2'
    dsimp only at e2'
    cases e2'
    have q : ∀ a j, a ≠ 144 → a ≠ 147 → bkS s1 145 148 a j = s1 a j := fun a j h1 h2 => by
      unfold bkS
      rw [if_neg (fun e => h1 e.1), if_neg (fun e => h2 e.1)]
    have q4 : ∀ j : Int, 0 ≤ j → j < 2740 → bkS s1 145 148 144 j = s1 145 j := fun j h1 h2 => by
      unfold bkS
      rw [if_pos ⟨rfl, h1, h2⟩]
    have q7 : ∀ j : Int, 0 ≤ j → j < 361 → bkS s1 145 148 147 j = s1 148 j := fun j h1 h2 => by
      unfold bkS
      rw [if_neg (fun e => absurd e.1 (by decide)), if_pos ⟨rfl, h1, h2⟩]
    have im : iE σ (bkS s1 145 148) := fun a j h => by
      rw [q a j (by omega) (by omega)]
      by_cases ca : a < 143
      · exact k6 a j (by omega) (by omega)
      · exact ref a j (by omega) (by omega)
    refine Rel_img I1.1 R im (BK_mv Bi c4' ?_ (fun k h1 h2 j hj => ?_) (fun k h1 h2 j hj => ?_) ?_ ?_ (fun t0 h1 h2 => ?_) (fun k h1 h2 j hj => ?_) (fun j hj => ?_) (fun j h1 h2 => ?_))
    · rw [q 41 4 (by decide) (by decide)]; exact k1
    · rw [q (41 + k) _ (by omega) (by omega)]; exact k2 k h1 h2 j hj
    · rw [q (41 + k) _ (by omega) (by omega)]; exact k3 k h1 h2 j hj
    · rw [q (41 + 22) 1 (by decide) (by decide)]; exact k4
    · rw [q (41 + 24) 5 (by decide) (by decide)]; exact k5
    · rw [q (41 + 23) _ (by decide) (by decide)]; exact ka t0 h1 h2
    · rw [q (41 + k) _ (by omega) (by omega)]; exact kb k h1 h2 j hj
    · rw [q4 j (by omega) (by omega)]; exact ref 145 j (by decide) (by decide)
    · rw [q7 j (by omega) (by omega)]; exact ref 148 j (by decide) (by decide)
  · have c0 : ¬ σ 39 2 ≠ 0 := fun h => c (R.2.1.mp h)
    have e1' := e1
    unfold g_c_undo at e1'
    dsimp only at e1'
    rw [if_neg c0] at e1'
    cases e1'
    have e2' := e2
    unfold g_m_undo at e2'
    dsimp only at e2'
    rw [if_neg c] at e2'
    cases e2'
    exact R
/-! the others -/
theorem q_row {a b : Int} {σ : zS} (I : Inv2 σ) : two (g_c_row a b σ) (g_m_row a b) (fun v w s => Inv2 s ∧ v = w) := ⟨_, σ, p_crow I.1.1 I.2, _, σ, t_row, I, rfl⟩
theorem q_worth {a : Int} {σ : zS} (I : Inv2 σ) : two (g_c_worth a σ) (g_m_worth a) (fun v w s => Inv2 s ∧ v = w) := ⟨_, σ, p_cworth I.1.1 I.2, _, σ, t_worth, I, rfl⟩
theorem q_spell {σ : zS} (I : Inv2 σ) : two (g_c_spell σ) g_m_spell (fun _ _ s => Inv2 s) := ft (two_k I.2 I.1.1 (tt (o_spell I.1)) (hc_i I.1 (g_c_spell_sp I.1.1) ⟨fun _ => ⟨rfl, rfl, rfl, rfl, rfl, rfl, rfl, rfl, rfl, rfl, rfl, rfl, rfl, rfl, rfl, rfl, rfl, rfl, rfl⟩, fun _ => ⟨rfl, rfl, rfl, rfl, rfl, rfl, rfl, rfl⟩⟩) (hm_k (mC (fun _ h => m_spell h)) (fun _ h => k_spell h)))
theorem q_explain {a b c d : Int} {σ : zS} (I : Inv2 σ) : two (g_c_explain a b c d σ) (g_m_explain a b c d) (fun _ _ s => Inv2 s) := ft (two_k I.2 I.1.1 (tt (o_explain I.1)) (hc_i I.1 (g_c_explain_sp I.1.1) ⟨fun _ => ⟨rfl, rfl, rfl, rfl, rfl, rfl, rfl, rfl, rfl, rfl, rfl, rfl, rfl, rfl, rfl, rfl, rfl, rfl, rfl⟩, fun _ => ⟨rfl, rfl, rfl, rfl, rfl, rfl, rfl, rfl⟩⟩) (hm_k (mC (fun _ h => m_explain h)) (fun _ h => k_explain h)))
theorem q0_query {a b c d e : Int} {σ : zS} (I : Inv2 σ) : two (g_c_query a b c d e σ) (g_m_query a b c d e) (fun _ _ s => Inv2 s) := ft (two_k I.2 I.1.1 (tt (o_query I.1)) (hc_i I.1 (g_c_query_sp I.1.1) ⟨fun _ => ⟨rfl, rfl, rfl, rfl, rfl, rfl, rfl, rfl, rfl, rfl, rfl, rfl, rfl, rfl, rfl, rfl, rfl, rfl, rfl⟩, fun _ => ⟨rfl, rfl, rfl, rfl, rfl, rfl, rfl, rfl⟩⟩) (hm_k (mC (fun _ h => m_query h)) (fun _ h => k_query h)))
theorem q_query {a b c d e : Int} {σ : zS} (I : Inv2 σ) : two (g_c_query a b c d e σ) (g_m_query a b c d e) (fun v w s => Inv2 s ∧ v = w) := by
  obtain ⟨v, s1, e1, w, s2, e2, J⟩ := q0_query (a := a) (b := b) (c := c) (d := d) (e := e) I
  refine ⟨v, s1, e1, w, s2, e2, J, ?_⟩
  obtain ⟨hv, -, -⟩ := p_query I.1.1 I.2.1.1.1 I.2.1.ok v s1 e1
  obtain ⟨-, G1, -⟩ := zP'.of (g_c_query_sp I.1.1) v s1 e1
  have q4 : s1 144 = σ 144 := funext (fun j => G1 144 j (Or.inl (by decide)))
  have q7 : s1 147 = σ 147 := funext (fun j => G1 147 j (Or.inl (by decide)))
  have M1 : MI s1 := MI_cls I.1.2.1 (fun x j h1 h2 => G1 x j (Or.inl ⟨h1, h2⟩))
  obtain ⟨s3, e3, -, -⟩ := t_query (m := a) (x0 := b) (x1 := c) (y0 := d) (y1 := e) M1.2.1 M1.1 (I.2.1.ok7 q7)
  rw [e2] at e3
  injection e3 with e3
  injection e3 with e3 _
  rw [hv, e3]
  unfold quC quR
  rw [q4, q7, val_eq I.2.1.1]
theorem q_probe {a b c d : Int} {σ : zS} (I : Inv2 σ) : two (g_c_probe a b c d σ) (g_m_probe a b c d) (fun _ _ s => Inv2 s) := ft (two_k I.2 I.1.1 (tt (o_probe I.1)) (hc_i I.1 (g_c_probe_sp I.1.1) ⟨fun _ => ⟨rfl, rfl, rfl, rfl, rfl, rfl, rfl, rfl, rfl, rfl, rfl, rfl, rfl, rfl, rfl, rfl, rfl, rfl, rfl⟩, fun _ => ⟨rfl, rfl, rfl, rfl, rfl, rfl, rfl, rfl⟩⟩) (hm_k (mC (fun _ h => m_probe h)) (fun _ h => k_probe h)))
theorem q_flush {σ : zS} (I : Inv2 σ) : two (g_c_flush σ) g_m_flush (fun _ _ s => Inv2 s) := ft (two_k I.2 I.1.1 (tt (o_flush I.1)) (hc_i I.1 (g_c_flush_sp I.1.1) ⟨fun _ => ⟨rfl, rfl, rfl, rfl, rfl, rfl, rfl, rfl, rfl, rfl, rfl, rfl, rfl, rfl, rfl, rfl, rfl, rfl, rfl⟩, fun _ => ⟨rfl, rfl, rfl, rfl, rfl, rfl, rfl, rfl⟩⟩) (hm_k (mC (fun _ h => m_flush h)) (fun _ h => k_flush h)))
theorem q_again {a b : Int} {σ : zS} (I : Inv2 σ) : two (g_c_again a b σ) (g_m_again a b) (fun _ _ s => Inv2 s) := ft (two_k I.2 I.1.1 (tt (o_again I.1)) (hc_i I.1 (g_c_again_sp I.1.1) ⟨fun _ => ⟨rfl, rfl, rfl, rfl, rfl, rfl, rfl, rfl, rfl, rfl, rfl, rfl, rfl, rfl, rfl, rfl, rfl, rfl, rfl⟩, fun _ => ⟨rfl, rfl, rfl, rfl, rfl, rfl, rfl, rfl⟩⟩) (hm_k (mC (fun _ h => m_again h)) (fun _ h => k_again h)))
theorem q_least {a : Int} {σ : zS} (I : Inv2 σ) : two (g_c_least a σ) (g_m_least a) (fun _ _ s => Inv2 s) := ft (two_k I.2 I.1.1 (tt (o_least I.1)) (hc_i I.1 (g_c_least_sp I.1.1) ⟨fun _ => ⟨rfl, rfl, rfl, rfl, rfl, rfl, rfl, rfl, rfl, rfl, rfl, rfl, rfl, rfl, rfl, rfl, rfl, rfl, rfl⟩, fun _ => ⟨rfl, rfl, rfl, rfl, rfl, rfl, rfl, rfl⟩⟩) (hm_k (mC (fun _ h => m_least h)) (fun _ h => k_least h)))
theorem q0_value {a : Int} {σ : zS} (I : Inv2 σ) : two (g_c_value a σ) (g_m_value a) (fun _ _ s => Inv2 s) := ft (two_k I.2 I.1.1 (tt (o_value I.1)) (hc_i I.1 (g_c_value_sp I.1.1) ⟨fun _ => ⟨rfl, rfl, rfl, rfl, rfl, rfl, rfl, rfl, rfl, rfl, rfl, rfl, rfl, rfl, rfl, rfl, rfl, rfl, rfl⟩, fun _ => ⟨rfl, rfl, rfl, rfl, rfl, rfl, rfl, rfl⟩⟩) (hm_k (mC (fun _ h => m_value h)) (fun _ h => k_value h)))
theorem q_value {a : Int} {σ : zS} (I : Inv2 σ) : two (g_c_value a σ) (g_m_value a) (fun v w s => Inv2 s ∧ v = w) := by
  obtain ⟨v, s1, e1, w, s2, e2, J⟩ := q0_value (a := a) I
  refine ⟨v, s1, e1, w, s2, e2, J, ?_⟩
  have hv := p_cvalue I.1.1 I.2.1.1.1 I.2.1.wc I.2.1.ok v s1 e1
  obtain ⟨-, G1, -⟩ := zP'.of (g_c_value_sp I.1.1) v s1 e1
  have q4 : s1 144 = σ 144 := funext (fun j => G1 144 j (Or.inl (by decide)))
  have q7 : s1 147 = σ 147 := funext (fun j => G1 147 j (Or.inl (by decide)))
  have h10 := I.1.2.1.2.1.2.2.2.2.1
  obtain ⟨s3, e3⟩ := t_cvalue (σ := s1) (B := bxs σ) (k := a) (by rw [q4]; exact h10) (fun r hr => by rw [q4]; exact I.1.2.1.2.1.2.2.2.2.2.2 r hr) (I.2.1.wr q4) (I.2.1.ok7 q7)
  rw [e2] at e3
  injection e3 with e3
  injection e3 with e3 _
  have b3 : σ 65 5 = σ 144 10 := I.2.1.2.2.1
  rw [hv, e3, b3, q4]
  by_cases c : 0 ≤ a ∧ a < σ 144 10
  · obtain ⟨-, -, -, g4, -, -⟩ := I.2.1.2.2.2.2 a.toNat (by omega) (by omega)
    have g4 : σ 66 ((a.toNat : Nat) : Int) = σ 144 (300 + 6 * ((a.toNat : Nat) : Int)) := g4
    rw [if_pos c, if_pos c]
    unfold VR
    rw [q4, q7, val_eq I.2.1.1, ← g4, show ((a.toNat : Nat) : Int) = a by omega]
  · rw [if_neg c, if_neg c]
theorem q_setting {a : Int} {σ : zS} (I : Inv2 σ) : two (g_c_setting a σ) (g_m_setting a) (fun _ _ s => Inv2 s) := ft (two_k I.2 I.1.1 (tt (o_setting I.1)) (hc_p I.1 (g_c_setting_sp I.1.1)) (hm_k (mP (fun _ _ => m_setting)) (k_same (fun _ _ => m_setting))))
theorem q_answer {a : Int} {σ : zS} (I : Inv2 σ) : two (g_c_answer a σ) (g_m_answer a) (fun _ _ s => Inv2 s) := ft (two_k I.2 I.1.1 (tt (o_answer I.1)) (hc_p I.1 (g_c_answer_sp I.1.1)) (hm_k (mP (fun _ h => m_answer h)) (k_same (fun _ h => m_answer h))))
theorem q_paper {a : Int} {σ : zS} (I : Inv2 σ) : two (g_c_paper a σ) (g_m_paper a) (fun _ _ s => Inv2 s) := ft (two_k I.2 I.1.1 (tt (o_paper I.1)) (hc_p I.1 (g_c_paper_sp I.1.1)) (hm_k (mP (fun _ h => m_paper h)) (k_same (fun _ h => m_paper h))))
theorem q_find {a : Int} {σ : zS} (I : Inv2 σ) : two (g_c_find a σ) (g_m_find a) (fun _ _ s => Inv2 s) := ft (two_k I.2 I.1.1 (tt (o_find I.1)) (hc_p I.1 (g_c_find_sp I.1.1)) (hm_k (mP (fun _ h => m_find h)) (k_same (fun _ h => m_find h))))
theorem q_piece {a b : Int} {σ : zS} (I : Inv2 σ) : two (g_c_piece a b σ) (g_m_piece a b) (fun _ _ s => Inv2 s) := ft (two_k I.2 I.1.1 (tt (o_piece I.1)) (hc_p I.1 (g_c_piece_sp I.1.1)) (hm_k (mP (fun _ h => m_piece h)) (k_same (fun _ h => m_piece h))))
theorem q_region {a b : Int} {σ : zS} (I : Inv2 σ) : two (g_c_region a b σ) (g_m_region_248 a b) (fun _ _ s => Inv2 s) := ft (two_k I.2 I.1.1 (tt (o_region I.1)) (hc_p I.1 (g_c_region_sp I.1.1)) (hm_k (mP (fun _ h => m_region h)) (k_same (fun _ h => m_region h))))
theorem q_weight {a : Int} {σ : zS} (I : Inv2 σ) : two (g_c_weight a σ) (g_m_weight a) (fun _ _ s => Inv2 s) := ft (two_k I.2 I.1.1 (tt (o_weight I.1)) (hc_p I.1 (g_c_weight_sp I.1.1)) (hm_k (mP (fun _ h => m_weight h)) (k_same (fun _ h => m_weight h))))
theorem q_told {a : Int} {σ : zS} (I : Inv2 σ) : two (g_c_told a σ) (g_m_told a) (fun _ _ s => Inv2 s) := ft (two_k I.2 I.1.1 (tt (o_told I.1)) (hc_p I.1 (g_c_told_sp I.1.1)) (hm_k (mP (fun _ h => m_told h)) (k_same (fun _ h => m_told h))))
theorem q_keep {a : Int} {σ : zS} (I : Inv2 σ) : two (g_c_keep a σ) (g_m_keep a) (fun _ _ s => Inv2 s) := ft (two_k I.2 I.1.1 (tt (o_keep I.1)) (hc_p I.1 (g_c_keep_sp I.1.1)) (hm_k (mP (fun _ h => m_keep h)) (k_same (fun _ h => m_keep h))))
theorem q0_changes {a : Int} {σ : zS} (I : Inv2 σ) : two (g_c_changes a σ) (g_m_changes a) (fun _ _ s => Inv2 s) := ft (two_k I.2 I.1.1 (tt (o_changes I.1)) (hc_p I.1 (g_c_changes_sp I.1.1)) (hm_k (mP (fun _ h => m_changes h)) (k_same (fun _ h => m_changes h))))
theorem q_changes {a : Int} {σ : zS} (I : Inv2 σ) : two (g_c_changes a σ) (g_m_changes a) (fun v w s => Inv2 s ∧ v = w) := by
  have b3 : σ 65 5 = σ 144 10 := I.2.1.2.2.1
  refine ⟨_, σ, p_changes I.1.1, _, σ, t_changes I.1.2.1.2.1.2.2.2.2.1, I, ?_⟩
  rw [b3]
  by_cases c : 0 ≤ a ∧ a < σ 144 10
  · obtain ⟨-, -, -, -, -, g6⟩ := I.2.1.2.2.2.2 a.toNat (by have := I.1.2.1.2.1.2.2.2.2.1; omega) (by omega)
    have g6 : σ 68 ((a.toNat : Nat) : Int) = σ 144 (305 + 6 * ((a.toNat : Nat) : Int)) := g6
    rw [show ((a.toNat : Nat) : Int) = a by omega] at g6
    rw [if_pos c, if_pos c]
    exact g6
  · rw [if_neg c, if_neg c]
theorem q_get {a b : Int} {σ : zS} (I : Inv2 σ) : two (g_c_get a b σ) (g_m_get a b) (fun _ _ s => Inv2 s) := ft (two_k I.2 I.1.1 (tt (o_get I.1)) (hc_p I.1 (g_c_get_sp I.1.1)) (hm_k (mP (fun _ h => m_get h)) (k_same (fun _ h => m_get h))))
theorem q_lay {a b : Int} {σ : zS} (hb : -2147483648 ≤ b ∧ b < 2147483648) (I : Inv2 σ) : two (g_c_lay a b σ) (g_m_lay a b) (fun _ _ s => Inv2 s) := ft (two_k I.2 I.1.1 (tt (o_lay hb I.1)) (hc_i I.1 (g_c_lay_sp I.1.1) ⟨fun _ => ⟨rfl, rfl, rfl, rfl, rfl, rfl, rfl, rfl, rfl, rfl, rfl, rfl, rfl, rfl, rfl, rfl, rfl, rfl, rfl⟩, fun _ => ⟨rfl, rfl, rfl, rfl, rfl, rfl, rfl, rfl⟩⟩) (hm_k (fun s h => by
  obtain ⟨w, s2, e, h1, h2⟩ := m_lay (l := a) h hb
  exact ⟨w, s2, e, h1, h2.i⟩) (fun _ h => k_lay hb h)))
theorem q_judge {a b : Int} {σ : zS} (hb : -2147483648 ≤ b ∧ b < 2147483648) (I : Inv2 σ) : two (g_c_judge a b σ) (g_m_judge a b) (fun _ _ s => Inv2 s) := ft (two_k I.2 I.1.1 (tt (o_judge hb I.1)) (hc_p I.1 (g_c_judge_sp I.1.1)) (hm_k (mP (fun _ h => m_judge h hb)) (k_same (fun _ h => m_judge h hb))))
theorem q_settings {σ : zS} (I : Inv2 σ) : two (g_c_settings σ) g_m_settings (fun _ _ s => Inv2 s) := ft (two_k I.2 I.1.1 (tt (o_settings I.1)) (hc_i I.1 (g_c_settings_sp I.1.1) ⟨fun _ => ⟨rfl, rfl, rfl, rfl, rfl, rfl, rfl, rfl, rfl, rfl, rfl, rfl, rfl, rfl, rfl, rfl, rfl, rfl, rfl⟩, fun _ => ⟨rfl, rfl, rfl, rfl, rfl, rfl, rfl, rfl⟩⟩) (fun s hs => by
  obtain ⟨w, s2, e, -, -, h⟩ := m_settings hs
  exact ⟨w, s2, e, zP'.of (k_settings hs) w s2 e, fun a j k => h a j (by omega)⟩))
theorem q_run {σ : zS} (I : Inv2 σ) : two (g_c_run σ) g_m_run (fun _ _ s => Inv2 s) := ft (two_k I.2 I.1.1 (tt (o_run I.1)) (hc_i I.1 (g_c_run_sp I.1.1) ⟨fun _ => ⟨rfl, rfl, rfl, rfl, rfl, rfl, rfl, rfl, rfl, rfl, rfl, rfl, rfl, rfl, rfl, rfl, rfl, rfl, rfl⟩, fun _ => ⟨rfl, rfl, rfl, rfl, rfl, rfl, rfl, rfl⟩⟩) (fun s hs => by
  obtain ⟨w, s2, e, -, -, h⟩ := m_run hs
  exact ⟨w, s2, e, zP'.of (k_run hs) w s2 e, fun a j k => h a j (by omega)⟩))
theorem q_load {σ : zS} (I : Inv2 σ) : two (g_c_load σ) g_m_load (fun _ _ s => Inv2 s) := ft (two_k I.2 I.1.1 (tt (o_load I.1)) (hc_i I.1 (g_c_load_sp I.1.1) ⟨fun _ => ⟨rfl, rfl, rfl, rfl, rfl, rfl, rfl, rfl, rfl, rfl, rfl, rfl, rfl, rfl, rfl, rfl, rfl, rfl, rfl⟩, fun _ => ⟨rfl, rfl, rfl, rfl, rfl, rfl, rfl, rfl⟩⟩) (fun s hs => by
  obtain ⟨w, s2, e, -, -, h⟩ := m_load hs
  exact ⟨w, s2, e, zP'.of (k_load hs) w s2 e, fun a j k => h a j (by omega)⟩))
theorem q_clear {σ : zS} (I : Inv2 σ) : two (g_c_clear σ) g_m_clear (fun v w s => Inv2 s ∧ v = w) := two_k I.2 I.1.1 (o_clear I.1) (hc_i I.1 (g_c_clear_sp I.1.1) ⟨fun _ => ⟨rfl, rfl, rfl, rfl, rfl, rfl, rfl, rfl, rfl, rfl, rfl, rfl, rfl, rfl, rfl, rfl, rfl, rfl, rfl⟩, fun _ => ⟨rfl, rfl, rfl, rfl, rfl, rfl, rfl, rfl⟩⟩) (fun s hs => by
  obtain ⟨s2, e, -, -, h⟩ := m_clear hs
  exact ⟨_, s2, e, zP'.of (k_clear hs) _ s2 e, fun a j k => h a j (by omega)⟩)
theorem q_feed {x : Int} {σ : zS} (I : Inv2 σ) : two (g_c_feed x σ) (g_m_feed x) (fun v w s => Inv2 s ∧ v = w) := two_k I.2 I.1.1 (o_feed I.1) (hc_i I.1 (g_c_feed_sp I.1.1) ⟨fun _ => ⟨rfl, rfl, rfl, rfl, rfl, rfl, rfl, rfl, rfl, rfl, rfl, rfl, rfl, rfl, rfl, rfl, rfl, rfl, rfl⟩, fun _ => ⟨rfl, rfl, rfl, rfl, rfl, rfl, rfl, rfl⟩⟩) (fun s hs => by
  obtain ⟨s2, e, -, -, h⟩ := m_feed (x := x) hs
  exact ⟨_, s2, e, zP'.of (k_feed hs) _ s2 e, fun a j k => h a j (by omega) (by omega)⟩)
theorem q_set {l i v0 : Int} {σ : zS} (I : Inv2 σ) : two (g_c_set l i v0 σ) (g_m_set l i v0) (fun v w s => Inv2 s ∧ v = w) := two_k I.2 I.1.1 (o_set I.1) (hc_i I.1 (g_c_set_sp I.1.1) ⟨fun _ => ⟨rfl, rfl, rfl, rfl, rfl, rfl, rfl, rfl, rfl, rfl, rfl, rfl, rfl, rfl, rfl, rfl, rfl, rfl, rfl⟩, fun _ => ⟨rfl, rfl, rfl, rfl, rfl, rfl, rfl, rfl⟩⟩) (fun s hs => by
  obtain ⟨s2, e, -, h⟩ := m_set (l := l) (i := i) (v := v0) hs
  exact ⟨_, s2, e, zP'.of (k_set hs) _ s2 e, fun a j k => h a j (by omega)⟩)
theorem q_list {l x : Int} {σ : zS} (I : Inv2 σ) : two (g_c_list l x σ) (g_m_list l x) (fun v w s => Inv2 s ∧ v = w) := two_k I.2 I.1.1 (o_list I.1) (hc_i I.1 (g_c_list_sp I.1.1) ⟨fun _ => ⟨rfl, rfl, rfl, rfl, rfl, rfl, rfl, rfl, rfl, rfl, rfl, rfl, rfl, rfl, rfl, rfl, rfl, rfl, rfl⟩, fun _ => ⟨rfl, rfl, rfl, rfl, rfl, rfl, rfl, rfl⟩⟩) (fun s hs => by
  obtain ⟨s2, e, -, h, -⟩ := m_list (l := l) (x := x) hs
  exact ⟨_, s2, e, zP'.of (k_list hs) _ s2 e, fun a j k => h a j (by omega)⟩)
theorem q_move {l i o j x : Int} {σ : zS} (hi : i < 2147483648) (hj : j < 2147483648) (I : Inv2 σ) : two (g_c_move l i o j x σ) (g_m_move l i o j x) (fun v w s => Inv2 s ∧ v = w) := two_k I.2 I.1.1 (o_move hi hj I.1) (hc_i I.1 (g_c_move_sp I.1.1) ⟨fun _ => ⟨rfl, rfl, rfl, rfl, rfl, rfl, rfl, rfl, rfl, rfl, rfl, rfl, rfl, rfl, rfl, rfl, rfl, rfl, rfl⟩, fun _ => ⟨rfl, rfl, rfl, rfl, rfl, rfl, rfl, rfl⟩⟩) (fun s hs => by
  obtain ⟨s2, e, -, h⟩ := m_move (l := l) (i := i) (o := o) (j0 := j) (x := x) hs hi hj
  exact ⟨_, s2, e, zP'.of (k_move hi hj hs) _ s2 e, fun a j' k => h a j' (by omega)⟩)
/-! the start -/
theorem Inv2_s0 : Inv2 s0 := by
  refine ⟨Inv_s0, ?_⟩
  have z : ∀ a : Nat, s0rng a 0 0 = true → a ≠ 169 → ∀ j, s0 a j = 0 := fun a h ha j => by
    have h := s0_in h (by decide) ha j
    omega
  have r0 : ∀ i : Fin 60, s0 144 (20 + 3 * ((i.val : Nat) : Int)) = 0 ∧ s0 144 (21 + 3 * ((i.val : Nat) : Int)) = 0 ∧ s0 144 (22 + 3 * ((i.val : Nat) : Int)) = 0 ∧ s0 147 (1 + ((i.val : Nat) : Int)) = 0 := by decide +kernel
  have eI : inS s0 144 = fun _ => false := by
    funext r
    unfold inS
    refine decide_eq_false (fun h => ?_)
    have := (r0 ⟨r, h.1⟩).1
    have h2 := h.2
    rw [this] at h2
    exact absurd h2 (by decide)
  have h6 : s0 143 6 = 0 := by decide +kernel
  refine ⟨⟨⟨⟨?_, ?_, ?_, ?_⟩, fun r hr => ?_⟩, by decide +kernel, by decide +kernel, fun t _ h => ?_, fun k _ h => ?_⟩, ?_, fun h => absurd h6 h⟩
  · rw [eI]; intro r h; cases h
  · rw [eI]
    intro i r hi hr
    rw [z 46 (by decide +kernel) (by decide), z 47 (by decide +kernel) (by decide), bq_0]
    exact ⟨rfl, rfl⟩
  · have h : s0 41 4 = 0 := by decide +kernel
    unfold ordL
    rw [h]
    exact List.Pairwise.nil
  · rw [eI]
    intro v
    have h : s0 41 4 = 0 := by decide +kernel
    unfold ordL
    rw [h]
    exact ⟨fun hh => (by cases hh), fun ⟨_, _, hh⟩ => (by cases hh)⟩
  · obtain ⟨g1, g2, g3, g4⟩ := r0 ⟨r, hr⟩
    have g1 : s0 144 (20 + 3 * (r : Int)) = 0 := g1
    have g2 : s0 144 (21 + 3 * (r : Int)) = 0 := g2
    have g3 : s0 144 (22 + 3 * (r : Int)) = 0 := g3
    have g4 : s0 147 (1 + (r : Int)) = 0 := g4
    rw [g1, g2, g3, g4, z 42 (by decide +kernel) (by decide), z 43 (by decide +kernel) (by decide), z 44 (by decide +kernel) (by decide)]
    exact ⟨Or.inl rfl, rfl, rfl, rfl, by decide⟩
  · have h9 : s0 144 9 = 0 := by decide +kernel
    rw [h9] at h
    exact absurd h (by omega)
  · have h9 : s0 144 10 = 0 := by decide +kernel
    rw [h9] at h
    exact absurd h (by omega)
  · have h2 : s0 39 2 = 0 := by decide +kernel
    exact ⟨fun h => absurd h2 h, fun h => absurd h6 h⟩
end
section
/-! 67.frames -/
/-! WHAT THE REFERENCE'S CALLS LEAVE AS IT WAS, in full -/
theorem f_spell {σ : zS} (h : MI σ) : zP' (g_m_spell σ) (fun _ s => ∀ a j, a ≠ 163 → (a ≠ 143 ∨ j ≠ 29) → s a j = σ a j) := by
  obtain ⟨N, hN2, hN, -⟩ := h.1
  unfold g_m_spell
  try dsimp only
  have q29 : zu σ 143 29 0 143 29 = 0 := zu_e rfl
  obtain ⟨v, s, e1, e2⟩ := s_spell7 hN2 N 0 zK (zu σ 143 29 0) (by omega) (by show _ < 1000000; omega) (by rw [zu_a (by decide)]; exact hN) (by omega) (by omega)
  exact zP'.of ⟨v, s, e1, fun a j k1 k2 => by rw [e2.1 a j (by omega) (by omega), zu_c (by omega)]⟩
theorem f_explain {x0 x1 y0 y1 : Int} {σ : zS} (h : MI σ) : zP' (g_m_explain x0 x1 y0 y1 σ) (fun _ s => ∀ a j, a ≠ 163 → (a ≠ 143 ∨ (j ≠ 10 ∧ j ≠ 29)) → a ≠ 150 → a ≠ 151 → a ≠ 152 → a ≠ 153 → s a j = σ a j) := by
  unfold g_m_explain
  by_cases c : bOk (x0, x1, y0, y1)
  · rw [s_isBox_t c]
    rw [Option.bind_some]
    try dsimp only
    rw [if_pos (by decide), s_sets (by omega) (by rw [l152]; omega) (by rw [l152]; omega)]
    rw [Option.bind_some]
    try dsimp only
    generalize hs0 : zb σ 152 0 (x0, x1, y0, y1) = s0'
    have q0 : ∀ a j, a ≠ 152 → s0' a j = σ a j := fun a j k1 => by rw [← hs0, zb_a k1]
    obtain ⟨s1, M, N, e1, e2, e3, e4, e5, e6⟩ := s_missM (σ := s0') c (by rw [← hs0]; exact zb_bx rfl) (NI_fr h.1 (fun j _ => q0 144 j (by decide)))
    rw [e1]
    rw [Option.bind_some]
    try dsimp only
    have q1 : ∀ a j, a ≠ 150 → a ≠ 151 → (a ≠ 143 ∨ j ≠ 10) → a ≠ 152 → s1 a j = σ a j := fun a j k1 k2 k3 k4 => (e2 a j k1 k2 k3).trans (q0 a j k4)
    have q29 : zu s1 143 29 0 143 29 = 0 := zu_e rfl
    obtain ⟨v, s', g1, g2⟩ := s_exp39 (M := M) (N := N) (by omega) e6 N 0 zK (zu s1 143 29 0) (by omega) (by show _ < 1000000; omega) (by rw [zu_a (by decide), e2 144 0 (by decide) (by decide) (by decide)]; exact e5) (by rw [zu_i (by decide)]; exact e3) (by omega) (by omega)
    exact zP'.of ⟨v, s', g1, fun a j k1 k2 k3 k4 k5 k6 => by rw [g2.1 a j (by omega) (by omega) (by omega), zu_c (by omega), q1 a j (by omega) (by omega) (by omega) (by omega)]⟩
  · rw [s_isBox_f c]
    rw [Option.bind_some]
    try dsimp only
    rw [if_neg (by decide)]
    exact zP'.ret (fun _ _ _ _ _ _ _ _ => rfl)
theorem f_probe {x0 x1 y0 y1 : Int} {σ : zS} (h : MI σ) : zP' (g_m_probe x0 x1 y0 y1 σ) (fun _ s => ∀ a j, a ≠ 165 → (a ≠ 143 ∨ (j ≠ 10 ∧ j ≠ 32)) → a ≠ 150 → a ≠ 151 → a ≠ 152 → s a j = σ a j) := by
  unfold g_m_probe
  by_cases c : bOk (x0, x1, y0, y1)
  · rw [s_isBox_t c]
    rw [Option.bind_some]
    try dsimp only
    rw [if_pos (by decide), s_sets (by omega) (by rw [l152]; omega) (by rw [l152]; omega)]
    rw [Option.bind_some]
    try dsimp only
    generalize hs0 : zb σ 152 0 (x0, x1, y0, y1) = s0'
    have q0 : ∀ a j, a ≠ 152 → s0' a j = σ a j := fun a j k1 => by rw [← hs0, zb_a k1]
    obtain ⟨s1, M, N, e1, e2, e3, e4, e5, e6⟩ := s_missM (σ := s0') c (by rw [← hs0]; exact zb_bx rfl) (NI_fr h.1 (fun j _ => q0 144 j (by decide)))
    rw [e1]
    rw [Option.bind_some]
    try dsimp only
    have q1 : ∀ a j, a ≠ 150 → a ≠ 151 → (a ≠ 143 ∨ j ≠ 10) → a ≠ 152 → s1 a j = σ a j := fun a j k1 k2 k3 k4 => (e2 a j k1 k2 k3).trans (q0 a j k4)
    obtain ⟨v, s', g1, g2, g3⟩ := s_probe39 (M := M) (N := N) (by omega) e6 N 0 zK (zu s1 143 32 0) 0 (by omega) (by show _ < 1000000; omega) (by rw [zu_a (by decide), e2 144 0 (by decide) (by decide) (by decide)]; exact e5) (by rw [zu_i (by decide)]; exact e3) (zu_e rfl) (by omega)
    exact zP'.of ⟨v, s', g1, fun a j k1 k2 k3 k4 k5 => by rw [g3 a j (by omega) (by omega), zu_c (by omega), q1 a j (by omega) (by omega) (by omega) (by omega)]⟩
  · rw [s_isBox_f c]
    rw [Option.bind_some]
    try dsimp only
    rw [if_neg (by decide)]
    exact zP'.ret (fun _ _ _ _ _ _ _ => rfl)
theorem f_query {x x0 x1 y0 y1 : Int} {σ : zS} (h : MI σ) : zP' (g_m_query x x0 x1 y0 y1 σ) (fun _ s => ∀ a j, a ≠ 152 → (a ≠ 144 ∨ (9 ≤ j ∧ j < 200) ∨ (260 ≤ j ∧ j < 340)) → (a ≠ 147 ∨ (1 ≤ j ∧ j < 61)) → a ≠ 150 → a ≠ 151 → a ≠ 153 → a ≠ 154 → a ≠ 155 → (a ≠ 143 ∨ (j ≠ 10 ∧ j ≠ 14 ∧ j ≠ 15 ∧ j ≠ 21 ∧ j ≠ 22 ∧ j ≠ 23)) → s a j = σ a j) := by
  obtain ⟨v, s, e1, -, -, e4⟩ := s_query (x := x) (x0 := x0) (x1 := x1) (y0 := y0) (y1 := y1) h.2.1 h.1
  rw [e1]
  exact zP'.ret e4
theorem f_flush {σ : zS} : zP' (g_m_flush σ) (fun _ s => ∀ a j, (a ≠ 144 ∨ j ≠ 0) → s a j = σ a j) := zP'.ret (fun a j k => zu_c k)
theorem f_again {x y : Int} {σ : zS} (h : MI σ) : zP' (g_m_again x y σ) (fun _ s => ∀ a j, (a ≠ 144 ∨ (0 ≤ j ∧ j < 2740)) → (a ≠ 147 ∨ (0 ≤ j ∧ j < 361)) → a ≠ 146 → a ≠ 149 → a ≠ 150 → a ≠ 151 → a ≠ 152 → a ≠ 153 → (a ≠ 143 ∨ j ≠ 10) → s a j = σ a j) := by
  obtain ⟨v, s, e, e1, e2, e3⟩ := s_again (x := x) (y := y) h.2.1
  rw [e]
  refine zP'.ret (fun a j k1 k2 k3 k4 k5 k6 k7 k8 k9 => ?_)
  by_cases c4 : a = 144
  · subst c4
    have hj := k1.resolve_left (fun h => h rfl)
    exact e1 j hj.1 hj.2
  · by_cases c7 : a = 147
    · subst c7
      have hj := k2.resolve_left (fun h => h rfl)
      exact e2 j hj.1 hj.2
    · exact e3 a j c4 c7 k3 k4 k5 k6 k7 k8 k9
theorem f_least {x : Int} {σ : zS} (h : MI σ) : zP' (g_m_least x σ) (fun _ s => ∀ a j, (a ≠ 144 ∨ (0 ≤ j ∧ j < 2740)) → (a ≠ 147 ∨ (0 ≤ j ∧ j < 361)) → a ≠ 146 → a ≠ 149 → a ≠ 150 → a ≠ 151 → a ≠ 152 → a ≠ 153 → (a ≠ 143 ∨ j ≠ 10) → s a j = σ a j) := by
  obtain ⟨v, s, e, e1, e2, e3⟩ := s_least (x := x) h.2.1
  rw [e]
  refine zP'.ret (fun a j k1 k2 k3 k4 k5 k6 k7 k8 k9 => ?_)
  by_cases c4 : a = 144
  · subst c4
    have hj := k1.resolve_left (fun h => h rfl)
    exact e1 j hj.1 hj.2
  · by_cases c7 : a = 147
    · subst c7
      have hj := k2.resolve_left (fun h => h rfl)
      exact e2 j hj.1 hj.2
    · exact e3 a j c4 c7 k3 k4 k5 k6 k7 k8 k9
theorem f_value {x : Int} {σ : zS} (h : MI σ) : zP' (g_m_value x σ) (fun _ s => frG σ s) := by
  obtain ⟨v, s, e, e1⟩ := s_value (k := x) h.2.1.2.2.2.2.1
  rw [e]
  exact zP'.ret e1
theorem f_put {r x y v : Int} {σ : zS} (h : MI σ) : zP' (g_m_put r x y v σ) (fun _ s => frP σ s) := by
  obtain ⟨c, s, e, -, -, e1⟩ := s_put (r := r) (x := x) (y := y) (v := v) h.2.1 h.1
  rw [e]
  exact zP'.ret e1
theorem f_take {r : Int} {σ : zS} (h : MI σ) : zP' (g_m_take r σ) (fun _ s => frP σ s) := by
  obtain ⟨c, s, e, -, -, e1⟩ := s_take (r := r) h.2.1 h.1
  rw [e]
  exact zP'.ret e1
theorem f_clear {σ : zS} (h : MI σ) : zP' (g_m_clear σ) (fun _ s => ∀ a j, (a ≠ 143 ∨ j ≠ 20) → s a j = σ a j) := by
  obtain ⟨s, e, -, -, e3⟩ := m_clear h
  rw [e]
  exact zP'.ret (fun a j k => e3 a j (by omega))
theorem f_feed {x : Int} {σ : zS} (h : MI σ) : zP' (g_m_feed x σ) (fun _ s => ∀ a j, a ≠ 159 → (a ≠ 143 ∨ j ≠ 20) → s a j = σ a j) := by
  obtain ⟨s, e, -, -, e3⟩ := m_feed (x := x) h
  rw [e]
  exact zP'.ret (fun a j k1 k2 => e3 a j k1 (by omega))
theorem f_list {l x : Int} {σ : zS} (h : MI σ) : zP' (g_m_list l x σ) (fun _ s => ∀ a j, a ≠ 166 → a ≠ 167 → s a j = σ a j) := by
  obtain ⟨s, e, -, e3, -⟩ := m_list (l := l) (x := x) h
  rw [e]
  exact zP'.ret (fun a j k1 k2 => e3 a j (by omega))
theorem f_set {l i v : Int} {σ : zS} (h : MI σ) : zP' (g_m_set l i v σ) (fun _ s => ∀ a j, a ≠ 167 → s a j = σ a j) := by
  obtain ⟨s, e, -, e3⟩ := m_set (l := l) (i := i) (v := v) h
  rw [e]
  exact zP'.ret e3
theorem f_move {l i o j0 x : Int} {σ : zS} (hi : i < 2147483648) (hj : j0 < 2147483648) (h : MI σ) : zP' (g_m_move l i o j0 x σ) (fun _ s => ∀ a j, a ≠ 167 → s a j = σ a j) := by
  obtain ⟨s, e, -, e3⟩ := m_move (l := l) (o := o) (x := x) h hi hj
  rw [e]
  exact zP'.ret e3
theorem f_lay {l i : Int} {σ : zS} (hi : -2147483648 ≤ i ∧ i < 2147483648) (h : MI σ) : zP' (g_m_lay l i σ) (fun _ s => ∀ a j, a ≠ 167 → s a j = σ a j) := by
  obtain ⟨v, s, e, -, e3⟩ := m_lay (l := l) h hi
  rw [e]
  exact zP'.ret e3
end
section
/-! 68.parse -/
/-! READING THE TAPE, told once for both sides: numbers and signs -/
def numF (f : Int → Int) (L : Int) : Nat → Int → Int → Int × Int
  | 0, p, v => (v, p)
  | w + 1, p, v => if p < L ∧ 48 ≤ f p ∧ f p ≤ 57 then numF f L w (p + 1) (10 * v + f p - 48) else (v, p)
/-- the class's tape: its length, its place; sound: no fault yet -/
def tpI (σ : zS) : Prop := (0 ≤ σ 120 1 ∧ σ 120 1 ≤ 160) ∧ (0 ≤ σ 120 2 ∧ σ 120 2 ≤ 160) ∧ ∀ j : Int, 0 ≤ j → j < σ 120 1 → 1 ≤ σ 121 j ∧ σ 121 j ≤ 127
def tpH (σ : zS) : Int := if σ 120 2 < σ 120 1 then σ 121 (σ 120 2) else 0
theorem p_here {σ : zS} (h : tpI σ) (hs : σ 120 3 = -1) : g_ta_here σ = some (tpH σ, σ) := by
  obtain ⟨h1, h2, h3⟩ := h
  unfold g_ta_here tpH
  try dsimp +instances only
  rw [if_neg (by omega), if_neg (by omega)]
  by_cases c : σ 120 1 ≤ σ 120 2
  · rw [if_pos c, if_neg (by omega)]
  · rw [if_neg c, if_neg (by omega), if_pos (by omega), if_pos (by omega)]
theorem p_here0 {σ : zS} (hs : σ 120 3 ≠ -1) : g_ta_here σ = some (0, σ) := by
  unfold g_ta_here
  try dsimp +instances only
  rw [if_pos hs]
theorem p_blame {x : Int} {σ : zS} : g_ta_blame x σ = some ((), if σ 120 3 = -1 then zu σ 120 3 x else σ) := by
  unfold g_ta_blame
  try dsimp +instances only
  by_cases c : σ 120 3 = -1
  · rw [if_neg (fun h => h c), if_pos c]
  · rw [if_pos c, if_neg c]
/-- only the place and the fault may change -/
def frTa (σ s : zS) : Prop := ∀ a j, (a ≠ 120 ∨ (j ≠ 2 ∧ j ≠ 3)) → s a j = σ a j
theorem frTa.refl (σ : zS) : frTa σ σ := fun _ _ _ => rfl
theorem frTa.trans {σ s t : zS} (h1 : frTa σ s) (h2 : frTa s t) : frTa σ t := fun a j k => (h2 a j k).trans (h1 a j k)
theorem frTa.u {σ : zS} {i v : Int} (h : i = 2 ∨ i = 3) : frTa σ (zu σ 120 i v) := fun a j k => zu_c (by omega)
theorem p_wants {x : Int} {σ : zS} (h : tpI σ) (hs : σ 120 3 = -1) (hx : 1 ≤ x) : zP' (g_ta_wants x σ) (fun _ s => frTa σ s ∧ (tpH σ = x → s 120 2 = σ 120 2 + 1 ∧ s 120 3 = -1) ∧ (tpH σ ≠ x → s 120 3 = σ 120 2)) := by
  unfold g_ta_wants
  rw [p_here h hs]
  rw [Option.bind_some]
  try dsimp +instances only
  by_cases c : tpH σ ≠ x
  · rw [if_pos c, p_blame, if_pos hs]
    rw [Option.bind_some]
    try dsimp +instances only
    exact zP'.ret ⟨frTa.u (Or.inr rfl), fun e => absurd e c, fun _ => zu_e rfl⟩
  · rw [if_neg c, w32_id (x := σ 120 2 + 1) (by have := h.2.1; omega) (by have := h.2.1; omega)]
    refine zP'.ret ⟨frTa.u (Or.inl rfl), fun _ => ⟨zu_e rfl, (zu_i (by decide)).trans hs⟩, fun e => absurd e c⟩
theorem p_num12 {w lo hi x4 : Int} : ∀ (n k : Nat) (v p : Int) (σ : zS), tpI σ → σ 120 3 = -1 → σ 120 2 = p → (k : Int) ≤ w → w ≤ 9 → 0 ≤ v → v < 1000000000 → (v + 1) * 10 ^ (w.toNat - k) ≤ 1000000000 → zP' (g_ta_number_L12 n w lo hi x4 v (k : Int) σ) (fun r s => frTa σ s ∧ r = (numF (σ 121) (σ 120 1) (w.toNat - k) p v).1 ∧ (((numF (σ 121) (σ 120 1) (w.toNat - k) p v).2 ≠ x4 ∧ lo ≤ r ∧ r ≤ hi → s 120 2 = (numF (σ 121) (σ 120 1) (w.toNat - k) p v).2 ∧ s 120 3 = -1) ∧ (¬ ((numF (σ 121) (σ 120 1) (w.toNat - k) p v).2 ≠ x4 ∧ lo ≤ r ∧ r ≤ hi) → s 120 3 = x4)))
  | 0, _, _, _, _, _, _, _, _, _, _, _, _ => zP'.no
  | n + 1, k, v, p, σ, h, hs, hp, hk, hw, hv, hv2, hb => by
    have fin : numF (σ 121) (σ 120 1) (w.toNat - k) p v = (v, p) → zP' (g_ta_number_L67 lo hi x4 v σ) (fun r s => frTa σ s ∧ r = (numF (σ 121) (σ 120 1) (w.toNat - k) p v).1 ∧ (((numF (σ 121) (σ 120 1) (w.toNat - k) p v).2 ≠ x4 ∧ lo ≤ r ∧ r ≤ hi → s 120 2 = (numF (σ 121) (σ 120 1) (w.toNat - k) p v).2 ∧ s 120 3 = -1) ∧ (¬ ((numF (σ 121) (σ 120 1) (w.toNat - k) p v).2 ≠ x4 ∧ lo ≤ r ∧ r ≤ hi) → s 120 3 = x4))) := fun e => by
      rw [e]
      have bad : ¬ (p ≠ x4 ∧ lo ≤ v ∧ v ≤ hi) → zP' (g_ta_number_L88 x4 v σ) (fun r s => frTa σ s ∧ r = v ∧ ((p ≠ x4 ∧ lo ≤ r ∧ r ≤ hi → s 120 2 = p ∧ s 120 3 = -1) ∧ (¬ (p ≠ x4 ∧ lo ≤ r ∧ r ≤ hi) → s 120 3 = x4))) := fun hn => by
        unfold g_ta_number_L88
        rw [p_blame, if_pos hs]
        rw [Option.bind_some]
        try dsimp +instances only
        exact zP'.ret ⟨frTa.u (Or.inr rfl), rfl, fun e => absurd e hn, fun _ => zu_e rfl⟩
      unfold g_ta_number_L67
      try dsimp +instances only
      rw [hp]
      refine zP'.ite (fun c => bad (fun h => h.1 c)) (fun c => zP'.ite (fun c2 => bad (fun h => by omega)) (fun c2 => zP'.ite (fun c3 => zP'.ret ⟨frTa.refl σ, rfl, fun _ => ⟨hp, hs⟩, fun hn => absurd ⟨c, by omega, c3⟩ hn⟩) (fun c3 => bad (fun h => c3 h.2.2))))
    unfold g_ta_number_L12
    refine zP'.ite (fun c => fin (by rw [show w.toNat - k = 0 by omega]; rfl)) (fun c => ?_)
    obtain ⟨m, hm⟩ : ∃ m, w.toNat - k = m + 1 := ⟨w.toNat - k - 1, by omega⟩
    have hm2 : w.toNat - (k + 1) = m := by omega
    rw [p_here h hs]
    rw [Option.bind_some]
    try dsimp +instances only
    have hstop : ¬ (p < σ 120 1 ∧ 48 ≤ σ 121 p ∧ σ 121 p ≤ 57) → numF (σ 121) (σ 120 1) (w.toNat - k) p v = (v, p) := fun hn => by
      rw [hm]
      exact if_neg hn
    have hH : tpH σ = if p < σ 120 1 then σ 121 p else 0 := by
      unfold tpH
      rw [hp]
    refine zP'.ite (fun c1 => fin (hstop (fun hn => by rw [hH, if_pos hn.1] at c1; omega))) (fun c1 => ?_)
    rw [p_here h hs]
    rw [Option.bind_some]
    try dsimp +instances only
    refine zP'.ite (fun c2 => fin (hstop (fun hn => by rw [hH, if_pos hn.1] at c2; omega))) (fun c2 => ?_)
    rw [p_here h hs]
    rw [Option.bind_some]
    try dsimp +instances only
    have hpl : p < σ 120 1 := by
      by_cases cp : p < σ 120 1
      · exact cp
      · rw [hH, if_neg cp] at c1
        exact absurd c1 (by omega)
    rw [hH, if_pos hpl] at c1 c2 ⊢
    have hstep : numF (σ 121) (σ 120 1) (w.toNat - k) p v = numF (σ 121) (σ 120 1) m (p + 1) (10 * v + σ 121 p - 48) := by
      rw [hm]
      exact if_pos ⟨hpl, by omega, by omega⟩
    have h2 := h.1
    have h3 := h.2.1
    have hpow : (v + 1) * 10 ^ (m + 1) ≤ 1000000000 := by rw [← hm]; exact hb
    have hpow1 : (1 : Int) ≤ 10 ^ m := by
      have : (0 : Int) < 10 ^ m := Int.pow_pos (by decide)
      omega
    have hv10 : (10 * v + 9 + 1) * 10 ^ m ≤ 1000000000 := by
      have e : (10 * v + 9 + 1) * (10 : Int) ^ m = (v + 1) * 10 ^ (m + 1) := by
        rw [Int.pow_succ, Int.mul_comm (10 ^ m) 10, ← Int.mul_assoc]
        congr 1
        omega
      rw [e]
      exact hpow
    have hle : 10 * v + 9 + 1 ≤ (10 * v + 9 + 1) * 10 ^ m := by
      have := Int.mul_le_mul_of_nonneg_left hpow1 (show 0 ≤ 10 * v + 9 + 1 by omega)
      omega
    rw [w32_id (x := v * 10) (by omega) (by omega), w32_id (x := v * 10 + σ 121 p) (by omega) (by omega), w32_id (x := v * 10 + σ 121 p - 48) (by omega) (by omega), w32_id (x := σ 120 2 + 1) (by omega) (by omega), w32_id (x := (k : Int) + 1) (by omega) (by omega), hp, show (k : Int) + 1 = ((k + 1 : Nat) : Int) by omega, show v * 10 + σ 121 p - 48 = 10 * v + σ 121 p - 48 by omega]
    generalize hz : zu σ 120 2 (p + 1) = s1
    have q : ∀ a j, (a ≠ 120 ∨ j ≠ 2) → s1 a j = σ a j := fun a j hh => by rw [← hz]; exact zu_c hh
    have q121 : s1 121 = σ 121 := funext (fun j => q 121 j (Or.inl (by decide)))
    have q1 : s1 120 1 = σ 120 1 := q 120 1 (Or.inr (by decide))
    have q2 : s1 120 2 = p + 1 := by rw [← hz]; exact zu_e rfl
    have hmul : (10 * v + σ 121 p - 48 + 1) * 10 ^ m ≤ 1000000000 := Int.le_trans (Int.mul_le_mul_of_nonneg_right (show 10 * v + σ 121 p - 48 + 1 ≤ 10 * v + 9 + 1 by omega) (by omega)) hv10
    have IH := p_num12 (w := w) (lo := lo) (hi := hi) (x4 := x4) n (k + 1) (10 * v + σ 121 p - 48) (p + 1) s1 ⟨by rw [q1]; exact h2, by rw [q2]; omega, by rw [q1, q121]; exact h.2.2⟩ (by rw [q 120 3 (Or.inr (by decide))]; exact hs) q2 (by omega) hw (by omega) (by omega) (by rw [hm2]; exact hmul)
    rw [hm2, q121, q1, ← hstep] at IH
    exact IH.imp (fun r s pp => ⟨fun a j kk => (pp.1 a j kk).trans (q a j (by omega)), pp.2⟩)
theorem p_number {w lo hi : Int} {σ : zS} (h : tpI σ) (hs : σ 120 3 = -1) (hw : 0 ≤ w ∧ w ≤ 9) : zP' (g_ta_number w lo hi σ) (fun r s => frTa σ s ∧ r = (numF (σ 121) (σ 120 1) w.toNat (σ 120 2) 0).1 ∧ (((numF (σ 121) (σ 120 1) w.toNat (σ 120 2) 0).2 ≠ σ 120 2 ∧ lo ≤ r ∧ r ≤ hi → s 120 2 = (numF (σ 121) (σ 120 1) w.toNat (σ 120 2) 0).2 ∧ s 120 3 = -1) ∧ (¬ ((numF (σ 121) (σ 120 1) w.toNat (σ 120 2) 0).2 ≠ σ 120 2 ∧ lo ≤ r ∧ r ≤ hi) → s 120 3 = σ 120 2))) := by
  have hp : ∀ w : Fin 10, ((0 : Int) + 1) * 10 ^ (w.val - 0) ≤ 1000000000 := by decide
  have hp := hp ⟨w.toNat, by omega⟩
  exact p_num12 zK 0 0 (σ 120 2) σ h hs rfl (by omega) hw.2 (by omega) (by omega) hp
/-! the reference -/
theorem t_num84 {lo hi x : Int} {σ : zS} (hs : σ 143 22 < 0) : ∃ b s, g_m_isNumber_L84 lo hi x σ = some (b, s) ∧ fr3 σ s ∧ (lo ≤ σ 143 23 ∧ σ 143 23 ≤ hi → b = 1 ∧ s = σ) ∧ (¬ (lo ≤ σ 143 23 ∧ σ 143 23 ≤ hi) → b = 0 ∧ s 143 22 = x) := by
  unfold g_m_isNumber_L84
  try dsimp +instances only
  by_cases c : lo ≤ σ 143 23 ∧ σ 143 23 ≤ hi
  · rw [s_isIn_t c.1 c.2]
    rw [Option.bind_some]
    try dsimp +instances only
    rw [if_pos (by decide)]
    exact ⟨1, σ, rfl, fr3.refl σ, fun _ => ⟨rfl, rfl⟩, fun h => absurd c h⟩
  · rw [s_isIn_f (by omega)]
    rw [Option.bind_some]
    try dsimp +instances only
    rw [if_neg (by decide)]
    unfold g_m_fails
    try dsimp +instances only
    rw [if_neg (by omega)]
    rw [Option.bind_some]
    try dsimp +instances only
    rw [if_pos rfl]
    exact ⟨0, _, rfl, fr3.u (by omega), fun h => absurd h c, fun _ => ⟨rfl, zu_e rfl⟩⟩
theorem t_num33 {w lo hi x : Int} (hw : w ≤ 9) : ∀ (d k n : Nat) (v p : Int) (σ : zS), w.toNat = k + d → d < n → pI σ → σ 143 22 < 0 → σ 143 21 = p → σ 143 23 = v → 0 ≤ v → (v + 1) * 10 ^ d ≤ 1000000000 → (∀ j : Int, 0 ≤ j → j < σ 143 20 → 1 ≤ σ 159 j ∧ σ 159 j ≤ 127) → ∃ b s, g_m_isNumber_L33 n w lo hi x (k : Int) σ = some (b, s) ∧ fr3 σ s ∧ (lo ≤ (numF (σ 159) (σ 143 20) d p v).1 ∧ (numF (σ 159) (σ 143 20) d p v).1 ≤ hi → b = 1 ∧ s 143 21 = (numF (σ 159) (σ 143 20) d p v).2 ∧ s 143 23 = (numF (σ 159) (σ 143 20) d p v).1 ∧ s 143 22 = σ 143 22) ∧ (¬ (lo ≤ (numF (σ 159) (σ 143 20) d p v).1 ∧ (numF (σ 159) (σ 143 20) d p v).1 ≤ hi) → b = 0 ∧ s 143 22 = x)
  | _, _, 0, _, _, _, _, h, _, _, _, _, _, _, _ => absurd h (Nat.not_lt_zero _)
  | d, k, n + 1, v, p, σ, hk, hn, hI, hs, hp, hv, hv0, hb, hbt => by
    have fin : numF (σ 159) (σ 143 20) d p v = (v, p) → ∃ b s, g_m_isNumber_L84 lo hi x σ = some (b, s) ∧ fr3 σ s ∧ (lo ≤ (numF (σ 159) (σ 143 20) d p v).1 ∧ (numF (σ 159) (σ 143 20) d p v).1 ≤ hi → b = 1 ∧ s 143 21 = (numF (σ 159) (σ 143 20) d p v).2 ∧ s 143 23 = (numF (σ 159) (σ 143 20) d p v).1 ∧ s 143 22 = σ 143 22) ∧ (¬ (lo ≤ (numF (σ 159) (σ 143 20) d p v).1 ∧ (numF (σ 159) (σ 143 20) d p v).1 ≤ hi) → b = 0 ∧ s 143 22 = x) := fun e => by
      rw [e]
      obtain ⟨b, s, g1, g2, g3, g4⟩ := t_num84 (lo := lo) (hi := hi) (x := x) hs
      rw [hv] at g3 g4
      refine ⟨b, s, g1, g2, fun c => ?_, g4⟩
      obtain ⟨e1, e2⟩ := g3 c
      rw [e2]
      exact ⟨e1, hp, hv, rfl⟩
    unfold g_m_isNumber_L33
    by_cases c : w ≤ (k : Int)
    · rw [if_pos c]
      exact fin (by rw [show d = 0 by omega]; rfl)
    · rw [if_neg c]
      obtain ⟨m, rfl⟩ : ∃ m, d = m + 1 := ⟨d - 1, by omega⟩
      rw [s_here hI]
      rw [Option.bind_some]
      try dsimp +instances only
      rw [s_isFigure]
      rw [Option.bind_some]
      try dsimp +instances only
      have hH : hereC σ = if σ 143 20 ≤ p then -1 else σ 159 p := by
        unfold hereC
        rw [hp]
      by_cases cf : p < σ 143 20 ∧ 48 ≤ σ 159 p ∧ σ 159 p ≤ 57
      · have hh : hereC σ = σ 159 p := by rw [hH, if_neg (by omega)]
        rw [hh, if_pos cf.2, if_neg (by decide), s_here hI, hh]
        rw [Option.bind_some]
        try dsimp +instances only
        have hstep : numF (σ 159) (σ 143 20) (m + 1) p v = numF (σ 159) (σ 143 20) m (p + 1) (10 * v + σ 159 p - 48) := if_pos cf
        have hpow1 : (1 : Int) ≤ 10 ^ m := by
          have : (0 : Int) < 10 ^ m := Int.pow_pos (by decide)
          omega
        have hv10 : (10 * v + 9 + 1) * 10 ^ m ≤ 1000000000 := by
          have e : (10 * v + 9 + 1) * (10 : Int) ^ m = (v + 1) * 10 ^ (m + 1) := by
            rw [Int.pow_succ, Int.mul_comm (10 ^ m) 10, ← Int.mul_assoc]
            congr 1
            omega
          rw [e]
          exact hb
        have hle : 10 * v + 9 + 1 ≤ (10 * v + 9 + 1) * 10 ^ m := by
          have := Int.mul_le_mul_of_nonneg_left hpow1 (show 0 ≤ 10 * v + 9 + 1 by omega)
          omega
        have hI' := hI
        unfold pI at hI'
        rw [hv, w32_id (x := 10 * v) (by omega) (by omega), w32_id (x := 10 * v + σ 159 p) (by omega) (by omega), w32_id (x := 10 * v + σ 159 p - 48) (by omega) (by omega), zu_i (by decide), hp, w32_id (x := p + 1) (by omega) (by omega), w32_id (x := (k : Int) + 1) (by omega) (by omega), show (k : Int) + 1 = ((k + 1 : Nat) : Int) by omega]
        generalize hz : zu (zu σ 143 23 (10 * v + σ 159 p - 48)) 143 21 (p + 1) = s1
        have q : ∀ a j, (a ≠ 143 ∨ (j ≠ 21 ∧ j ≠ 23)) → s1 a j = σ a j := fun a j hh => by rw [← hz, zu_c (by omega), zu_c (by omega)]
        have q159 : s1 159 = σ 159 := funext (fun j => q 159 j (Or.inl (by decide)))
        have q20 : s1 143 20 = σ 143 20 := q 143 20 (Or.inr (by decide))
        have q22 : s1 143 22 = σ 143 22 := q 143 22 (Or.inr (by decide))
        have q21 : s1 143 21 = p + 1 := by rw [← hz]; exact zu_e rfl
        have q23 : s1 143 23 = 10 * v + σ 159 p - 48 := by rw [← hz, zu_i (by decide)]; exact zu_e rfl
        have hmul : (10 * v + σ 159 p - 48 + 1) * 10 ^ m ≤ 1000000000 := Int.le_trans (Int.mul_le_mul_of_nonneg_right (show 10 * v + σ 159 p - 48 + 1 ≤ 10 * v + 9 + 1 by omega) (by omega)) hv10
        obtain ⟨b, s, g1, g2, g3, g4⟩ := t_num33 (w := w) (lo := lo) (hi := hi) (x := x) hw m (k + 1) n (10 * v + σ 159 p - 48) (p + 1) s1 (by omega) (by omega) (by unfold pI; rw [q20, q21]; omega) (by rw [q22]; exact hs) q21 q23 (by omega) hmul (by rw [q20, q159]; exact hbt)
        rw [q159, q20, ← hstep, q22] at g3
        rw [q159, q20, ← hstep] at g4
        exact ⟨b, s, g1, fun a j kk => (g2 a j kk).trans (q a j (by omega)), g3, g4⟩
      · have hn : ¬ (48 ≤ hereC σ ∧ hereC σ ≤ 57) := fun h => by
          rw [hH] at h
          by_cases cp : σ 143 20 ≤ p
          · rw [if_pos cp] at h
            exact absurd h (by omega)
          · rw [if_neg cp] at h
            exact cf ⟨by omega, h⟩
        rw [if_neg hn, if_pos rfl]
        exact fin (if_neg cf)
/-! behind a fault the class reads nothing more -/
theorem p_blame0 {x : Int} {σ : zS} (hs : σ 120 3 ≠ -1) : g_ta_blame x σ = some ((), σ) := by
  rw [p_blame, if_neg hs]
theorem p_wants0 {x : Int} {σ : zS} (hs : σ 120 3 ≠ -1) (hx : x ≠ 0) : g_ta_wants x σ = some ((), σ) := by
  unfold g_ta_wants
  rw [p_here0 hs]
  rw [Option.bind_some]
  try dsimp +instances only
  rw [if_pos (Ne.symm hx), p_blame0 hs]
  rfl
theorem p_takes0 {x : Int} {σ : zS} (hs : σ 120 3 ≠ -1) (hx : x ≠ 0) : g_ta_takes x σ = some (0, σ) := by
  unfold g_ta_takes
  rw [p_here0 hs]
  rw [Option.bind_some]
  try dsimp +instances only
  rw [if_neg (Ne.symm hx)]
theorem p_another0 {x : Int} {σ : zS} (hs : σ 120 3 ≠ -1) : g_ta_another x σ = some (0, σ) := by
  have e : g_ta_another_L15 σ = some (0, σ) := by
    unfold g_ta_another_L15
    rw [p_here0 hs]
    rw [Option.bind_some]
    try dsimp +instances only
    rw [if_pos rfl]
  unfold g_ta_another
  by_cases c : x = 0
  · rw [if_pos c]; exact e
  · rw [if_neg c, p_takes0 hs (by decide)]
    rw [Option.bind_some]
    try dsimp +instances only
    rw [if_pos rfl]
    exact e
theorem p_number0 {w lo hi : Int} {σ : zS} (hs : σ 120 3 ≠ -1) (hw : 0 < w) : zP' (g_ta_number w lo hi σ) (fun _ s => s = σ) := by
  have e : ∀ v, g_ta_number_L67 lo hi (σ 120 2) v σ = some (v, σ) := fun v => by
    unfold g_ta_number_L67 g_ta_number_L88
    try dsimp +instances only
    rw [if_pos rfl, p_blame0 hs]
    rfl
  unfold g_ta_number
  show zP' (g_ta_number_L12 (999999 + 1) w lo hi (σ 120 2) 0 0 σ) _
  unfold g_ta_number_L12
  rw [if_neg (by omega), p_here0 hs]
  rw [Option.bind_some]
  try dsimp +instances only
  rw [if_pos (by decide), e]
  exact zP'.ret rfl
/-! the reference's number and sign, from their heads -/
theorem numF_le {f : Int → Int} {L : Int} : ∀ (w : Nat) (p v : Int), p ≤ (numF f L w p v).2
  | 0, p, v => Int.le_refl p
  | w + 1, p, v => by
    show p ≤ (if p < L ∧ 48 ≤ f p ∧ f p ≤ 57 then numF f L w (p + 1) (10 * v + f p - 48) else (v, p)).2
    split
    · have := numF_le (f := f) (L := L) w (p + 1) (10 * v + f p - 48)
      omega
    · exact Int.le_refl p
def tpR (σ : zS) : Prop := ∀ j : Int, 0 ≤ j → j < σ 143 20 → 1 ≤ σ 159 j ∧ σ 159 j ≤ 127
theorem t_number {w lo hi : Int} {σ : zS} (hI : pI σ) (hs : σ 143 22 < 0) (hw : 1 ≤ w ∧ w ≤ 9) (hbt : tpR σ) : ∃ b s, g_m_isNumber w lo hi σ = some (b, s) ∧ fr3 σ s ∧ ((numF (σ 159) (σ 143 20) w.toNat (σ 143 21) 0).2 ≠ σ 143 21 ∧ lo ≤ (numF (σ 159) (σ 143 20) w.toNat (σ 143 21) 0).1 ∧ (numF (σ 159) (σ 143 20) w.toNat (σ 143 21) 0).1 ≤ hi → b = 1 ∧ s 143 21 = (numF (σ 159) (σ 143 20) w.toNat (σ 143 21) 0).2 ∧ s 143 23 = (numF (σ 159) (σ 143 20) w.toNat (σ 143 21) 0).1 ∧ s 143 22 = σ 143 22) ∧ (¬ ((numF (σ 159) (σ 143 20) w.toNat (σ 143 21) 0).2 ≠ σ 143 21 ∧ lo ≤ (numF (σ 159) (σ 143 20) w.toNat (σ 143 21) 0).1 ∧ (numF (σ 159) (σ 143 20) w.toNat (σ 143 21) 0).1 ≤ hi) → b = 0 ∧ s 143 22 = σ 143 21) := by
  obtain ⟨m, hm⟩ : ∃ m, w.toNat = m + 1 := ⟨w.toNat - 1, by omega⟩
  generalize hz : zu σ 143 23 0 = s1
  have q : ∀ a j, (a ≠ 143 ∨ j ≠ 23) → s1 a j = σ a j := fun a j hh => by rw [← hz]; exact zu_c hh
  have q159 : s1 159 = σ 159 := funext (fun j => q 159 j (Or.inl (by decide)))
  have q20 : s1 143 20 = σ 143 20 := q 143 20 (Or.inr (by decide))
  have q21 : s1 143 21 = σ 143 21 := q 143 21 (Or.inr (by decide))
  have q22 : s1 143 22 = σ 143 22 := q 143 22 (Or.inr (by decide))
  have hI1 : pI s1 := by
    unfold pI at hI ⊢
    rw [q20, q21]
    exact hI
  have f1 : fr3 σ s1 := fun a j k => q a j (by omega)
  unfold g_m_isNumber
  try dsimp +instances only
  rw [hz, s_here hI1]
  rw [Option.bind_some]
  try dsimp +instances only
  rw [s_isFigure]
  rw [Option.bind_some]
  try dsimp +instances only
  have hH : hereC s1 = if σ 143 20 ≤ σ 143 21 then -1 else σ 159 (σ 143 21) := by
    unfold hereC
    rw [q20, q21, q159]
  by_cases cf : σ 143 21 < σ 143 20 ∧ 48 ≤ σ 159 (σ 143 21) ∧ σ 159 (σ 143 21) ≤ 57
  · have hh : hereC s1 = σ 159 (σ 143 21) := by rw [hH, if_neg (by omega)]
    rw [hh, if_pos cf.2, if_pos (by decide)]
    have hp : ∀ w : Fin 10, ((0 : Int) + 1) * 10 ^ w.val ≤ 1000000000 := by decide
    obtain ⟨b, s, g1, g2, g3, g4⟩ := t_num33 (w := w) (lo := lo) (hi := hi) (x := σ 143 21) hw.2 w.toNat 0 zK 0 (σ 143 21) s1 (by omega) (by show _ < 1000000; omega) hI1 (by rw [q22]; exact hs) q21 (by rw [← hz]; exact zu_e rfl) (by omega) (hp ⟨w.toNat, by omega⟩) (by rw [q20, q159]; exact hbt)
    rw [q159, q20, q22] at g3
    rw [q159, q20] at g4
    have hne : (numF (σ 159) (σ 143 20) w.toNat (σ 143 21) 0).2 ≠ σ 143 21 := by
      rw [hm]
      have e : numF (σ 159) (σ 143 20) (m + 1) (σ 143 21) 0 = numF (σ 159) (σ 143 20) m (σ 143 21 + 1) (10 * 0 + σ 159 (σ 143 21) - 48) := if_pos cf
      rw [e]
      have := numF_le (f := σ 159) (L := σ 143 20) m (σ 143 21 + 1) (10 * 0 + σ 159 (σ 143 21) - 48)
      omega
    exact ⟨b, s, g1, f1.trans g2, fun h => g3 h.2, fun h => g4 (fun h2 => h ⟨hne, h2⟩)⟩
  · have hn : ¬ (48 ≤ hereC s1 ∧ hereC s1 ≤ 57) := fun h => by
      rw [hH] at h
      by_cases cp : σ 143 20 ≤ σ 143 21
      · rw [if_pos cp] at h
        exact absurd h (by omega)
      · rw [if_neg cp] at h
        exact cf ⟨by omega, h⟩
    have e : numF (σ 159) (σ 143 20) w.toNat (σ 143 21) 0 = (0, σ 143 21) := by
      rw [hm]
      exact if_neg cf
    rw [if_neg hn, if_neg (by decide), e]
    unfold g_m_fails
    try dsimp +instances only
    rw [q22, if_neg (by omega)]
    rw [Option.bind_some]
    try dsimp +instances only
    rw [if_pos (Or.inl rfl), q21]
    exact ⟨0, _, rfl, f1.trans (fr3.u (by omega)), fun h => absurd rfl h.1, fun _ => ⟨rfl, zu_e rfl⟩⟩
theorem t_isSign {x : Int} {σ : zS} (hI : pI σ) (hs : σ 143 22 < 0) (hx : 1 ≤ x) : ∃ b s, g_m_isSign x σ = some (b, s) ∧ fr3 σ s ∧ (hereC σ = x → b = 1 ∧ s 143 21 = σ 143 21 + 1 ∧ s 143 22 = σ 143 22) ∧ (hereC σ ≠ x → b = 0 ∧ s 143 22 = σ 143 21) := by
  unfold g_m_isSign
  rw [s_here hI]
  rw [Option.bind_some]
  try dsimp +instances only
  by_cases c : hereC σ = x
  · have hp := hereC_lt c (by omega)
    have hI' := hI
    unfold pI at hI'
    rw [if_pos c, w32_id (x := σ 143 21 + 1) (by omega) (by omega)]
    exact ⟨1, _, rfl, fr3.u (by omega), fun _ => ⟨rfl, zu_e rfl, zu_i (by decide)⟩, fun h => absurd c h⟩
  · rw [if_neg c]
    unfold g_m_fails
    try dsimp +instances only
    rw [if_neg (by omega)]
    rw [Option.bind_some]
    try dsimp +instances only
    rw [if_pos (Or.inl rfl)]
    exact ⟨0, _, rfl, fr3.u (by omega), fun h => absurd h c, fun _ => ⟨rfl, zu_e rfl⟩⟩
theorem p_takes {x : Int} {σ : zS} (h : tpI σ) (hs : σ 120 3 = -1) (hx : 1 ≤ x) : g_ta_takes x σ = some (if tpH σ = x then 1 else 0, if tpH σ = x then zu σ 120 2 (σ 120 2 + 1) else σ) := by
  unfold g_ta_takes
  rw [p_here h hs]
  rw [Option.bind_some]
  try dsimp +instances only
  by_cases c : tpH σ = x
  · rw [if_pos c, if_pos c, if_pos c, w32_id (x := σ 120 2 + 1) (by have := h.2.1; omega) (by have := h.2.1; omega)]
  · rw [if_neg c, if_neg c, if_neg c]
end
section
/-! 90.main -/
/-! THE LAW: its loop keeps what stands between the calls (printed by wip/zw.py) -/
set_option maxHeartbeats 4000000 in
theorem z_loop {xl : Nat} {xs : Nat → Int32} (hxl : xl ≤ 3072) (hx : ∀ X : Int32, -2147483648 ≤ X.toInt ∧ X.toInt < 2147483648) : ∀ (n : Nat) (x3 : Int) (σ : zS), Inv2 σ → 0 ≤ x3 → x3 ≤ (xl : Int) → (xl : Int) - x3 < (n : Int) → zO (g_jRangeAnswersLaw_law_L18 xl xs n x3 σ) (fun v _ => v = 1)
  | 0, _, _, _, _, _, _ => by exfalso; omega
  | n + 1, x3, σ, I, h1, h2, h3 => by
    unfold g_jRangeAnswersLaw_law_L18
    have w0 := w32_id (x := (xl : Int) - 6) (by omega) (by omega)
    refine zO.ite (fun _ => zO.ret rfl) (fun c0 => ?_)
    try dsimp +instances only
    refine zO.gd (by omega) ?_
    try dsimp +instances only
    have g1 : 0 ≤ w32 (x3 + 1) ∧ w32 (x3 + 1) < (xl : Int) := by rw [w32_id (x := x3 + 1) (by omega) (by omega)]; omega
    have g2 : 0 ≤ w32 (x3 + 2) ∧ w32 (x3 + 2) < (xl : Int) := by rw [w32_id (x := x3 + 2) (by omega) (by omega)]; omega
    have g3 : 0 ≤ w32 (x3 + 3) ∧ w32 (x3 + 3) < (xl : Int) := by rw [w32_id (x := x3 + 3) (by omega) (by omega)]; omega
    have g4 : 0 ≤ w32 (x3 + 4) ∧ w32 (x3 + 4) < (xl : Int) := by rw [w32_id (x := x3 + 4) (by omega) (by omega)]; omega
    have g5 : 0 ≤ w32 (x3 + 5) ∧ w32 (x3 + 5) < (xl : Int) := by rw [w32_id (x := x3 + 5) (by omega) (by omega)]; omega
    have w6 := w32_id (x := x3 + 6) (by omega) (by omega)
    have k1 : 0 ≤ x3 + 6 := by omega
    have k2 : x3 + 6 ≤ (xl : Int) := by omega
    have k3 : (xl : Int) - (x3 + 6) < (n : Int) := by omega
    clear w0 c0 h1 h2 h3
    refine zO.ite (fun c => ?_) (fun c => ?_)
    · clear c
      try dsimp +instances only
      refine zO.gd g1 ?_
      try dsimp +instances only
      refine zO.gd g2 ?_
      try dsimp +instances only
      refine zO.gd g3 ?_
      try dsimp +instances only
      refine zO.gd g4 ?_
      try dsimp +instances only
      refine zO.gd g5 ?_
      try dsimp +instances only
      refine zO.bind (q_put (lOr_ok _ _) I) (fun v s1 p => ?_)
      try dsimp +instances only
      refine zO.gd g1 ?_
      try dsimp +instances only
      refine zO.gd g2 ?_
      try dsimp +instances only
      refine zO.gd g3 ?_
      try dsimp +instances only
      refine zO.gd g4 ?_
      try dsimp +instances only
      refine zO.gd g5 ?_
      try dsimp +instances only
      refine zO.bind p (fun w s2 q => ?_)
      try dsimp +instances only
      unfold g_jRangeAnswersLaw_law_L1367
      rw [w6]
      exact z_loop hxl hx n (x3 + 6) s2 q k1 k2 k3
    · clear c
      try dsimp +instances only
      refine zO.ite (fun c => ?_) (fun c => ?_)
      · clear c
        try dsimp +instances only
        refine zO.gd g1 ?_
        try dsimp +instances only
        refine zO.bind (q_take I) (fun v s1 p => ?_)
        try dsimp +instances only
        refine zO.gd g1 ?_
        try dsimp +instances only
        refine zO.bind p (fun w s2 q => ?_)
        try dsimp +instances only
        unfold g_jRangeAnswersLaw_law_L1367
        rw [w6]
        exact z_loop hxl hx n (x3 + 6) s2 q k1 k2 k3
      · clear c
        try dsimp +instances only
        refine zO.ite (fun c => ?_) (fun c => ?_)
        · clear c
          try dsimp +instances only
          refine zO.gd g1 ?_
          try dsimp +instances only
          refine zO.gd g2 ?_
          try dsimp +instances only
          refine zO.bind (q_row I) (fun v s1 p => ?_)
          try dsimp +instances only
          refine zO.gd g1 ?_
          try dsimp +instances only
          refine zO.gd g2 ?_
          try dsimp +instances only
          refine zO.bind p (fun w s2 q => ?_)
          try dsimp +instances only
          unfold g_jRangeAnswersLaw_law_L1367
          rw [w6]
          exact z_loop hxl hx n (x3 + 6) s2 q.1 k1 k2 k3
        · clear c
          try dsimp +instances only
          refine zO.ite (fun c => ?_) (fun c => ?_)
          · clear c
            try dsimp +instances only
            refine zO.gd g1 ?_
            try dsimp +instances only
            refine zO.bind (q_worth I) (fun v s1 p => ?_)
            try dsimp +instances only
            refine zO.gd g1 ?_
            try dsimp +instances only
            refine zO.bind p (fun w s2 q => ?_)
            try dsimp +instances only
            unfold g_jRangeAnswersLaw_law_L1367
            rw [w6]
            exact z_loop hxl hx n (x3 + 6) s2 q.1 k1 k2 k3
          · clear c
            try dsimp +instances only
            refine zO.ite (fun c => ?_) (fun c => ?_)
            · clear c
              try dsimp +instances only
              refine zO.gd g1 ?_
              try dsimp +instances only
              refine zO.bind (q_feed I) (fun v s1 p => ?_)
              try dsimp +instances only
              refine zO.gd g1 ?_
              try dsimp +instances only
              refine zO.bind p (fun w s2 q => ?_)
              try dsimp +instances only
              unfold g_jRangeAnswersLaw_law_L1367
              rw [w6]
              exact z_loop hxl hx n (x3 + 6) s2 q.1 k1 k2 k3
            · clear c
              try dsimp +instances only
              refine zO.ite (fun c => ?_) (fun c => ?_)
              · clear c
                try dsimp +instances only
                refine zO.bind (q_clear I) (fun v s1 p => ?_)
                try dsimp +instances only
                refine zO.bind p (fun w s2 q => ?_)
                try dsimp +instances only
                unfold g_jRangeAnswersLaw_law_L1367
                rw [w6]
                exact z_loop hxl hx n (x3 + 6) s2 q.1 k1 k2 k3
              · clear c
                try dsimp +instances only
                refine zO.ite (fun c => ?_) (fun c => ?_)
                · clear c
                  try dsimp +instances only
                  refine zO.bind (q_settings I) (fun v s1 p => ?_)
                  try dsimp +instances only
                  refine zO.bind p (fun w s2 q => ?_)
                  try dsimp +instances only
                  unfold g_jRangeAnswersLaw_law_L1367
                  rw [w6]
                  exact z_loop hxl hx n (x3 + 6) s2 q k1 k2 k3
                · clear c
                  try dsimp +instances only
                  refine zO.ite (fun c => ?_) (fun c => ?_)
                  · clear c
                    try dsimp +instances only
                    refine zO.gd g1 ?_
                    try dsimp +instances only
                    refine zO.bind (q_setting I) (fun v s1 p => ?_)
                    try dsimp +instances only
                    refine zO.gd g1 ?_
                    try dsimp +instances only
                    refine zO.bind p (fun w s2 q => ?_)
                    try dsimp +instances only
                    unfold g_jRangeAnswersLaw_law_L1367
                    rw [w6]
                    exact z_loop hxl hx n (x3 + 6) s2 q k1 k2 k3
                  · clear c
                    try dsimp +instances only
                    refine zO.ite (fun c => ?_) (fun c => ?_)
                    · clear c
                      try dsimp +instances only
                      refine zO.bind (q_run I) (fun v s1 p => ?_)
                      try dsimp +instances only
                      refine zO.bind p (fun w s2 q => ?_)
                      try dsimp +instances only
                      unfold g_jRangeAnswersLaw_law_L1367
                      rw [w6]
                      exact z_loop hxl hx n (x3 + 6) s2 q k1 k2 k3
                    · clear c
                      try dsimp +instances only
                      refine zO.ite (fun c => ?_) (fun c => ?_)
                      · clear c
                        try dsimp +instances only
                        refine zO.gd g1 ?_
                        try dsimp +instances only
                        refine zO.bind (q_answer I) (fun v s1 p => ?_)
                        try dsimp +instances only
                        refine zO.gd g1 ?_
                        try dsimp +instances only
                        refine zO.bind p (fun w s2 q => ?_)
                        try dsimp +instances only
                        unfold g_jRangeAnswersLaw_law_L1367
                        rw [w6]
                        exact z_loop hxl hx n (x3 + 6) s2 q k1 k2 k3
                      · clear c
                        try dsimp +instances only
                        refine zO.ite (fun c => ?_) (fun c => ?_)
                        · clear c
                          try dsimp +instances only
                          refine zO.bind (q_spell I) (fun v s1 p => ?_)
                          try dsimp +instances only
                          refine zO.bind p (fun w s2 q => ?_)
                          try dsimp +instances only
                          unfold g_jRangeAnswersLaw_law_L1367
                          rw [w6]
                          exact z_loop hxl hx n (x3 + 6) s2 q k1 k2 k3
                        · clear c
                          try dsimp +instances only
                          refine zO.ite (fun c => ?_) (fun c => ?_)
                          · clear c
                            try dsimp +instances only
                            refine zO.bind (q_load I) (fun v s1 p => ?_)
                            try dsimp +instances only
                            refine zO.bind p (fun w s2 q => ?_)
                            try dsimp +instances only
                            unfold g_jRangeAnswersLaw_law_L1367
                            rw [w6]
                            exact z_loop hxl hx n (x3 + 6) s2 q k1 k2 k3
                          · clear c
                            try dsimp +instances only
                            refine zO.ite (fun c => ?_) (fun c => ?_)
                            · clear c
                              try dsimp +instances only
                              refine zO.gd g1 ?_
                              try dsimp +instances only
                              refine zO.gd g2 ?_
                              try dsimp +instances only
                              refine zO.gd g3 ?_
                              try dsimp +instances only
                              refine zO.gd g4 ?_
                              try dsimp +instances only
                              refine zO.bind (q_explain I) (fun v s1 p => ?_)
                              try dsimp +instances only
                              refine zO.gd g1 ?_
                              try dsimp +instances only
                              refine zO.gd g2 ?_
                              try dsimp +instances only
                              refine zO.gd g3 ?_
                              try dsimp +instances only
                              refine zO.gd g4 ?_
                              try dsimp +instances only
                              refine zO.bind p (fun w s2 q => ?_)
                              try dsimp +instances only
                              unfold g_jRangeAnswersLaw_law_L1367
                              rw [w6]
                              exact z_loop hxl hx n (x3 + 6) s2 q k1 k2 k3
                            · clear c
                              try dsimp +instances only
                              refine zO.ite (fun c => ?_) (fun c => ?_)
                              · clear c
                                try dsimp +instances only
                                refine zO.gd g1 ?_
                                try dsimp +instances only
                                refine zO.bind (q_paper I) (fun v s1 p => ?_)
                                try dsimp +instances only
                                refine zO.gd g1 ?_
                                try dsimp +instances only
                                refine zO.bind p (fun w s2 q => ?_)
                                try dsimp +instances only
                                unfold g_jRangeAnswersLaw_law_L1367
                                rw [w6]
                                exact z_loop hxl hx n (x3 + 6) s2 q k1 k2 k3
                              · clear c
                                try dsimp +instances only
                                refine zO.ite (fun c => ?_) (fun c => ?_)
                                · clear c
                                  try dsimp +instances only
                                  refine zO.gd g1 ?_
                                  try dsimp +instances only
                                  refine zO.gd g2 ?_
                                  try dsimp +instances only
                                  refine zO.gd g3 ?_
                                  try dsimp +instances only
                                  refine zO.gd g4 ?_
                                  try dsimp +instances only
                                  refine zO.gd g5 ?_
                                  try dsimp +instances only
                                  refine zO.bind (q_query I) (fun v s1 p => ?_)
                                  try dsimp +instances only
                                  refine zO.gd g1 ?_
                                  try dsimp +instances only
                                  refine zO.gd g2 ?_
                                  try dsimp +instances only
                                  refine zO.gd g3 ?_
                                  try dsimp +instances only
                                  refine zO.gd g4 ?_
                                  try dsimp +instances only
                                  refine zO.gd g5 ?_
                                  try dsimp +instances only
                                  refine zO.bind p (fun w s2 q => ?_)
                                  try dsimp +instances only
                                  unfold g_jRangeAnswersLaw_law_L1367
                                  rw [w6]
                                  exact z_loop hxl hx n (x3 + 6) s2 q.1 k1 k2 k3
                                · clear c
                                  try dsimp +instances only
                                  refine zO.ite (fun c => ?_) (fun c => ?_)
                                  · clear c
                                    try dsimp +instances only
                                    refine zO.gd g1 ?_
                                    try dsimp +instances only
                                    refine zO.bind (q_find I) (fun v s1 p => ?_)
                                    try dsimp +instances only
                                    refine zO.gd g1 ?_
                                    try dsimp +instances only
                                    refine zO.bind p (fun w s2 q => ?_)
                                    try dsimp +instances only
                                    unfold g_jRangeAnswersLaw_law_L1367
                                    rw [w6]
                                    exact z_loop hxl hx n (x3 + 6) s2 q k1 k2 k3
                                  · clear c
                                    try dsimp +instances only
                                    refine zO.ite (fun c => ?_) (fun c => ?_)
                                    · clear c
                                      try dsimp +instances only
                                      refine zO.gd g1 ?_
                                      try dsimp +instances only
                                      refine zO.gd g2 ?_
                                      try dsimp +instances only
                                      refine zO.gd g3 ?_
                                      try dsimp +instances only
                                      refine zO.gd g4 ?_
                                      try dsimp +instances only
                                      refine zO.bind (q_probe I) (fun v s1 p => ?_)
                                      try dsimp +instances only
                                      refine zO.gd g1 ?_
                                      try dsimp +instances only
                                      refine zO.gd g2 ?_
                                      try dsimp +instances only
                                      refine zO.gd g3 ?_
                                      try dsimp +instances only
                                      refine zO.gd g4 ?_
                                      try dsimp +instances only
                                      refine zO.bind p (fun w s2 q => ?_)
                                      try dsimp +instances only
                                      unfold g_jRangeAnswersLaw_law_L1367
                                      rw [w6]
                                      exact z_loop hxl hx n (x3 + 6) s2 q k1 k2 k3
                                    · clear c
                                      try dsimp +instances only
                                      refine zO.ite (fun c => ?_) (fun c => ?_)
                                      · clear c
                                        try dsimp +instances only
                                        refine zO.gd g1 ?_
                                        try dsimp +instances only
                                        refine zO.gd g2 ?_
                                        try dsimp +instances only
                                        refine zO.bind (q_piece I) (fun v s1 p => ?_)
                                        try dsimp +instances only
                                        refine zO.gd g1 ?_
                                        try dsimp +instances only
                                        refine zO.gd g2 ?_
                                        try dsimp +instances only
                                        refine zO.bind p (fun w s2 q => ?_)
                                        try dsimp +instances only
                                        unfold g_jRangeAnswersLaw_law_L1367
                                        rw [w6]
                                        exact z_loop hxl hx n (x3 + 6) s2 q k1 k2 k3
                                      · clear c
                                        try dsimp +instances only
                                        refine zO.ite (fun c => ?_) (fun c => ?_)
                                        · clear c
                                          try dsimp +instances only
                                          refine zO.gd g1 ?_
                                          try dsimp +instances only
                                          refine zO.gd g2 ?_
                                          try dsimp +instances only
                                          refine zO.bind (q_region I) (fun v s1 p => ?_)
                                          try dsimp +instances only
                                          refine zO.gd g1 ?_
                                          try dsimp +instances only
                                          refine zO.gd g2 ?_
                                          try dsimp +instances only
                                          refine zO.bind p (fun w s2 q => ?_)
                                          try dsimp +instances only
                                          unfold g_jRangeAnswersLaw_law_L1367
                                          rw [w6]
                                          exact z_loop hxl hx n (x3 + 6) s2 q k1 k2 k3
                                        · clear c
                                          try dsimp +instances only
                                          refine zO.ite (fun c => ?_) (fun c => ?_)
                                          · clear c
                                            try dsimp +instances only
                                            refine zO.gd g1 ?_
                                            try dsimp +instances only
                                            refine zO.bind (q_weight I) (fun v s1 p => ?_)
                                            try dsimp +instances only
                                            refine zO.gd g1 ?_
                                            try dsimp +instances only
                                            refine zO.bind p (fun w s2 q => ?_)
                                            try dsimp +instances only
                                            unfold g_jRangeAnswersLaw_law_L1367
                                            rw [w6]
                                            exact z_loop hxl hx n (x3 + 6) s2 q k1 k2 k3
                                          · clear c
                                            try dsimp +instances only
                                            refine zO.ite (fun c => ?_) (fun c => ?_)
                                            · clear c
                                              try dsimp +instances only
                                              refine zO.gd g1 ?_
                                              try dsimp +instances only
                                              refine zO.bind (q_told I) (fun v s1 p => ?_)
                                              try dsimp +instances only
                                              refine zO.gd g1 ?_
                                              try dsimp +instances only
                                              refine zO.bind p (fun w s2 q => ?_)
                                              try dsimp +instances only
                                              unfold g_jRangeAnswersLaw_law_L1367
                                              rw [w6]
                                              exact z_loop hxl hx n (x3 + 6) s2 q k1 k2 k3
                                            · clear c
                                              try dsimp +instances only
                                              refine zO.ite (fun c => ?_) (fun c => ?_)
                                              · clear c
                                                try dsimp +instances only
                                                refine zO.bind (q_flush I) (fun v s1 p => ?_)
                                                try dsimp +instances only
                                                refine zO.bind p (fun w s2 q => ?_)
                                                try dsimp +instances only
                                                unfold g_jRangeAnswersLaw_law_L1367
                                                rw [w6]
                                                exact z_loop hxl hx n (x3 + 6) s2 q k1 k2 k3
                                              · clear c
                                                try dsimp +instances only
                                                refine zO.ite (fun c => ?_) (fun c => ?_)
                                                · clear c
                                                  try dsimp +instances only
                                                  refine zO.gd g1 ?_
                                                  try dsimp +instances only
                                                  refine zO.bind (q_keep I) (fun v s1 p => ?_)
                                                  try dsimp +instances only
                                                  refine zO.gd g1 ?_
                                                  try dsimp +instances only
                                                  refine zO.bind p (fun w s2 q => ?_)
                                                  try dsimp +instances only
                                                  unfold g_jRangeAnswersLaw_law_L1367
                                                  rw [w6]
                                                  exact z_loop hxl hx n (x3 + 6) s2 q k1 k2 k3
                                                · clear c
                                                  try dsimp +instances only
                                                  refine zO.ite (fun c => ?_) (fun c => ?_)
                                                  · clear c
                                                    try dsimp +instances only
                                                    refine zO.gd g1 ?_
                                                    try dsimp +instances only
                                                    refine zO.gd g2 ?_
                                                    try dsimp +instances only
                                                    refine zO.gd g3 ?_
                                                    try dsimp +instances only
                                                    refine zO.gd g4 ?_
                                                    try dsimp +instances only
                                                    refine zO.bind (q_trace I) (fun v s1 p => ?_)
                                                    try dsimp +instances only
                                                    refine zO.gd g1 ?_
                                                    try dsimp +instances only
                                                    refine zO.gd g2 ?_
                                                    try dsimp +instances only
                                                    refine zO.gd g3 ?_
                                                    try dsimp +instances only
                                                    refine zO.gd g4 ?_
                                                    try dsimp +instances only
                                                    refine zO.bind p (fun w s2 q => ?_)
                                                    try dsimp +instances only
                                                    unfold g_jRangeAnswersLaw_law_L1367
                                                    rw [w6]
                                                    exact z_loop hxl hx n (x3 + 6) s2 q.1 k1 k2 k3
                                                  · clear c
                                                    try dsimp +instances only
                                                    refine zO.ite (fun c => ?_) (fun c => ?_)
                                                    · clear c
                                                      try dsimp +instances only
                                                      refine zO.gd g1 ?_
                                                      try dsimp +instances only
                                                      refine zO.gd g2 ?_
                                                      try dsimp +instances only
                                                      refine zO.bind (q_again I) (fun v s1 p => ?_)
                                                      try dsimp +instances only
                                                      refine zO.gd g1 ?_
                                                      try dsimp +instances only
                                                      refine zO.gd g2 ?_
                                                      try dsimp +instances only
                                                      refine zO.bind p (fun w s2 q => ?_)
                                                      try dsimp +instances only
                                                      unfold g_jRangeAnswersLaw_law_L1367
                                                      rw [w6]
                                                      exact z_loop hxl hx n (x3 + 6) s2 q k1 k2 k3
                                                    · clear c
                                                      try dsimp +instances only
                                                      refine zO.ite (fun c => ?_) (fun c => ?_)
                                                      · clear c
                                                        try dsimp +instances only
                                                        refine zO.gd g1 ?_
                                                        try dsimp +instances only
                                                        refine zO.bind (q_least I) (fun v s1 p => ?_)
                                                        try dsimp +instances only
                                                        refine zO.gd g1 ?_
                                                        try dsimp +instances only
                                                        refine zO.bind p (fun w s2 q => ?_)
                                                        try dsimp +instances only
                                                        unfold g_jRangeAnswersLaw_law_L1367
                                                        rw [w6]
                                                        exact z_loop hxl hx n (x3 + 6) s2 q k1 k2 k3
                                                      · clear c
                                                        try dsimp +instances only
                                                        refine zO.ite (fun c => ?_) (fun c => ?_)
                                                        · clear c
                                                          try dsimp +instances only
                                                          refine zO.gd g1 ?_
                                                          try dsimp +instances only
                                                          refine zO.gd g2 ?_
                                                          try dsimp +instances only
                                                          refine zO.gd g3 ?_
                                                          try dsimp +instances only
                                                          refine zO.gd g4 ?_
                                                          try dsimp +instances only
                                                          refine zO.gd g5 ?_
                                                          try dsimp +instances only
                                                          refine zO.bind (q_watch I) (fun v s1 p => ?_)
                                                          try dsimp +instances only
                                                          refine zO.gd g1 ?_
                                                          try dsimp +instances only
                                                          refine zO.gd g2 ?_
                                                          try dsimp +instances only
                                                          refine zO.gd g3 ?_
                                                          try dsimp +instances only
                                                          refine zO.gd g4 ?_
                                                          try dsimp +instances only
                                                          refine zO.gd g5 ?_
                                                          try dsimp +instances only
                                                          refine zO.bind p (fun w s2 q => ?_)
                                                          try dsimp +instances only
                                                          unfold g_jRangeAnswersLaw_law_L1367
                                                          rw [w6]
                                                          exact z_loop hxl hx n (x3 + 6) s2 q.1 k1 k2 k3
                                                        · clear c
                                                          try dsimp +instances only
                                                          refine zO.ite (fun c => ?_) (fun c => ?_)
                                                          · clear c
                                                            try dsimp +instances only
                                                            refine zO.gd g1 ?_
                                                            try dsimp +instances only
                                                            refine zO.bind (q_value I) (fun v s1 p => ?_)
                                                            try dsimp +instances only
                                                            refine zO.gd g1 ?_
                                                            try dsimp +instances only
                                                            refine zO.bind p (fun w s2 q => ?_)
                                                            try dsimp +instances only
                                                            unfold g_jRangeAnswersLaw_law_L1367
                                                            rw [w6]
                                                            exact z_loop hxl hx n (x3 + 6) s2 q.1 k1 k2 k3
                                                          · clear c
                                                            try dsimp +instances only
                                                            refine zO.ite (fun c => ?_) (fun c => ?_)
                                                            · clear c
                                                              try dsimp +instances only
                                                              refine zO.gd g1 ?_
                                                              try dsimp +instances only
                                                              refine zO.bind (q_changes I) (fun v s1 p => ?_)
                                                              try dsimp +instances only
                                                              refine zO.gd g1 ?_
                                                              try dsimp +instances only
                                                              refine zO.bind p (fun w s2 q => ?_)
                                                              try dsimp +instances only
                                                              refine zO.ite (fun _ => ?_) (fun c => absurd q.2 c)
                                                              try dsimp +instances only
                                                              unfold g_jRangeAnswersLaw_law_L1367
                                                              rw [w6]
                                                              exact z_loop hxl hx n (x3 + 6) s2 q.1 k1 k2 k3
                                                            · clear c
                                                              try dsimp +instances only
                                                              refine zO.ite (fun c => ?_) (fun c => ?_)
                                                              · clear c
                                                                try dsimp +instances only
                                                                refine zO.gd g1 ?_
                                                                try dsimp +instances only
                                                                refine zO.gd g2 ?_
                                                                try dsimp +instances only
                                                                refine zO.bind (q_list I) (fun v s1 p => ?_)
                                                                try dsimp +instances only
                                                                refine zO.gd g1 ?_
                                                                try dsimp +instances only
                                                                refine zO.gd g2 ?_
                                                                try dsimp +instances only
                                                                refine zO.bind p (fun w s2 q => ?_)
                                                                try dsimp +instances only
                                                                unfold g_jRangeAnswersLaw_law_L1367
                                                                rw [w6]
                                                                exact z_loop hxl hx n (x3 + 6) s2 q.1 k1 k2 k3
                                                              · clear c
                                                                try dsimp +instances only
                                                                refine zO.ite (fun c => ?_) (fun c => ?_)
                                                                · clear c
                                                                  try dsimp +instances only
                                                                  refine zO.gd g1 ?_
                                                                  try dsimp +instances only
                                                                  refine zO.gd g2 ?_
                                                                  try dsimp +instances only
                                                                  refine zO.gd g3 ?_
                                                                  try dsimp +instances only
                                                                  refine zO.gd g4 ?_
                                                                  try dsimp +instances only
                                                                  refine zO.bind (q_set I) (fun v s1 p => ?_)
                                                                  try dsimp +instances only
                                                                  refine zO.gd g1 ?_
                                                                  try dsimp +instances only
                                                                  refine zO.gd g2 ?_
                                                                  try dsimp +instances only
                                                                  refine zO.gd g3 ?_
                                                                  try dsimp +instances only
                                                                  refine zO.gd g4 ?_
                                                                  try dsimp +instances only
                                                                  refine zO.bind p (fun w s2 q => ?_)
                                                                  try dsimp +instances only
                                                                  unfold g_jRangeAnswersLaw_law_L1367
                                                                  rw [w6]
                                                                  exact z_loop hxl hx n (x3 + 6) s2 q.1 k1 k2 k3
                                                                · clear c
                                                                  try dsimp +instances only
                                                                  refine zO.ite (fun c => ?_) (fun c => ?_)
                                                                  · clear c
                                                                    try dsimp +instances only
                                                                    refine zO.gd g1 ?_
                                                                    try dsimp +instances only
                                                                    refine zO.gd g2 ?_
                                                                    try dsimp +instances only
                                                                    refine zO.bind (q_get I) (fun v s1 p => ?_)
                                                                    try dsimp +instances only
                                                                    refine zO.gd g1 ?_
                                                                    try dsimp +instances only
                                                                    refine zO.gd g2 ?_
                                                                    try dsimp +instances only
                                                                    refine zO.bind p (fun w s2 q => ?_)
                                                                    try dsimp +instances only
                                                                    unfold g_jRangeAnswersLaw_law_L1367
                                                                    rw [w6]
                                                                    exact z_loop hxl hx n (x3 + 6) s2 q k1 k2 k3
                                                                  · clear c
                                                                    try dsimp +instances only
                                                                    refine zO.ite (fun c => ?_) (fun c => ?_)
                                                                    · clear c
                                                                      try dsimp +instances only
                                                                      refine zO.gd g1 ?_
                                                                      try dsimp +instances only
                                                                      refine zO.gd g2 ?_
                                                                      try dsimp +instances only
                                                                      refine zO.gd g3 ?_
                                                                      try dsimp +instances only
                                                                      refine zO.gd g4 ?_
                                                                      try dsimp +instances only
                                                                      refine zO.gd g5 ?_
                                                                      try dsimp +instances only
                                                                      refine zO.bind (q_move (hx _).2 (hx _).2 I) (fun v s1 p => ?_)
                                                                      try dsimp +instances only
                                                                      refine zO.gd g1 ?_
                                                                      try dsimp +instances only
                                                                      refine zO.gd g2 ?_
                                                                      try dsimp +instances only
                                                                      refine zO.gd g3 ?_
                                                                      try dsimp +instances only
                                                                      refine zO.gd g4 ?_
                                                                      try dsimp +instances only
                                                                      refine zO.gd g5 ?_
                                                                      try dsimp +instances only
                                                                      refine zO.bind p (fun w s2 q => ?_)
                                                                      try dsimp +instances only
                                                                      unfold g_jRangeAnswersLaw_law_L1367
                                                                      rw [w6]
                                                                      exact z_loop hxl hx n (x3 + 6) s2 q.1 k1 k2 k3
                                                                    · clear c
                                                                      try dsimp +instances only
                                                                      refine zO.ite (fun c => ?_) (fun c => ?_)
                                                                      · clear c
                                                                        try dsimp +instances only
                                                                        refine zO.gd g1 ?_
                                                                        try dsimp +instances only
                                                                        refine zO.gd g2 ?_
                                                                        try dsimp +instances only
                                                                        refine zO.bind (q_lay (hx _) I) (fun v s1 p => ?_)
                                                                        try dsimp +instances only
                                                                        refine zO.gd g1 ?_
                                                                        try dsimp +instances only
                                                                        refine zO.gd g2 ?_
                                                                        try dsimp +instances only
                                                                        refine zO.bind p (fun w s2 q => ?_)
                                                                        try dsimp +instances only
                                                                        unfold g_jRangeAnswersLaw_law_L1367
                                                                        rw [w6]
                                                                        exact z_loop hxl hx n (x3 + 6) s2 q k1 k2 k3
                                                                      · clear c
                                                                        try dsimp +instances only
                                                                        refine zO.ite (fun c => ?_) (fun c => ?_)
                                                                        · clear c
                                                                          try dsimp +instances only
                                                                          refine zO.gd g1 ?_
                                                                          try dsimp +instances only
                                                                          refine zO.gd g2 ?_
                                                                          try dsimp +instances only
                                                                          refine zO.bind (q_judge (hx _) I) (fun v s1 p => ?_)
                                                                          try dsimp +instances only
                                                                          refine zO.gd g1 ?_
                                                                          try dsimp +instances only
                                                                          refine zO.gd g2 ?_
                                                                          try dsimp +instances only
                                                                          refine zO.bind p (fun w s2 q => ?_)
                                                                          try dsimp +instances only
                                                                          unfold g_jRangeAnswersLaw_law_L1367
                                                                          rw [w6]
                                                                          exact z_loop hxl hx n (x3 + 6) s2 q k1 k2 k3
                                                                        · clear c
                                                                          try dsimp +instances only
                                                                          refine zO.ite (fun c => ?_) (fun c => ?_)
                                                                          · clear c
                                                                            try dsimp +instances only
                                                                            refine zO.bind (q_image I) (fun v s1 p => ?_)
                                                                            try dsimp +instances only
                                                                            refine zO.bind p (fun w s2 q => ?_)
                                                                            try dsimp +instances only
                                                                            unfold g_jRangeAnswersLaw_law_L1367
                                                                            rw [w6]
                                                                            exact z_loop hxl hx n (x3 + 6) s2 q k1 k2 k3
                                                                          · clear c
                                                                            try dsimp +instances only
                                                                            refine zO.ite (fun c => ?_) (fun c => ?_)
                                                                            · clear c
                                                                              try dsimp +instances only
                                                                              refine zO.bind (q_undo I) (fun v s1 p => ?_)
                                                                              try dsimp +instances only
                                                                              refine zO.bind p (fun w s2 q => ?_)
                                                                              try dsimp +instances only
                                                                              unfold g_jRangeAnswersLaw_law_L1367
                                                                              rw [w6]
                                                                              exact z_loop hxl hx n (x3 + 6) s2 q k1 k2 k3
                                                                            · clear c
                                                                              try dsimp +instances only
                                                                              unfold g_jRangeAnswersLaw_law_L1367
                                                                              rw [w6]
                                                                              exact z_loop hxl hx n (x3 + 6) σ I k1 k2 k3
theorem z_main : z_goal 3072 := z_fin (by decide) (fun xl xs hxl => by
  obtain ⟨v, s, e, rfl⟩ := z_loop (xs := xs) hxl (fun X => ⟨Int32.le_toInt X, Int32.toInt_lt X⟩) zK 0 s0 Inv2_s0 (by omega) (by omega) (by show _ < (1000000 : Int); omega)
  exact ⟨s, e⟩)
end
