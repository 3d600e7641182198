/-! BOTH SIDES: every pair of calls keeps the rows and counts told alike, and what they answer -/
theorem p_crow {r w : Int} {σ : zS} (H : CI σ) (R : Rel σ) : g_c_row r w σ = some (rowA σ r w, σ) := by
  obtain ⟨⟨⟨S, hr⟩, -⟩, -, -⟩ := R
  unfold g_c_row rowA
  rw [p_isRow]
  rw [Option.bind_some]
  try dsimp +instances only
  by_cases c1 : 0 ≤ r ∧ r < 60
  · obtain ⟨k, rfl⟩ : ∃ k : Nat, r = (k : Int) := ⟨r.toNat, by omega⟩
    have hk : k < 60 := by omega
    obtain ⟨g1, g2, g3, -⟩ := hr k hk
    rw [if_pos c1, if_pos c1, if_neg (by decide)]
    by_cases c2 : 0 ≤ w ∧ w ≤ 1
    · rw [if_pos c2, if_neg (by omega), if_pos c2.2, p_isIn hk, ST_bit H S hk]
      rw [Option.bind_some]
      try dsimp +instances only
      by_cases c3 : σ 144 (20 + 3 * (k : Int)) = 0
      · have hI : inS σ 144 k = false := decide_eq_false (fun h => by omega)
        rw [hI, if_pos c3, if_neg (by decide)]
      · have hI : inS σ 144 k = true := decide_eq_true ⟨hk, by omega⟩
        rw [hI, if_neg c3, if_pos (by decide)]
        by_cases c4 : w ≠ 0
        · rw [if_pos c4, if_pos c1, show 21 + 3 * (k : Int) + w = 22 + 3 * (k : Int) by omega, ← g3]
        · rw [if_neg c4, if_pos c1, show 21 + 3 * (k : Int) + w = 21 + 3 * (k : Int) by omega, ← g2]
    · rw [if_neg c2]
      by_cases c4 : w < 0
      · rw [if_pos c4]
      · rw [if_neg c4, if_neg (by omega)]
  · rw [if_neg c1, if_neg c1, if_pos rfl]
theorem p_cworth {r : Int} {σ : zS} (H : CI σ) (R : Rel σ) : g_c_worth r σ = some (worthA σ r, σ) := by
  obtain ⟨⟨⟨S, hr⟩, -⟩, -, -⟩ := R
  unfold g_c_worth worthA
  by_cases c1 : 0 ≤ r ∧ r < 60
  · obtain ⟨k, rfl⟩ : ∃ k : Nat, r = (k : Int) := ⟨r.toNat, by omega⟩
    have hk : k < 60 := by omega
    obtain ⟨g1, g2, g3, g4, -⟩ := hr k hk
    rw [if_pos c1, p_isIn hk, ST_bit H S hk]
    rw [Option.bind_some]
    try dsimp +instances only
    by_cases c3 : σ 144 (20 + 3 * (k : Int)) = 1
    · have hI : inS σ 144 k = true := decide_eq_true ⟨hk, c3⟩
      rw [hI, if_pos c3, if_neg (by decide), if_pos c1, ← g4]
    · have hI : inS σ 144 k = false := decide_eq_false (fun h => c3 h.2)
      rw [hI, if_neg c3, if_pos (by decide)]
  · rw [if_neg c1, p_isInN c1]
    rw [Option.bind_some]
    try dsimp +instances only
    rw [if_pos rfl]
def iE (σ s : zS) : Prop := ∀ a j, ((75 ≤ a ∧ a ≤ 80) ∨ (a = 74 ∧ j = 4) ∨ (a = 96 ∧ j = 1) ∨ (a = 98 ∧ j = 5) ∨ (a = 39 ∧ j = 2) ∨ (a = 97 ∨ a = 99 ∨ a = 100 ∨ a = 101) ∨ a = 145 ∨ a = 148 ∨ (a = 143 ∧ j = 6)) → s a j = σ a j
theorem iE.trans {σ s t : zS} (h1 : iE σ s) (h2 : iE s t) : iE σ t := fun a j k => (h2 a j k).trans (h1 a j k)
theorem Rel_img {σ s : zS} (H : CI σ) (R : Rel σ) (e : iE σ s) (B : BK s 41 144 147) : Rel s := by
  obtain ⟨-, h6, Bi⟩ := R
  have c4' := CI.c4 (a := 74) H (by omega)
  refine ⟨B, ?_, fun h => ?_⟩
  · rw [e 39 2 (by omega), e 143 6 (by omega)]; exact h6
  · rw [e 143 6 (by omega)] at h
    exact BK_mv (Bi h) c4' (e 74 4 (by omega)) (fun k h1 h2 j _ => e (74 + k) _ (by omega)) (fun k h1 h2 j _ => e (74 + k) _ (by omega)) (e 96 1 (by omega)) (e 98 5 (by omega)) (fun t _ _ => e 97 _ (by omega)) (fun k h1 h2 j _ => e (74 + k) _ (by omega)) (fun j _ => e 145 j (by omega)) (fun j _ _ => e 148 j (by omega))
/-- a class's call that leaves the image alone -/
def iF (F : Nat → Int → Bool) : Prop := ∀ j, F 75 j = false ∧ F 76 j = false ∧ F 77 j = false ∧ F 78 j = false ∧ F 79 j = false ∧ F 80 j = false ∧ F 74 4 = false ∧ F 96 1 = false ∧ F 98 5 = false ∧ F 39 2 = false ∧ F 97 j = false ∧ F 99 j = false ∧ F 100 j = false ∧ F 101 j = false
theorem iE.of {F : Nat → Int → Bool} {σ s : zS} (G : fr F σ s) (h : iF F) : iE σ s := fun a j k => by
  obtain ⟨h1, h2, h3, h4, h5, h6, h7, h8, h9, h10, h11, h12, h13, h14⟩ := h j
  rcases k with k | ⟨rfl, rfl⟩ | ⟨rfl, rfl⟩ | ⟨rfl, rfl⟩ | ⟨rfl, rfl⟩ | (rfl | rfl | rfl | rfl) | rfl | rfl | ⟨rfl, rfl⟩
  · have k6 : a = 75 ∨ a = 76 ∨ a = 77 ∨ a = 78 ∨ a = 79 ∨ a = 80 := by omega
    rcases k6 with rfl | rfl | rfl | rfl | rfl | rfl
    · exact G _ _ (Or.inr h1)
    · exact G _ _ (Or.inr h2)
    · exact G _ _ (Or.inr h3)
    · exact G _ _ (Or.inr h4)
    · exact G _ _ (Or.inr h5)
    · exact G _ _ (Or.inr h6)
  · exact G _ _ (Or.inr h7)
  · exact G _ _ (Or.inr h8)
  · exact G _ _ (Or.inr h9)
  · exact G _ _ (Or.inr h10)
  · exact G _ _ (Or.inr h11)
  · exact G _ _ (Or.inr h12)
  · exact G _ _ (Or.inr h13)
  · exact G _ _ (Or.inr h14)
  · exact G _ _ (Or.inl (by decide))
  · exact G _ _ (Or.inl (by decide))
  · exact G _ _ (Or.inl (by decide))
theorem chgA_bd {b v n : Int} (h : -2147483648 ≤ v ∧ v < 2147483648) : -2147483648 ≤ chgA b v n ∧ chgA b v n < 2147483648 := by
  unfold chgA
  have hw := w32_bd (v + 1)
  split
  · exact h
  · exact hw
theorem lOr_ok (x y : Int) : okL (lOr x y) := by
  unfold lOr
  have h1 := Int64.le_toInt (Int64.ofInt x ||| Int64.ofInt y)
  have h2 := Int64.toInt_lt (Int64.ofInt x ||| Int64.ofInt y)
  omega
def bxs (σ : zS) (k : Nat) : Bx := bxA σ 144 (301 + 6 * (k : Int))
theorem BK.wc {σ : zS} (B : BK σ 41 144 147) : WC σ (bxs σ) := fun k h1 h2 => by
  obtain ⟨-, -, b3, -, b5⟩ := B
  have b3 : σ 65 5 = σ 144 10 := b3
  obtain ⟨g1, g2, -, g4, g5, -⟩ := b5 k h1 (by omega)
  have g4 : σ 66 (k : Int) = σ 144 (300 + 6 * (k : Int)) := g4
  rw [g4]
  exact ⟨g1, g5, g2.1, g2.2⟩
theorem BK.ok {σ : zS} (B : BK σ 41 144 147) : ok44 σ := fun r hr => by
  obtain ⟨-, -, -, g4, g5⟩ := B.1.2 r hr
  have g4 : σ 44 (r : Int) = σ 147 (1 + (r : Int)) := g4
  rw [g4]
  exact g5
theorem BK.wr {σ s : zS} (B : BK σ 41 144 147) (e : s 144 = σ 144) : WR s (bxs σ) := fun k h1 h2 => by
  rw [e] at h2
  obtain ⟨-, g2, g3, -, -, -⟩ := B.2.2.2.2 k h1 h2
  unfold bxs bxA
  rw [e]
  exact ⟨rfl, g2, g3⟩
theorem BK.ok7 {σ s : zS} (B : BK σ 41 144 147) (e : s 147 = σ 147) : ok147 s := fun r hr => by
  obtain ⟨-, -, -, -, g5⟩ := B.1.2 r hr
  rw [e]
  exact g5
theorem WT_put {σ s1 s2 : zS} (B : BK σ 41 144 147) (R2 : RW s2 41 144 147) (cls : ∀ x j, x < 143 → s2 x j = s1 x j) (e4 : s1 144 = σ 144) (e7 : s1 147 = σ 147) (c66 : ∀ j, s1 66 j = σ 66 j) (c67 : ∀ j, s1 67 j = σ 67 j) (cw : ∀ i : Nat, (i : Int) < σ 65 5 → s1 68 (i : Int) = chgA (valC σ 41 (bxs σ i) (σ 66 (i : Int))) (σ 68 (i : Int)) (valC s1 41 (bxs σ i) (σ 66 (i : Int)))) (tw : chP s1 s2 (bxs σ)) : WT s2 41 144 := fun k h1 h2 => by
  obtain ⟨b1, -, b3, -, b5⟩ := B
  obtain ⟨t1, t2⟩ := tw
  have b3 : σ 65 5 = σ 144 10 := b3
  rw [t1 10 (Or.inl rfl), e4] at h2
  obtain ⟨g1, g2, g3, g4, g5, g6⟩ := b5 k h1 h2
  have g4 : σ 66 (k : Int) = σ 144 (300 + 6 * (k : Int)) := g4
  have g5 : σ 67 (k : Int) = enc (bxA σ 144 (301 + 6 * (k : Int))) := g5
  have g6 : σ 68 (k : Int) = σ 144 (305 + 6 * (k : Int)) := g6
  have eb : bxA s2 144 (301 + 6 * (k : Int)) = bxA σ 144 (301 + 6 * (k : Int)) := by
    unfold bxA
    rw [t1 _ (Or.inr (by unfold n5; omega)), t1 _ (Or.inr (by unfold n5; omega)), t1 _ (Or.inr (by unfold n5; omega)), t1 _ (Or.inr (by unfold n5; omega)), e4]
  have e300 : s2 144 (300 + 6 * (k : Int)) = σ 144 (300 + 6 * (k : Int)) := by
    rw [t1 _ (Or.inr (by unfold n5; omega)), e4]
  have v1 : VR s1 (bxs σ) k = valC σ 41 (bxs σ k) (σ 66 (k : Int)) := by
    unfold VR
    rw [e4, e7, g4, val_eq b1]
  have st : stE s1 s2 := fun a j h => cls a j (by unfold stK at h; omega)
  have v2 : VR s2 (bxs σ) k = valC s1 41 (bxs σ k) (σ 66 (k : Int)) := by
    unfold VR
    rw [e300, g4, ← valC_E st, val_eq R2]
  have c := cw k (by omega)
  have d := t2 k (by rw [e4]; exact h2)
  rw [v1, v2, e4] at d
  rw [g6] at c
  refine ⟨by rw [eb]; exact g1, by rw [e300]; exact g2, ?_, ?_, ?_, ?_⟩
  · rw [d]
    exact chgA_bd g3
  · show s2 66 _ = _
    rw [cls 66 _ (by decide), c66, e300]
    exact g4
  · show s2 67 _ = _
    rw [cls 67 _ (by decide), c67, eb]
    exact g5
  · show s2 68 _ = _
    rw [cls 68 _ (by decide), c, d]
theorem q_put {a b c d : Int} {σ : zS} (hd : okL d) (I : Inv2 σ) : two (g_c_put a b c d σ) (g_m_put a b c d) (fun _ _ s => Inv2 s) := by
  obtain ⟨I1, R⟩ := I
  obtain ⟨v, s1, e1, w, s2, e2, J⟩ := o_put (a := a) (b := b) (c := c) (d := d) I1
  refine ⟨v, s1, e1, w, s2, e2, J, ?_⟩
  obtain ⟨H1, G1, -⟩ := zP'.of (g_c_put_sp (x1 := a) (x2 := b) (x3 := c) (y4 := d) I1.1) v s1 e1
  have M1 : MI s1 := MI_cls I1.2.1 (fun x j h1 h2 => G1 x j (Or.inl ⟨h1, h2⟩))
  obtain ⟨c1, c2⟩ := c_put (r := a) (x := b) (y := c) (v := d) I1.1 R.1.1.1 v s1 e1
  obtain ⟨w', s2', e2', t1, t2⟩ := t_put (r := a) (x := b) (y := c) (v := d) M1.2.1 M1.1
  obtain ⟨w3, s3, e3, -, -, f3⟩ := s_put (r := a) (x := b) (y := c) (v := d) M1.2.1 M1.1
  rw [e2] at e2' e3
  cases e2'
  cases e3
  have ref : ∀ x j, 143 ≤ x → x < 168 → s1 x j = σ x j := fun x j h1 h2 => G1 x j (Or.inl ⟨h1, h2⟩)
  have cls : ∀ x j, x < 143 → s2 x j = s1 x j := fun x j h => f3 x j (by omega) (by omega) (by omega) (by omega) (by omega) (by omega) (by omega) (by omega) (by omega)
  have im : iE σ s2 := (iE.of G1 (fun _ => ⟨rfl, rfl, rfl, rfl, rfl, rfl, rfl, rfl, rfl, rfl, rfl, rfl, rfl, rfl⟩)).trans (fun x j h => f3 x j (by omega) (by omega) (by omega) (by omega) (by omega) (by omega) (by omega) (by omega) (by omega))
  obtain ⟨cw1, cw2⟩ := c_putW (B := bxs σ) I1.1 R.1.1.1 R.1.wc R.1.ok hd v s1 e1
  have q4 : s1 144 = σ 144 := funext (fun j => ref 144 j (by decide) (by decide))
  have q7 : s1 147 = σ 147 := funext (fun j => ref 147 j (by decide) (by decide))
  obtain ⟨w4, s4, e4, tw1, tw2⟩ := t_putW (r := a) (x := b) (y := c) (v := d) (B := bxs σ) M1.2.1 M1.1 (R.1.wr q4) (R.1.ok7 q7) hd
  rw [e2] at e4
  cases e4
  by_cases ca : acc a b c d
  case neg =>
    rw [tw2 ca, cw2 ca]
    exact R
  refine Rel_img I1.1 R im ?_
  have n9 : s2 63 1 = s2 144 9 := by
    rw [cls 63 1 (by decide), G1 63 1 (Or.inr rfl), f3 144 9 (by omega) (by omega) (by omega) (by omega) (by omega) (by omega) (by omega) (by omega) (by omega), ref 144 9 (by decide) (by decide)]
    exact R.1.2.1
  have n10 : s2 65 5 = s2 144 10 := by
    rw [cls 65 5 (by decide), G1 65 5 (Or.inr rfl), f3 144 10 (by omega) (by omega) (by omega) (by omega) (by omega) (by omega) (by omega) (by omega) (by omega), ref 144 10 (by decide) (by decide)]
    exact R.1.2.2.1
  have rw2 : RW s2 41 144 147 := by
    obtain ⟨k, rfl, hk, S, x1, x2, x3⟩ := c1 ca
    obtain ⟨r1, r2⟩ := t1 ca
    have eI : inS s2 144 = fun q => inS σ 144 q || decide (q = k) := by
      funext q
      unfold inS
      by_cases cq : q < 60
      · rw [r1 _ (by omega) (by omega), ref 144 _ (by decide) (by decide)]
        by_cases ck : q = k
        · subst ck
          rw [if_pos rfl]
          simp [cq]
        · rw [if_neg (by omega), if_neg (by omega), if_neg (by omega)]
          simp [ck]
      · have ck : ¬ q = k := by omega
        simp [cq, ck]
    refine ⟨?_, fun q hq => ?_⟩
    · rw [eI]
      exact ST_E S (fun x j h => cls x j (by unfold stK at h; omega))
    · obtain ⟨g1, g2, g3, g4, g5⟩ := R.1.1.2 q hq
      show (s2 144 _ = 0 ∨ s2 144 _ = 1) ∧ s2 42 _ = _ ∧ s2 43 _ = _ ∧ s2 44 _ = _ ∧ okL _
      rw [cls 42 _ (by decide), cls 43 _ (by decide), cls 44 _ (by decide), x1, x2, x3, r1 _ (by omega) (by omega), r1 _ (by omega) (by omega), r1 _ (by omega) (by omega), r2 _ (by omega) (by omega), ref 144 _ (by decide) (by decide), ref 144 _ (by decide) (by decide), ref 144 _ (by decide) (by decide), ref 147 _ (by decide) (by decide)]
      by_cases ck : q = k
      · subst ck
        rw [if_pos rfl, if_pos rfl, if_pos rfl, if_pos rfl, if_neg (by omega), if_pos rfl, if_neg (by omega), if_neg (by omega), if_pos rfl, if_pos rfl]
        exact ⟨Or.inr rfl, rfl, rfl, rfl, hd⟩
      · rw [if_neg (by omega), if_neg (by omega), if_neg (by omega), if_neg (by omega), if_neg (by omega), if_neg (by omega), if_neg (by omega), if_neg (by omega), if_neg (by omega), if_neg (by omega), if_neg (by omega), if_neg (by omega), if_neg (by omega)]
        exact ⟨g1, g2, g3, g4, g5⟩
  refine ⟨rw2, n9, n10, TR_mv R.1.2.2.2.1 (fun t _ => ?_) (fun j hj => ?_), WT_put R.1 rw2 cls q4 q7 (fun j => G1 66 j (Or.inr rfl)) (fun j => G1 67 j (Or.inr rfl)) (cw1 ca) (tw1 ca)⟩
  · show s2 64 _ = σ 64 _
    rw [cls 64 _ (by decide)]
    exact G1 64 _ (Or.inr rfl)
  · rw [f3 144 _ (by omega) (by omega) (by omega) (by omega) (by omega) (by omega) (by omega) (by omega) (by omega), q4]
theorem q_take {a : Int} {σ : zS} (I : Inv2 σ) : two (g_c_take a σ) (g_m_take a) (fun _ _ s => Inv2 s) := by
  obtain ⟨I1, R⟩ := I
  obtain ⟨v, s1, e1, w, s2, e2, J⟩ := o_take (a := a) I1
  refine ⟨v, s1, e1, w, s2, e2, J, ?_⟩
  obtain ⟨H1, G1, -⟩ := zP'.of (g_c_take_sp (x1 := a) I1.1) v s1 e1
  have M1 : MI s1 := MI_cls I1.2.1 (fun x j h1 h2 => G1 x j (Or.inl ⟨h1, h2⟩))
  obtain ⟨c1, c2⟩ := c_take (r := a) I1.1 R.1.1.1 v s1 e1
  obtain ⟨w', s2', e2', t1, t2⟩ := t_take (r := a) M1.2.1 M1.1
  obtain ⟨w3, s3, e3, -, -, f3⟩ := s_take (r := a) M1.2.1 M1.1
  rw [e2] at e2' e3
  cases e2'
  cases e3
  have ref : ∀ x j, 143 ≤ x → x < 168 → s1 x j = σ x j := fun x j h1 h2 => G1 x j (Or.inl ⟨h1, h2⟩)
  have cls : ∀ x j, x < 143 → s2 x j = s1 x j := fun x j h => f3 x j (by omega) (by omega) (by omega) (by omega) (by omega) (by omega) (by omega) (by omega) (by omega)
  have im : iE σ s2 := (iE.of G1 (fun _ => ⟨rfl, rfl, rfl, rfl, rfl, rfl, rfl, rfl, rfl, rfl, rfl, rfl, rfl, rfl⟩)).trans (fun x j h => f3 x j (by omega) (by omega) (by omega) (by omega) (by omega) (by omega) (by omega) (by omega) (by omega))
  obtain ⟨cw1, cw2⟩ := c_takeW (r := a) (B := bxs σ) I1.1 R.1.1.1 R.1.wc R.1.ok v s1 e1
  have q4 : s1 144 = σ 144 := funext (fun j => ref 144 j (by decide) (by decide))
  have q7 : s1 147 = σ 147 := funext (fun j => ref 147 j (by decide) (by decide))
  obtain ⟨w4, s4, e4, tw1, tw2⟩ := t_takeW (r := a) (B := bxs σ) M1.2.1 M1.1 (R.1.wr q4) (R.1.ok7 q7)
  rw [e2] at e4
  cases e4
  rw [ref 144 _ (by decide) (by decide)] at t1 t2 tw1 tw2
  by_cases ca : (0 ≤ a ∧ a < 60) ∧ σ 144 (20 + 3 * a) ≠ 0
  case neg =>
    have hin : ¬ ((0 ≤ a ∧ a < 60) ∧ inS σ 144 a.toNat = true) := fun h => by
      have h2 := of_decide_eq_true h.2
      rw [show ((a.toNat : Nat) : Int) = a by omega] at h2
      exact ca ⟨h.1, by omega⟩
    rw [tw2 ca, cw2 hin]
    exact R
  refine Rel_img I1.1 R im ?_
  have n9 : s2 63 1 = s2 144 9 := by
    rw [cls 63 1 (by decide), G1 63 1 (Or.inr rfl), f3 144 9 (by omega) (by omega) (by omega) (by omega) (by omega) (by omega) (by omega) (by omega) (by omega), ref 144 9 (by decide) (by decide)]
    exact R.1.2.1
  have n10 : s2 65 5 = s2 144 10 := by
    rw [cls 65 5 (by decide), G1 65 5 (Or.inr rfl), f3 144 10 (by omega) (by omega) (by omega) (by omega) (by omega) (by omega) (by omega) (by omega) (by omega), ref 144 10 (by decide) (by decide)]
    exact R.1.2.2.1
  have hin : inS σ 144 a.toNat = true := by
    obtain ⟨g1, -, -, -⟩ := R.1.1.2 a.toNat (by omega)
    rw [show ((a.toNat : Nat) : Int) = a by omega] at g1
    refine decide_eq_true ⟨by omega, ?_⟩
    rw [show ((a.toNat : Nat) : Int) = a by omega]
    omega
  have rw2 : RW s2 41 144 147 := by
    obtain ⟨k, rfl, S, x1⟩ := c1 ⟨ca.1, hin⟩
    obtain ⟨r1, r2⟩ := t1 ca
    have hk : k < 60 := by omega
    have eI : inS s2 144 = fun q => inS σ 144 q && !decide (q = k) := by
      funext q
      unfold inS
      by_cases cq : q < 60
      · rw [r1 _ (by omega) (by omega), ref 144 _ (by decide) (by decide)]
        by_cases ck : q = k
        · subst ck
          rw [if_pos rfl]
          simp
        · rw [if_neg (by omega)]
          simp [ck]
      · simp [cq]
    refine ⟨?_, fun q hq => ?_⟩
    · rw [eI]
      exact ST_E S (fun x j h => cls x j (by unfold stK at h; omega))
    · obtain ⟨g1, g2, g3, g4, g5⟩ := R.1.1.2 q hq
      show (s2 144 _ = 0 ∨ s2 144 _ = 1) ∧ s2 42 _ = _ ∧ s2 43 _ = _ ∧ s2 44 _ = _ ∧ okL _
      rw [cls 42 _ (by decide), cls 43 _ (by decide), cls 44 _ (by decide), x1 42 _ (by omega), x1 43 _ (by omega), x1 44 _ (by omega)]
      refine ⟨?_, ?_, ?_, ?_, ?_⟩
      · rw [r1 _ (by omega) (by omega)]
        by_cases ck : 20 + 3 * (q : Int) = 20 + 3 * (k : Int)
        · rw [if_pos ck]; exact Or.inl rfl
        · rw [if_neg ck, ref 144 _ (by decide) (by decide)]; exact g1
      · rw [r1 _ (by omega) (by omega), if_neg (by omega), ref 144 _ (by decide) (by decide)]; exact g2
      · rw [r1 _ (by omega) (by omega), if_neg (by omega), ref 144 _ (by decide) (by decide)]; exact g3
      · rw [r2 _ (by omega) (by omega), ref 147 _ (by decide) (by decide)]; exact g4
      · rw [r2 _ (by omega) (by omega), ref 147 _ (by decide) (by decide)]; exact g5
  refine ⟨rw2, n9, n10, TR_mv R.1.2.2.2.1 (fun t _ => ?_) (fun j hj => ?_), WT_put R.1 rw2 cls q4 q7 (fun j => G1 66 j (Or.inr rfl)) (fun j => G1 67 j (Or.inr rfl)) (cw1 ⟨ca.1, hin⟩) (tw1 ca)⟩
  · show s2 64 _ = σ 64 _
    rw [cls 64 _ (by decide)]
    exact G1 64 _ (Or.inr rfl)
  · rw [f3 144 _ (by omega) (by omega) (by omega) (by omega) (by omega) (by omega) (by omega) (by omega) (by omega), q4]
theorem q_trace {a b c d : Int} {σ : zS} (I : Inv2 σ) : two (g_c_trace a b c d σ) (g_m_trace a b c d) (fun v w s => Inv2 s ∧ v = w) := by
  obtain ⟨I1, R⟩ := I
  obtain ⟨v, s1, e1, w, s2, e2, J⟩ := o_trace (a := a) (b := b) (c := c) (d := d) I1
  have h9 := I1.2.1.2.1.2.2.2.1
  have R9 : σ 63 1 = σ 144 9 := R.1.2.1
  obtain ⟨s1', e1', n1, f1, tr1, tr2⟩ := p_trace (x0 := a) (x1 := b) (y0 := c) (y1 := d) (σ := σ) (by rw [R9]; exact h9)
  rw [e1] at e1'
  cases e1'
  have r9 : s1 144 9 = σ 144 9 := f1 144 9 (by decide) (Or.inl (by decide))
  obtain ⟨s2', e2', n2, f2, tt1, tt2⟩ := t_trace (x0 := a) (x1 := b) (y0 := c) (y1 := d) (σ := s1) (by rw [r9]; exact h9)
  rw [e2] at e2'
  cases e2'
  refine ⟨_, s1, e1, _, s2, e2, ⟨J, ?_⟩, by rw [r9, R9]⟩
  have hi : ∀ j, 300 ≤ j → s2 144 j = σ 144 j := fun j hj => by
    rw [← f1 144 j (by decide) (Or.inl (by decide))]
    by_cases ok : trOk (s1 144 9) a b c d
    · have hn := ok.2.2
      rw [r9] at hn
      exact (tt1 ok).2 j (by omega) (Or.inr (by rw [r9]; omega))
    · exact tt2 ok j (by omega)
  have all : ∀ x j, x ≠ 64 → (x ≠ 63 ∨ j ≠ 1) → (x ≠ 144 ∨ (j ≠ 9 ∧ j < 260)) → s2 x j = σ x j := fun x j k1 k2 k3 => (f2 x j k3).trans (f1 x j k1 k2)
  refine Rel_img I1.1 R (fun x j h => all x j (by omega) (by omega) (by omega)) ⟨?_, ?_, ?_, fun t ht h => ?_, ?_⟩
  · exact RW_mv R.1.1 (CI.c4 (a := 41) I1.1 (by omega)) (all 41 4 (by omega) (by omega) (by omega)) (fun k h1 h2 j _ => all (41 + k) _ (by omega) (by omega) (by omega)) (fun k h1 h2 j _ => all (41 + k) _ (by omega) (by omega) (by omega)) (fun j _ => all 144 j (by omega) (by omega) (by omega)) (fun j _ _ => all 147 j (by omega) (by omega) (by omega))
  · show s2 63 1 = s2 144 9
    rw [n2, f2 63 1 (by decide), n1, r9, R9]
  · show s2 65 5 = s2 144 10
    rw [all 65 5 (by omega) (by omega) (by omega), all 144 10 (by omega) (by omega) (by omega)]
    exact R.1.2.2.1
  · rw [n2, r9] at h
    by_cases ok : trOk (σ 144 9) a b c d
    · have hn : trN (σ 144 9) a b c d = σ 144 9 + 1 := by
        unfold trN
        rw [if_pos ok.1, if_pos ok.2.1, if_pos ok.2.2]
      rw [hn] at h
      obtain ⟨u1, u2⟩ := tr1 (by rw [R9]; exact ok)
      obtain ⟨w1, w2⟩ := tt1 (by rw [r9]; exact ok)
      rw [r9] at w1 w2
      rw [R9] at u1 u2
      by_cases ct : (t : Int) = σ 144 9
      · have eb : bxA s2 144 (260 + 4 * (t : Int)) = (a, b, c, d) := by rw [ct]; exact w1
        rw [eb]
        refine ⟨ok.2.1, ?_⟩
        show s2 64 _ = _
        rw [f2 64 _ (Or.inl (by decide)), ct]
        exact u1
      · have eb : bxA s2 144 (260 + 4 * (t : Int)) = bxA σ 144 (260 + 4 * (t : Int)) := by
          unfold bxA
          rw [w2 _ (by omega) (by omega), w2 _ (by omega) (by omega), w2 _ (by omega) (by omega), w2 _ (by omega) (by omega), f1 144 _ (by decide) (Or.inl (by decide)), f1 144 _ (by decide) (Or.inl (by decide)), f1 144 _ (by decide) (Or.inl (by decide)), f1 144 _ (by decide) (Or.inl (by decide))]
        obtain ⟨g1, g2⟩ := R.1.2.2.2.1 t ht (by omega)
        rw [eb]
        refine ⟨g1, ?_⟩
        show s2 64 _ = _
        rw [f2 64 _ (Or.inl (by decide)), u2 _ ct]
        exact g2
    · have hn : trN (σ 144 9) a b c d ≤ σ 144 9 := by
        unfold trN
        by_cases c1 : a ≠ -1
        · rw [if_pos c1]
          by_cases c2 : bOk (a, b, c, d)
          · rw [if_pos c2, if_neg (fun h => ok ⟨c1, c2, h⟩)]
            exact Int.le_refl _
          · rw [if_neg c2]
            exact Int.le_refl _
        · rw [if_neg c1]
          exact h9.1
      have u2 := tr2 (by rw [R9]; exact ok)
      have w2 := tt2 (by rw [r9]; exact ok)
      have eb : bxA s2 144 (260 + 4 * (t : Int)) = bxA σ 144 (260 + 4 * (t : Int)) := by
        unfold bxA
        rw [w2 _ (by omega), w2 _ (by omega), w2 _ (by omega), w2 _ (by omega), f1 144 _ (by decide) (Or.inl (by decide)), f1 144 _ (by decide) (Or.inl (by decide)), f1 144 _ (by decide) (Or.inl (by decide)), f1 144 _ (by decide) (Or.inl (by decide))]
      obtain ⟨g1, g2⟩ := R.1.2.2.2.1 t ht (by omega)
      rw [eb]
      refine ⟨g1, ?_⟩
      show s2 64 _ = _
      rw [f2 64 _ (Or.inl (by decide)), u2]
      exact g2
  · refine WT_mv R.1.2.2.2.2 (fun k k1 k2 j _ => all (41 + k) _ (by omega) (by omega) (by omega)) (fun j hj => ?_)
    by_cases c : j = 10
    · subst c
      exact all 144 10 (by omega) (by omega) (by omega)
    · exact hi j (by omega)
theorem q_watch {a b c d e : Int} {σ : zS} (I : Inv2 σ) : two (g_c_watch a b c d e σ) (g_m_watch a b c d e) (fun v w s => Inv2 s ∧ v = w) := by
  obtain ⟨I1, R⟩ := I
  obtain ⟨v, s1, e1, w, s2, e2, J⟩ := o_watch (a := a) (b := b) (c := c) (d := d) (e := e) I1
  have h10 := I1.2.1.2.1.2.2.2.2.1
  have R10 : σ 65 5 = σ 144 10 := R.1.2.2.1
  obtain ⟨s1', e1', n1, f1, tr1, tr2⟩ := p_watch (m := a) (x0 := b) (x1 := c) (y0 := d) (y1 := e) (σ := σ) (by rw [R10]; exact h10)
  rw [e1] at e1'
  cases e1'
  have r10 : s1 144 10 = σ 144 10 := f1 144 10 (by decide) (by decide) (by decide) (Or.inl (by decide))
  obtain ⟨s2', e2', n2, f2, tt1, tt2⟩ := t_watch (m := a) (x0 := b) (x1 := c) (y0 := d) (y1 := e) (σ := s1) (by rw [r10]; exact h10)
  rw [e2] at e2'
  cases e2'
  refine ⟨_, s1, e1, _, s2, e2, ⟨J, ?_⟩, by rw [r10, R10]⟩
  have all : ∀ x j, x ≠ 66 → x ≠ 67 → x ≠ 68 → (x ≠ 65 ∨ j ≠ 5) → (x ≠ 144 ∨ (j ≠ 10 ∧ j < 300)) → s2 x j = σ x j := fun x j k1 k2 k3 k4 k5 => (f2 x j k5).trans (f1 x j k1 k2 k3 k4)
  refine Rel_img I1.1 R (fun x j h => all x j (by omega) (by omega) (by omega) (by omega) (by omega)) ⟨?_, ?_, ?_, ?_, fun t ht h => ?_⟩
  · exact RW_mv R.1.1 (CI.c4 (a := 41) I1.1 (by omega)) (all 41 4 (by omega) (by omega) (by omega) (by omega) (by omega)) (fun k h1 h2 j _ => all (41 + k) _ (by omega) (by omega) (by omega) (by omega) (by omega)) (fun k h1 h2 j _ => all (41 + k) _ (by omega) (by omega) (by omega) (by omega) (by omega)) (fun j _ => all 144 j (by omega) (by omega) (by omega) (by omega) (by omega)) (fun j _ _ => all 147 j (by omega) (by omega) (by omega) (by omega) (by omega))
  · show s2 63 1 = s2 144 9
    rw [all 63 1 (by omega) (by omega) (by omega) (by omega) (by omega), all 144 9 (by omega) (by omega) (by omega) (by omega) (by omega)]
    exact R.1.2.1
  · show s2 65 5 = s2 144 10
    rw [n2, f2 65 5 (by decide), n1, r10, R10]
  · exact TR_mv R.1.2.2.2.1 (fun t _ => all 64 _ (by omega) (by omega) (by omega) (by omega) (by omega)) (fun j hj => all 144 j (by omega) (by omega) (by omega) (by omega) (by omega))
  · have g144 : ∀ j, s1 144 j = σ 144 j := fun j => f1 144 j (by decide) (by decide) (by decide) (Or.inl (by decide))
    have f66 : ∀ j, s2 66 j = s1 66 j ∧ s2 67 j = s1 67 j ∧ s2 68 j = s1 68 j := fun j => ⟨f2 66 j (Or.inl (by decide)), f2 67 j (Or.inl (by decide)), f2 68 j (Or.inl (by decide))⟩
    rw [n2, r10] at h
    show bOk (bxA s2 144 (301 + 6 * (t : Int))) ∧ _ ∧ _ ∧ s2 66 _ = _ ∧ s2 67 _ = _ ∧ s2 68 _ = _
    rw [(f66 _).1, (f66 _).2.1, (f66 _).2.2]
    by_cases ok : wtOk (σ 144 10) a b c d e
    · have hn : wtN (σ 144 10) a b c d e = σ 144 10 + 1 := by
        unfold wtN
        rw [if_pos ok.1, if_pos ok.2.1, if_pos ok.2.2]
      rw [hn] at h
      obtain ⟨⟨u1, u2, u3⟩, u4⟩ := tr1 (by rw [R10]; exact ok)
      obtain ⟨w1, w2, w3, w4⟩ := tt1 (by rw [r10]; exact ok)
      rw [r10] at w1 w2 w3 w4
      rw [R10] at u1 u2 u3 u4
      by_cases ct : (t : Int) = σ 144 10
      · rw [ct, w1, w2, w3, u1, u2, u3]
        exact ⟨ok.2.1, ok.1, by decide, rfl, rfl, rfl⟩
      · have eb : bxA s2 144 (301 + 6 * (t : Int)) = bxA σ 144 (301 + 6 * (t : Int)) := by
          unfold bxA
          rw [w4 _ (by omega) (by omega), w4 _ (by omega) (by omega), w4 _ (by omega) (by omega), w4 _ (by omega) (by omega), g144, g144, g144, g144]
        rw [eb, w4 _ (by omega) (by omega), w4 _ (by omega) (by omega), g144, g144, (u4 _ ct).1, (u4 _ ct).2.1, (u4 _ ct).2.2]
        exact R.1.2.2.2.2 t ht (by omega)
    · have hn : wtN (σ 144 10) a b c d e ≤ σ 144 10 := by
        unfold wtN
        by_cases c1 : 0 ≤ a ∧ a ≤ 6
        · rw [if_pos c1]
          by_cases c2 : bOk (b, c, d, e)
          · rw [if_pos c2, if_neg (fun h => ok ⟨c1, c2, h⟩)]
            exact Int.le_refl _
          · rw [if_neg c2]
            exact Int.le_refl _
        · rw [if_neg c1]
          exact Int.le_refl _
      have u4 := tr2 (by rw [R10]; exact ok)
      have w4 := tt2 (by rw [r10]; exact ok)
      have eb : bxA s2 144 (301 + 6 * (t : Int)) = bxA σ 144 (301 + 6 * (t : Int)) := by
        unfold bxA
        rw [w4 _ (by omega), w4 _ (by omega), w4 _ (by omega), w4 _ (by omega), g144, g144, g144, g144]
      rw [eb, w4 _ (by omega), w4 _ (by omega), g144, g144, (u4 _).1, (u4 _).2.1, (u4 _).2.2]
      exact R.1.2.2.2.2 t ht (by omega)
theorem q_image {σ : zS} (I : Inv2 σ) : two (g_c_image σ) g_m_image (fun _ _ s => Inv2 s) := by
  obtain ⟨I1, R⟩ := I
  obtain ⟨v, s1, e1, w, s2, e2, J⟩ := o_image I1
  refine ⟨v, s1, e1, w, s2, e2, J, ?_⟩
  have ht : σ 63 1 ≤ 10 := by
    have h9 := I1.2.1.2.1.2.2.2.1
    have R9 : σ 63 1 = σ 144 9 := R.1.2.1
    omega
  have c4 := CI.c4 (a := 41) I1.1 (by omega)
  have key : zP' (g_c_image σ) (fun _ s => s 74 4 = σ 41 4 ∧ (∀ k : Nat, 1 ≤ k → k ≤ 4 → ∀ j : Nat, j < 60 → s (74 + k) (j : Int) = σ (41 + k) (j : Int)) ∧ (∀ k : Nat, 5 ≤ k → k ≤ 6 → ∀ j : Nat, j ≤ 32 → s (74 + k) (j : Int) = σ (41 + k) (j : Int)) ∧ s 96 1 = σ 63 1 ∧ s 98 5 = σ 65 5 ∧ (∀ t : Nat, t < 10 → (t : Int) < σ 63 1 → s 97 (t : Int) = σ 64 (t : Int)) ∧ (∀ k : Nat, 25 ≤ k → k ≤ 27 → ∀ j : Nat, j < 6 → s (74 + k) (j : Int) = σ (41 + k) (j : Int)) ∧ (∀ a j, (a < 73 ∨ 104 ≤ a) → a < 106 → (a ≠ 39 ∨ j ≠ 2) → s a j = σ a j) ∧ s 39 2 = 1) := by
    unfold g_c_image
    refine zP'.bind (p_st_img I1.1 ht) (fun _ t p => ?_)
    obtain ⟨p1, p2, p3, p4, p5, pa, pb, p6⟩ := p
    try dsimp +instances only
    refine zP'.ret ⟨by (try dsimp only); rw [zu_a (by decide)]; exact p1, fun k h1 h2 j hj => by (try dsimp only); rw [zu_a (by omega)]; exact p2 k h1 h2 j hj, fun k h1 h2 j hj => by (try dsimp only); rw [zu_a (by omega)]; exact p3 k h1 h2 j hj, by (try dsimp only); rw [zu_a (by decide)]; exact p4, by (try dsimp only); rw [zu_a (by decide)]; exact p5, fun t0 h1 h2 => by (try dsimp only); rw [zu_a (by decide)]; exact pa t0 h1 h2, fun k h1 h2 j hj => by (try dsimp only); rw [zu_a (by omega)]; exact pb k h1 h2 j hj, fun a j h h2 h3 => by (try dsimp only); rw [zu_c h3]; exact p6 a j h h2, zu_e rfl⟩
  obtain ⟨k1, k2, k3, k4, k5, ka, kb, k6, k7⟩ := key v s1 e1
  obtain ⟨H1, G1, -⟩ := zP'.of (g_c_image_sp I1.1) v s1 e1
  have ref : ∀ x j, 143 ≤ x → x < 168 → s1 x j = σ x j := fun x j h1 h2 => G1 x j (Or.inl ⟨h1, h2⟩)
  have e2' := e2
  unfold g_m_image at e2'
  rw [s_keeps (a := 145) (b := 148) (by decide)] at e2'
  rw [Option.bind_some] at e2'
  dsimp only at e2'
  cases e2'
  have q : ∀ a j, a ≠ 145 → a ≠ 148 → ¬ (a = 143 ∧ j = 6) → zu (kpS s1 145 148) 143 6 1 a j = s1 a j := fun a j h1 h2 h3 => by
    rw [zu_c (by omega)]
    unfold kpS
    rw [if_neg (fun e => h1 e.1), if_neg (fun e => h2 e.1)]
  have q5 : ∀ j : Int, 0 ≤ j → j < 2740 → zu (kpS s1 145 148) 143 6 1 145 j = s1 144 j := fun j h1 h2 => by
    rw [zu_a (by decide)]
    unfold kpS
    rw [if_pos ⟨rfl, h1, h2⟩]
  have q8 : ∀ j : Int, 0 ≤ j → j < 361 → zu (kpS s1 145 148) 143 6 1 148 j = s1 147 j := fun j h1 h2 => by
    rw [zu_a (by decide)]
    unfold kpS
    rw [if_neg (fun e => absurd e.1 (by decide)), if_pos ⟨rfl, h1, h2⟩]
  refine ⟨?_, ?_, fun _ => ?_⟩
  · refine BK_mv R.1 c4 ?_ (fun k h1 h2 j hj => ?_) (fun k h1 h2 j hj => ?_) ?_ ?_ (fun t0 h1 h2 => ?_) (fun k h1 h2 j hj => ?_) (fun j hj => ?_) (fun j h1 h2 => ?_)
    · rw [q 41 4 (by decide) (by decide) (by omega)]; exact k6 41 4 (by omega) (by omega) (by omega)
    · rw [q (41 + k) _ (by omega) (by omega) (by omega)]; exact k6 (41 + k) _ (by omega) (by omega) (by omega)
    · rw [q (41 + k) _ (by omega) (by omega) (by omega)]; exact k6 (41 + k) _ (by omega) (by omega) (by omega)
    · rw [q (41 + 22) 1 (by decide) (by decide) (by omega)]; exact k6 63 1 (by omega) (by omega) (by omega)
    · rw [q (41 + 24) 5 (by decide) (by decide) (by omega)]; exact k6 65 5 (by omega) (by omega) (by omega)
    · rw [q (41 + 23) _ (by decide) (by decide) (by omega)]; exact k6 64 _ (by omega) (by omega) (by omega)
    · rw [q (41 + k) _ (by omega) (by omega) (by omega)]; exact k6 (41 + k) _ (by omega) (by omega) (by omega)
    · rw [q 144 j (by decide) (by decide) (by omega)]; exact ref 144 j (by decide) (by decide)
    · rw [q 147 j (by decide) (by decide) (by omega)]; exact ref 147 j (by decide) (by decide)
  · rw [q 39 2 (by decide) (by decide) (by omega), k7, zu_e rfl]
  · refine BK_mv R.1 c4 ?_ (fun k h1 h2 j hj => ?_) (fun k h1 h2 j hj => ?_) ?_ ?_ (fun t0 h1 h2 => ?_) (fun k h1 h2 j hj => ?_) (fun j hj => ?_) (fun j h1 h2 => ?_)
    · rw [q 74 4 (by decide) (by decide) (by omega)]; exact k1
    · rw [q (74 + k) _ (by omega) (by omega) (by omega)]; exact k2 k h1 h2 j hj
    · rw [q (74 + k) _ (by omega) (by omega) (by omega)]; exact k3 k h1 h2 j hj
    · rw [q (74 + 22) 1 (by decide) (by decide) (by omega)]; exact k4
    · rw [q (74 + 24) 5 (by decide) (by decide) (by omega)]; exact k5
    · rw [q (74 + 23) _ (by decide) (by decide) (by omega)]; exact ka t0 h1 h2
    · rw [q (74 + k) _ (by omega) (by omega) (by omega)]; exact kb k h1 h2 j hj
    · rw [q5 j (by omega) (by omega)]; exact ref 144 j (by decide) (by decide)
    · rw [q8 j (by omega) (by omega)]; exact ref 147 j (by decide) (by decide)
theorem q_undo {σ : zS} (I : Inv2 σ) : two (g_c_undo σ) g_m_undo (fun _ _ s => Inv2 s) := by
  obtain ⟨I1, R⟩ := I
  obtain ⟨v, s1, e1, w, s2, e2, J⟩ := o_undo I1
  refine ⟨v, s1, e1, w, s2, e2, J, ?_⟩
  have c4' := CI.c4 (a := 74) I1.1 (by omega)
  obtain ⟨H1, G1, -⟩ := zP'.of (g_c_undo_sp I1.1) v s1 e1
  have ref : ∀ x j, 143 ≤ x → x < 168 → s1 x j = σ x j := fun x j h1 h2 => G1 x j (Or.inl ⟨h1, h2⟩)
  by_cases c : σ 143 6 ≠ 0
  · have Bi := R.2.2 c
    have ht : σ 96 1 ≤ 10 := by
      have h9 := (I1.2.1.2.2.2 c).2.2.2.2.1
      have h9 : 0 ≤ σ 145 9 ∧ σ 145 9 ≤ 10 := h9
      have R9 : σ 96 1 = σ 145 9 := Bi.2.1
      omega
    have hc : σ 39 2 ≠ 0 := R.2.1.mpr c
    have key : zP' (g_c_undo σ) (fun _ s => s 41 4 = σ 74 4 ∧ (∀ k : Nat, 1 ≤ k → k ≤ 4 → ∀ j : Nat, j < 60 → s (41 + k) (j : Int) = σ (74 + k) (j : Int)) ∧ (∀ k : Nat, 5 ≤ k → k ≤ 6 → ∀ j : Nat, j ≤ 32 → s (41 + k) (j : Int) = σ (74 + k) (j : Int)) ∧ s 63 1 = σ 96 1 ∧ s 65 5 = σ 98 5 ∧ (∀ t : Nat, t < 10 → (t : Int) < σ 96 1 → s 64 (t : Int) = σ 97 (t : Int)) ∧ (∀ k : Nat, 25 ≤ k → k ≤ 27 → ∀ j : Nat, j < 6 → s (41 + k) (j : Int) = σ (74 + k) (j : Int)) ∧ (∀ a j, (a < 40 ∨ 71 ≤ a) → a < 106 → s a j = σ a j)) := by
      unfold g_c_undo
      try dsimp only
      rw [if_pos hc]
      refine zP'.bind (p_st_und I1.1 ht) (fun _ t p => zP'.ret p)
    obtain ⟨k1, k2, k3, k4, k5, ka, kb, k6⟩ := key v s1 e1
    have r6 : s1 143 6 ≠ 0 := by rw [ref 143 6 (by decide) (by decide)]; exact c
    have e2' := e2
    unfold g_m_undo at e2'
    dsimp only at e2'
    rw [if_pos r6, s_back (a := 145) (b := 148) (by decide)] at e2'
    rw [Option.bind_some] at e2'
    dsimp only at e2'
    cases e2'
    have q : ∀ a j, a ≠ 144 → a ≠ 147 → bkS s1 145 148 a j = s1 a j := fun a j h1 h2 => by
      unfold bkS
      rw [if_neg (fun e => h1 e.1), if_neg (fun e => h2 e.1)]
    have q4 : ∀ j : Int, 0 ≤ j → j < 2740 → bkS s1 145 148 144 j = s1 145 j := fun j h1 h2 => by
      unfold bkS
      rw [if_pos ⟨rfl, h1, h2⟩]
    have q7 : ∀ j : Int, 0 ≤ j → j < 361 → bkS s1 145 148 147 j = s1 148 j := fun j h1 h2 => by
      unfold bkS
      rw [if_neg (fun e => absurd e.1 (by decide)), if_pos ⟨rfl, h1, h2⟩]
    have im : iE σ (bkS s1 145 148) := fun a j h => by
      rw [q a j (by omega) (by omega)]
      by_cases ca : a < 143
      · exact k6 a j (by omega) (by omega)
      · exact ref a j (by omega) (by omega)
    refine Rel_img I1.1 R im (BK_mv Bi c4' ?_ (fun k h1 h2 j hj => ?_) (fun k h1 h2 j hj => ?_) ?_ ?_ (fun t0 h1 h2 => ?_) (fun k h1 h2 j hj => ?_) (fun j hj => ?_) (fun j h1 h2 => ?_))
    · rw [q 41 4 (by decide) (by decide)]; exact k1
    · rw [q (41 + k) _ (by omega) (by omega)]; exact k2 k h1 h2 j hj
    · rw [q (41 + k) _ (by omega) (by omega)]; exact k3 k h1 h2 j hj
    · rw [q (41 + 22) 1 (by decide) (by decide)]; exact k4
    · rw [q (41 + 24) 5 (by decide) (by decide)]; exact k5
    · rw [q (41 + 23) _ (by decide) (by decide)]; exact ka t0 h1 h2
    · rw [q (41 + k) _ (by omega) (by omega)]; exact kb k h1 h2 j hj
    · rw [q4 j (by omega) (by omega)]; exact ref 145 j (by decide) (by decide)
    · rw [q7 j (by omega) (by omega)]; exact ref 148 j (by decide) (by decide)
  · have c0 : ¬ σ 39 2 ≠ 0 := fun h => c (R.2.1.mp h)
    have e1' := e1
    unfold g_c_undo at e1'
    dsimp only at e1'
    rw [if_neg c0] at e1'
    cases e1'
    have e2' := e2
    unfold g_m_undo at e2'
    dsimp only at e2'
    rw [if_neg c] at e2'
    cases e2'
    exact R
/-! the others -/
theorem q_row {a b : Int} {σ : zS} (I : Inv2 σ) : two (g_c_row a b σ) (g_m_row a b) (fun v w s => Inv2 s ∧ v = w) := ⟨_, σ, p_crow I.1.1 I.2, _, σ, t_row, I, rfl⟩
theorem q_worth {a : Int} {σ : zS} (I : Inv2 σ) : two (g_c_worth a σ) (g_m_worth a) (fun v w s => Inv2 s ∧ v = w) := ⟨_, σ, p_cworth I.1.1 I.2, _, σ, t_worth, I, rfl⟩
theorem q_spell {σ : zS} (I : Inv2 σ) : two (g_c_spell σ) g_m_spell (fun _ _ s => Inv2 s) := ft (two_k I.2 I.1.1 (tt (o_spell I.1)) (hc_i I.1 (g_c_spell_sp I.1.1) ⟨fun _ => ⟨rfl, rfl, rfl, rfl, rfl, rfl, rfl, rfl, rfl, rfl, rfl, rfl, rfl, rfl, rfl, rfl, rfl, rfl, rfl⟩, fun _ => ⟨rfl, rfl, rfl, rfl, rfl, rfl, rfl, rfl⟩⟩) (hm_k (mC (fun _ h => m_spell h)) (fun _ h => k_spell h)))
theorem q_explain {a b c d : Int} {σ : zS} (I : Inv2 σ) : two (g_c_explain a b c d σ) (g_m_explain a b c d) (fun _ _ s => Inv2 s) := ft (two_k I.2 I.1.1 (tt (o_explain I.1)) (hc_i I.1 (g_c_explain_sp I.1.1) ⟨fun _ => ⟨rfl, rfl, rfl, rfl, rfl, rfl, rfl, rfl, rfl, rfl, rfl, rfl, rfl, rfl, rfl, rfl, rfl, rfl, rfl⟩, fun _ => ⟨rfl, rfl, rfl, rfl, rfl, rfl, rfl, rfl⟩⟩) (hm_k (mC (fun _ h => m_explain h)) (fun _ h => k_explain h)))
theorem q0_query {a b c d e : Int} {σ : zS} (I : Inv2 σ) : two (g_c_query a b c d e σ) (g_m_query a b c d e) (fun _ _ s => Inv2 s) := ft (two_k I.2 I.1.1 (tt (o_query I.1)) (hc_i I.1 (g_c_query_sp I.1.1) ⟨fun _ => ⟨rfl, rfl, rfl, rfl, rfl, rfl, rfl, rfl, rfl, rfl, rfl, rfl, rfl, rfl, rfl, rfl, rfl, rfl, rfl⟩, fun _ => ⟨rfl, rfl, rfl, rfl, rfl, rfl, rfl, rfl⟩⟩) (hm_k (mC (fun _ h => m_query h)) (fun _ h => k_query h)))
theorem q_query {a b c d e : Int} {σ : zS} (I : Inv2 σ) : two (g_c_query a b c d e σ) (g_m_query a b c d e) (fun v w s => Inv2 s ∧ v = w) := by
  obtain ⟨v, s1, e1, w, s2, e2, J⟩ := q0_query (a := a) (b := b) (c := c) (d := d) (e := e) I
  refine ⟨v, s1, e1, w, s2, e2, J, ?_⟩
  obtain ⟨hv, -, -⟩ := p_query I.1.1 I.2.1.1.1 I.2.1.ok v s1 e1
  obtain ⟨-, G1, -⟩ := zP'.of (g_c_query_sp I.1.1) v s1 e1
  have q4 : s1 144 = σ 144 := funext (fun j => G1 144 j (Or.inl (by decide)))
  have q7 : s1 147 = σ 147 := funext (fun j => G1 147 j (Or.inl (by decide)))
  have M1 : MI s1 := MI_cls I.1.2.1 (fun x j h1 h2 => G1 x j (Or.inl ⟨h1, h2⟩))
  obtain ⟨s3, e3, -, -⟩ := t_query (m := a) (x0 := b) (x1 := c) (y0 := d) (y1 := e) M1.2.1 M1.1 (I.2.1.ok7 q7)
  rw [e2] at e3
  injection e3 with e3
  injection e3 with e3 _
  rw [hv, e3]
  unfold quC quR
  rw [q4, q7, val_eq I.2.1.1]
theorem q_probe {a b c d : Int} {σ : zS} (I : Inv2 σ) : two (g_c_probe a b c d σ) (g_m_probe a b c d) (fun _ _ s => Inv2 s) := ft (two_k I.2 I.1.1 (tt (o_probe I.1)) (hc_i I.1 (g_c_probe_sp I.1.1) ⟨fun _ => ⟨rfl, rfl, rfl, rfl, rfl, rfl, rfl, rfl, rfl, rfl, rfl, rfl, rfl, rfl, rfl, rfl, rfl, rfl, rfl⟩, fun _ => ⟨rfl, rfl, rfl, rfl, rfl, rfl, rfl, rfl⟩⟩) (hm_k (mC (fun _ h => m_probe h)) (fun _ h => k_probe h)))
theorem q_flush {σ : zS} (I : Inv2 σ) : two (g_c_flush σ) g_m_flush (fun _ _ s => Inv2 s) := ft (two_k I.2 I.1.1 (tt (o_flush I.1)) (hc_i I.1 (g_c_flush_sp I.1.1) ⟨fun _ => ⟨rfl, rfl, rfl, rfl, rfl, rfl, rfl, rfl, rfl, rfl, rfl, rfl, rfl, rfl, rfl, rfl, rfl, rfl, rfl⟩, fun _ => ⟨rfl, rfl, rfl, rfl, rfl, rfl, rfl, rfl⟩⟩) (hm_k (mC (fun _ h => m_flush h)) (fun _ h => k_flush h)))
theorem q_again {a b : Int} {σ : zS} (I : Inv2 σ) : two (g_c_again a b σ) (g_m_again a b) (fun _ _ s => Inv2 s) := ft (two_k I.2 I.1.1 (tt (o_again I.1)) (hc_i I.1 (g_c_again_sp I.1.1) ⟨fun _ => ⟨rfl, rfl, rfl, rfl, rfl, rfl, rfl, rfl, rfl, rfl, rfl, rfl, rfl, rfl, rfl, rfl, rfl, rfl, rfl⟩, fun _ => ⟨rfl, rfl, rfl, rfl, rfl, rfl, rfl, rfl⟩⟩) (hm_k (mC (fun _ h => m_again h)) (fun _ h => k_again h)))
theorem q_least {a : Int} {σ : zS} (I : Inv2 σ) : two (g_c_least a σ) (g_m_least a) (fun _ _ s => Inv2 s) := ft (two_k I.2 I.1.1 (tt (o_least I.1)) (hc_i I.1 (g_c_least_sp I.1.1) ⟨fun _ => ⟨rfl, rfl, rfl, rfl, rfl, rfl, rfl, rfl, rfl, rfl, rfl, rfl, rfl, rfl, rfl, rfl, rfl, rfl, rfl⟩, fun _ => ⟨rfl, rfl, rfl, rfl, rfl, rfl, rfl, rfl⟩⟩) (hm_k (mC (fun _ h => m_least h)) (fun _ h => k_least h)))
theorem q0_value {a : Int} {σ : zS} (I : Inv2 σ) : two (g_c_value a σ) (g_m_value a) (fun _ _ s => Inv2 s) := ft (two_k I.2 I.1.1 (tt (o_value I.1)) (hc_i I.1 (g_c_value_sp I.1.1) ⟨fun _ => ⟨rfl, rfl, rfl, rfl, rfl, rfl, rfl, rfl, rfl, rfl, rfl, rfl, rfl, rfl, rfl, rfl, rfl, rfl, rfl⟩, fun _ => ⟨rfl, rfl, rfl, rfl, rfl, rfl, rfl, rfl⟩⟩) (hm_k (mC (fun _ h => m_value h)) (fun _ h => k_value h)))
theorem q_value {a : Int} {σ : zS} (I : Inv2 σ) : two (g_c_value a σ) (g_m_value a) (fun v w s => Inv2 s ∧ v = w) := by
  obtain ⟨v, s1, e1, w, s2, e2, J⟩ := q0_value (a := a) I
  refine ⟨v, s1, e1, w, s2, e2, J, ?_⟩
  have hv := p_cvalue I.1.1 I.2.1.1.1 I.2.1.wc I.2.1.ok v s1 e1
  obtain ⟨-, G1, -⟩ := zP'.of (g_c_value_sp I.1.1) v s1 e1
  have q4 : s1 144 = σ 144 := funext (fun j => G1 144 j (Or.inl (by decide)))
  have q7 : s1 147 = σ 147 := funext (fun j => G1 147 j (Or.inl (by decide)))
  have h10 := I.1.2.1.2.1.2.2.2.2.1
  obtain ⟨s3, e3⟩ := t_cvalue (σ := s1) (B := bxs σ) (k := a) (by rw [q4]; exact h10) (fun r hr => by rw [q4]; exact I.1.2.1.2.1.2.2.2.2.2.2 r hr) (I.2.1.wr q4) (I.2.1.ok7 q7)
  rw [e2] at e3
  injection e3 with e3
  injection e3 with e3 _
  have b3 : σ 65 5 = σ 144 10 := I.2.1.2.2.1
  rw [hv, e3, b3, q4]
  by_cases c : 0 ≤ a ∧ a < σ 144 10
  · obtain ⟨-, -, -, g4, -, -⟩ := I.2.1.2.2.2.2 a.toNat (by omega) (by omega)
    have g4 : σ 66 ((a.toNat : Nat) : Int) = σ 144 (300 + 6 * ((a.toNat : Nat) : Int)) := g4
    rw [if_pos c, if_pos c]
    unfold VR
    rw [q4, q7, val_eq I.2.1.1, ← g4, show ((a.toNat : Nat) : Int) = a by omega]
  · rw [if_neg c, if_neg c]
theorem q_setting {a : Int} {σ : zS} (I : Inv2 σ) : two (g_c_setting a σ) (g_m_setting a) (fun _ _ s => Inv2 s) := ft (two_k I.2 I.1.1 (tt (o_setting I.1)) (hc_p I.1 (g_c_setting_sp I.1.1)) (hm_k (mP (fun _ _ => m_setting)) (k_same (fun _ _ => m_setting))))
theorem q_answer {a : Int} {σ : zS} (I : Inv2 σ) : two (g_c_answer a σ) (g_m_answer a) (fun _ _ s => Inv2 s) := ft (two_k I.2 I.1.1 (tt (o_answer I.1)) (hc_p I.1 (g_c_answer_sp I.1.1)) (hm_k (mP (fun _ h => m_answer h)) (k_same (fun _ h => m_answer h))))
theorem q_paper {a : Int} {σ : zS} (I : Inv2 σ) : two (g_c_paper a σ) (g_m_paper a) (fun _ _ s => Inv2 s) := ft (two_k I.2 I.1.1 (tt (o_paper I.1)) (hc_p I.1 (g_c_paper_sp I.1.1)) (hm_k (mP (fun _ h => m_paper h)) (k_same (fun _ h => m_paper h))))
theorem q_find {a : Int} {σ : zS} (I : Inv2 σ) : two (g_c_find a σ) (g_m_find a) (fun _ _ s => Inv2 s) := ft (two_k I.2 I.1.1 (tt (o_find I.1)) (hc_p I.1 (g_c_find_sp I.1.1)) (hm_k (mP (fun _ h => m_find h)) (k_same (fun _ h => m_find h))))
theorem q_piece {a b : Int} {σ : zS} (I : Inv2 σ) : two (g_c_piece a b σ) (g_m_piece a b) (fun _ _ s => Inv2 s) := ft (two_k I.2 I.1.1 (tt (o_piece I.1)) (hc_p I.1 (g_c_piece_sp I.1.1)) (hm_k (mP (fun _ h => m_piece h)) (k_same (fun _ h => m_piece h))))
theorem q_region {a b : Int} {σ : zS} (I : Inv2 σ) : two (g_c_region a b σ) (g_m_region_248 a b) (fun _ _ s => Inv2 s) := ft (two_k I.2 I.1.1 (tt (o_region I.1)) (hc_p I.1 (g_c_region_sp I.1.1)) (hm_k (mP (fun _ h => m_region h)) (k_same (fun _ h => m_region h))))
theorem q_weight {a : Int} {σ : zS} (I : Inv2 σ) : two (g_c_weight a σ) (g_m_weight a) (fun _ _ s => Inv2 s) := ft (two_k I.2 I.1.1 (tt (o_weight I.1)) (hc_p I.1 (g_c_weight_sp I.1.1)) (hm_k (mP (fun _ h => m_weight h)) (k_same (fun _ h => m_weight h))))
theorem q_told {a : Int} {σ : zS} (I : Inv2 σ) : two (g_c_told a σ) (g_m_told a) (fun _ _ s => Inv2 s) := ft (two_k I.2 I.1.1 (tt (o_told I.1)) (hc_p I.1 (g_c_told_sp I.1.1)) (hm_k (mP (fun _ h => m_told h)) (k_same (fun _ h => m_told h))))
theorem q_keep {a : Int} {σ : zS} (I : Inv2 σ) : two (g_c_keep a σ) (g_m_keep a) (fun _ _ s => Inv2 s) := ft (two_k I.2 I.1.1 (tt (o_keep I.1)) (hc_p I.1 (g_c_keep_sp I.1.1)) (hm_k (mP (fun _ h => m_keep h)) (k_same (fun _ h => m_keep h))))
theorem q0_changes {a : Int} {σ : zS} (I : Inv2 σ) : two (g_c_changes a σ) (g_m_changes a) (fun _ _ s => Inv2 s) := ft (two_k I.2 I.1.1 (tt (o_changes I.1)) (hc_p I.1 (g_c_changes_sp I.1.1)) (hm_k (mP (fun _ h => m_changes h)) (k_same (fun _ h => m_changes h))))
theorem q_changes {a : Int} {σ : zS} (I : Inv2 σ) : two (g_c_changes a σ) (g_m_changes a) (fun v w s => Inv2 s ∧ v = w) := by
  have b3 : σ 65 5 = σ 144 10 := I.2.1.2.2.1
  refine ⟨_, σ, p_changes I.1.1, _, σ, t_changes I.1.2.1.2.1.2.2.2.2.1, I, ?_⟩
  rw [b3]
  by_cases c : 0 ≤ a ∧ a < σ 144 10
  · obtain ⟨-, -, -, -, -, g6⟩ := I.2.1.2.2.2.2 a.toNat (by have := I.1.2.1.2.1.2.2.2.2.1; omega) (by omega)
    have g6 : σ 68 ((a.toNat : Nat) : Int) = σ 144 (305 + 6 * ((a.toNat : Nat) : Int)) := g6
    rw [show ((a.toNat : Nat) : Int) = a by omega] at g6
    rw [if_pos c, if_pos c]
    exact g6
  · rw [if_neg c, if_neg c]
theorem q_get {a b : Int} {σ : zS} (I : Inv2 σ) : two (g_c_get a b σ) (g_m_get a b) (fun _ _ s => Inv2 s) := ft (two_k I.2 I.1.1 (tt (o_get I.1)) (hc_p I.1 (g_c_get_sp I.1.1)) (hm_k (mP (fun _ h => m_get h)) (k_same (fun _ h => m_get h))))
theorem q_lay {a b : Int} {σ : zS} (hb : -2147483648 ≤ b ∧ b < 2147483648) (I : Inv2 σ) : two (g_c_lay a b σ) (g_m_lay a b) (fun _ _ s => Inv2 s) := ft (two_k I.2 I.1.1 (tt (o_lay hb I.1)) (hc_i I.1 (g_c_lay_sp I.1.1) ⟨fun _ => ⟨rfl, rfl, rfl, rfl, rfl, rfl, rfl, rfl, rfl, rfl, rfl, rfl, rfl, rfl, rfl, rfl, rfl, rfl, rfl⟩, fun _ => ⟨rfl, rfl, rfl, rfl, rfl, rfl, rfl, rfl⟩⟩) (hm_k (fun s h => by
  obtain ⟨w, s2, e, h1, h2⟩ := m_lay (l := a) h hb
  exact ⟨w, s2, e, h1, h2.i⟩) (fun _ h => k_lay hb h)))
theorem q_judge {a b : Int} {σ : zS} (hb : -2147483648 ≤ b ∧ b < 2147483648) (I : Inv2 σ) : two (g_c_judge a b σ) (g_m_judge a b) (fun _ _ s => Inv2 s) := ft (two_k I.2 I.1.1 (tt (o_judge hb I.1)) (hc_p I.1 (g_c_judge_sp I.1.1)) (hm_k (mP (fun _ h => m_judge h hb)) (k_same (fun _ h => m_judge h hb))))
theorem q_settings {σ : zS} (I : Inv2 σ) : two (g_c_settings σ) g_m_settings (fun _ _ s => Inv2 s) := ft (two_k I.2 I.1.1 (tt (o_settings I.1)) (hc_i I.1 (g_c_settings_sp I.1.1) ⟨fun _ => ⟨rfl, rfl, rfl, rfl, rfl, rfl, rfl, rfl, rfl, rfl, rfl, rfl, rfl, rfl, rfl, rfl, rfl, rfl, rfl⟩, fun _ => ⟨rfl, rfl, rfl, rfl, rfl, rfl, rfl, rfl⟩⟩) (fun s hs => by
  obtain ⟨w, s2, e, -, -, h⟩ := m_settings hs
  exact ⟨w, s2, e, zP'.of (k_settings hs) w s2 e, fun a j k => h a j (by omega)⟩))
theorem q_run {σ : zS} (I : Inv2 σ) : two (g_c_run σ) g_m_run (fun _ _ s => Inv2 s) := ft (two_k I.2 I.1.1 (tt (o_run I.1)) (hc_i I.1 (g_c_run_sp I.1.1) ⟨fun _ => ⟨rfl, rfl, rfl, rfl, rfl, rfl, rfl, rfl, rfl, rfl, rfl, rfl, rfl, rfl, rfl, rfl, rfl, rfl, rfl⟩, fun _ => ⟨rfl, rfl, rfl, rfl, rfl, rfl, rfl, rfl⟩⟩) (fun s hs => by
  obtain ⟨w, s2, e, -, -, h⟩ := m_run hs
  exact ⟨w, s2, e, zP'.of (k_run hs) w s2 e, fun a j k => h a j (by omega)⟩))
theorem q_load {σ : zS} (I : Inv2 σ) : two (g_c_load σ) g_m_load (fun _ _ s => Inv2 s) := ft (two_k I.2 I.1.1 (tt (o_load I.1)) (hc_i I.1 (g_c_load_sp I.1.1) ⟨fun _ => ⟨rfl, rfl, rfl, rfl, rfl, rfl, rfl, rfl, rfl, rfl, rfl, rfl, rfl, rfl, rfl, rfl, rfl, rfl, rfl⟩, fun _ => ⟨rfl, rfl, rfl, rfl, rfl, rfl, rfl, rfl⟩⟩) (fun s hs => by
  obtain ⟨w, s2, e, -, -, h⟩ := m_load hs
  exact ⟨w, s2, e, zP'.of (k_load hs) w s2 e, fun a j k => h a j (by omega)⟩))
theorem q_clear {σ : zS} (I : Inv2 σ) : two (g_c_clear σ) g_m_clear (fun v w s => Inv2 s ∧ v = w) := two_k I.2 I.1.1 (o_clear I.1) (hc_i I.1 (g_c_clear_sp I.1.1) ⟨fun _ => ⟨rfl, rfl, rfl, rfl, rfl, rfl, rfl, rfl, rfl, rfl, rfl, rfl, rfl, rfl, rfl, rfl, rfl, rfl, rfl⟩, fun _ => ⟨rfl, rfl, rfl, rfl, rfl, rfl, rfl, rfl⟩⟩) (fun s hs => by
  obtain ⟨s2, e, -, -, h⟩ := m_clear hs
  exact ⟨_, s2, e, zP'.of (k_clear hs) _ s2 e, fun a j k => h a j (by omega)⟩)
theorem q_feed {x : Int} {σ : zS} (I : Inv2 σ) : two (g_c_feed x σ) (g_m_feed x) (fun v w s => Inv2 s ∧ v = w) := two_k I.2 I.1.1 (o_feed I.1) (hc_i I.1 (g_c_feed_sp I.1.1) ⟨fun _ => ⟨rfl, rfl, rfl, rfl, rfl, rfl, rfl, rfl, rfl, rfl, rfl, rfl, rfl, rfl, rfl, rfl, rfl, rfl, rfl⟩, fun _ => ⟨rfl, rfl, rfl, rfl, rfl, rfl, rfl, rfl⟩⟩) (fun s hs => by
  obtain ⟨s2, e, -, -, h⟩ := m_feed (x := x) hs
  exact ⟨_, s2, e, zP'.of (k_feed hs) _ s2 e, fun a j k => h a j (by omega) (by omega)⟩)
theorem q_set {l i v0 : Int} {σ : zS} (I : Inv2 σ) : two (g_c_set l i v0 σ) (g_m_set l i v0) (fun v w s => Inv2 s ∧ v = w) := two_k I.2 I.1.1 (o_set I.1) (hc_i I.1 (g_c_set_sp I.1.1) ⟨fun _ => ⟨rfl, rfl, rfl, rfl, rfl, rfl, rfl, rfl, rfl, rfl, rfl, rfl, rfl, rfl, rfl, rfl, rfl, rfl, rfl⟩, fun _ => ⟨rfl, rfl, rfl, rfl, rfl, rfl, rfl, rfl⟩⟩) (fun s hs => by
  obtain ⟨s2, e, -, h⟩ := m_set (l := l) (i := i) (v := v0) hs
  exact ⟨_, s2, e, zP'.of (k_set hs) _ s2 e, fun a j k => h a j (by omega)⟩)
theorem q_list {l x : Int} {σ : zS} (I : Inv2 σ) : two (g_c_list l x σ) (g_m_list l x) (fun v w s => Inv2 s ∧ v = w) := two_k I.2 I.1.1 (o_list I.1) (hc_i I.1 (g_c_list_sp I.1.1) ⟨fun _ => ⟨rfl, rfl, rfl, rfl, rfl, rfl, rfl, rfl, rfl, rfl, rfl, rfl, rfl, rfl, rfl, rfl, rfl, rfl, rfl⟩, fun _ => ⟨rfl, rfl, rfl, rfl, rfl, rfl, rfl, rfl⟩⟩) (fun s hs => by
  obtain ⟨s2, e, -, h, -⟩ := m_list (l := l) (x := x) hs
  exact ⟨_, s2, e, zP'.of (k_list hs) _ s2 e, fun a j k => h a j (by omega)⟩)
theorem q_move {l i o j x : Int} {σ : zS} (hi : i < 2147483648) (hj : j < 2147483648) (I : Inv2 σ) : two (g_c_move l i o j x σ) (g_m_move l i o j x) (fun v w s => Inv2 s ∧ v = w) := two_k I.2 I.1.1 (o_move hi hj I.1) (hc_i I.1 (g_c_move_sp I.1.1) ⟨fun _ => ⟨rfl, rfl, rfl, rfl, rfl, rfl, rfl, rfl, rfl, rfl, rfl, rfl, rfl, rfl, rfl, rfl, rfl, rfl, rfl⟩, fun _ => ⟨rfl, rfl, rfl, rfl, rfl, rfl, rfl, rfl⟩⟩) (fun s hs => by
  obtain ⟨s2, e, -, h⟩ := m_move (l := l) (i := i) (o := o) (j0 := j) (x := x) hs hi hj
  exact ⟨_, s2, e, zP'.of (k_move hi hj hs) _ s2 e, fun a j' k => h a j' (by omega)⟩)
/-! the start -/
theorem Inv2_s0 : Inv2 s0 := by
  refine ⟨Inv_s0, ?_⟩
  have z : ∀ a : Nat, s0rng a 0 0 = true → a ≠ 169 → ∀ j, s0 a j = 0 := fun a h ha j => by
    have h := s0_in h (by decide) ha j
    omega
  have r0 : ∀ i : Fin 60, s0 144 (20 + 3 * ((i.val : Nat) : Int)) = 0 ∧ s0 144 (21 + 3 * ((i.val : Nat) : Int)) = 0 ∧ s0 144 (22 + 3 * ((i.val : Nat) : Int)) = 0 ∧ s0 147 (1 + ((i.val : Nat) : Int)) = 0 := by decide +kernel
  have eI : inS s0 144 = fun _ => false := by
    funext r
    unfold inS
    refine decide_eq_false (fun h => ?_)
    have := (r0 ⟨r, h.1⟩).1
    have h2 := h.2
    rw [this] at h2
    exact absurd h2 (by decide)
  have h6 : s0 143 6 = 0 := by decide +kernel
  refine ⟨⟨⟨⟨?_, ?_, ?_, ?_⟩, fun r hr => ?_⟩, by decide +kernel, by decide +kernel, fun t _ h => ?_, fun k _ h => ?_⟩, ?_, fun h => absurd h6 h⟩
  · rw [eI]; intro r h; cases h
  · rw [eI]
    intro i r hi hr
    rw [z 46 (by decide +kernel) (by decide), z 47 (by decide +kernel) (by decide), bq_0]
    exact ⟨rfl, rfl⟩
  · have h : s0 41 4 = 0 := by decide +kernel
    unfold ordL
    rw [h]
    exact List.Pairwise.nil
  · rw [eI]
    intro v
    have h : s0 41 4 = 0 := by decide +kernel
    unfold ordL
    rw [h]
    exact ⟨fun hh => (by cases hh), fun ⟨_, _, hh⟩ => (by cases hh)⟩
  · obtain ⟨g1, g2, g3, g4⟩ := r0 ⟨r, hr⟩
    have g1 : s0 144 (20 + 3 * (r : Int)) = 0 := g1
    have g2 : s0 144 (21 + 3 * (r : Int)) = 0 := g2
    have g3 : s0 144 (22 + 3 * (r : Int)) = 0 := g3
    have g4 : s0 147 (1 + (r : Int)) = 0 := g4
    rw [g1, g2, g3, g4, z 42 (by decide +kernel) (by decide), z 43 (by decide +kernel) (by decide), z 44 (by decide +kernel) (by decide)]
    exact ⟨Or.inl rfl, rfl, rfl, rfl, by decide⟩
  · have h9 : s0 144 9 = 0 := by decide +kernel
    rw [h9] at h
    exact absurd h (by omega)
  · have h9 : s0 144 10 = 0 := by decide +kernel
    rw [h9] at h
    exact absurd h (by omega)
  · have h2 : s0 39 2 = 0 := by decide +kernel
    exact ⟨fun h => absurd h2 h, fun h => absurd h6 h⟩
