/-! LOADING: the reference reads, both let in -/
theorem mT_164 {s : zS} {i v : Int} : mT (zu s 164 i v) = mT s := by
  funext j
  unfold mT
  rw [zu_a (by decide), zu_a (by decide)]
theorem tpP_164 {s : zS} {i v : Int} (h : tpP s) : tpP (zu s 164 i v) := h.mv (zu_a (by decide)) (funext (fun j => zu_a (by decide))) (by rw [zu_a (by decide)]; exact h.2.1)
def spM (σ : zS) (k : Nat) (r : Sum Int (Bx × Int)) (b : Int) (s : zS) : Prop := (frL2 σ s ∧ ∀ j : Int, j < 4 * (k : Int) → s 164 j = σ 164 j) ∧ match r with
  | .inl q => b = 0 ∧ s 143 22 = q
  | .inr x => b = 1 ∧ s 143 21 = x.2 ∧ s 143 22 = σ 143 22 ∧ bxA s 164 (4 * (k : Int)) = x.1
theorem m_spelled {k : Nat} {σ : zS} (hk : k < 12) (h : tpP σ) (hs : σ 143 22 < 0) : zP' (g_m_isSpelled (4 * (k : Int)) σ) (spM σ k (bxP (mT σ) (σ 143 20) (σ 143 21))) := by
  have bad : ∀ (q : Int) (s : zS), frL2 σ s → (∀ j : Int, j < 4 * (k : Int) → s 164 j = σ 164 j) → s 143 22 = q → bxP (mT σ) (σ 143 20) (σ 143 21) = .inl q → spM σ k (bxP (mT σ) (σ 143 20) (σ 143 21)) 0 s := fun q s f o e r => by
    rw [r]
    exact ⟨⟨f, o⟩, rfl, e⟩
  have ex1 := w32_id (x := 4 * (k : Int) + 1) (by omega) (by omega)
  have ex2 := w32_id (x := 4 * (k : Int) + 2) (by omega) (by omega)
  have ex3 := w32_id (x := 4 * (k : Int) + 3) (by omega) (by omega)
  unfold g_m_isSpelled
  refine m_stN (n := 2) h hs rfl rfl rfl rfl (by decide) (fun q s r1 f e => ?_) (fun a s1 r1 f1 t1 z1 m1 l1 p1 v1 => ?_)
  · try dsimp +instances only
    rw [if_neg (by decide)]
    exact zP'.ret (bad q s (frL2.of f) (fun j _ => f 164 j (Or.inl (by decide))) e (by unfold bxP; rw [sbd_l r1]))
  try dsimp +instances only
  rw [if_pos (by decide), if_pos (by omega), v1]
  have F1 : frL2 σ (zu s1 164 (4 * (k : Int)) a.1) := (frL2.of f1).trans frL2.u
  have o1 : ∀ j : Int, j < 4 * (k : Int) → zu s1 164 (4 * (k : Int)) a.1 164 j = σ 164 j := fun j hj => (zu_i (by omega)).trans (f1 164 j (Or.inl (by decide)))
  have y1 : zu s1 164 (4 * (k : Int)) a.1 164 (4 * (k : Int)) = a.1 := zu_e rfl
  have u1 := tpP_164 (i := 4 * (k : Int)) (v := a.1) t1
  have n1 : zu s1 164 (4 * (k : Int)) a.1 143 22 = σ 143 22 := (zu_a (by decide)).trans z1
  have g1 : mT (zu s1 164 (4 * (k : Int)) a.1) = mT σ := mT_164.trans m1
  have h1 : zu s1 164 (4 * (k : Int)) a.1 143 20 = σ 143 20 := (zu_a (by decide)).trans l1
  have q1 : zu s1 164 (4 * (k : Int)) a.1 143 21 = a.2 := (zu_a (by decide)).trans p1
  generalize zu s1 164 (4 * (k : Int)) a.1 = w1 at F1 o1 y1 u1 n1 g1 h1 q1
  refine m_stS u1 (by omega) g1 h1 q1 (by decide) (fun q s r2 f e => ?_) (fun b s2 r2 f2 t2 z2 m2 l2 p2 => ?_)
  · try dsimp +instances only
    rw [if_pos rfl]
    exact zP'.ret (bad q s (F1.trans (frL2.of f)) (fun j hj => (f 164 j (Or.inl (by decide))).trans (o1 j hj)) e (by unfold bxP; rw [sbd_r r1, sbd_l r2]))
  try dsimp +instances only
  rw [if_neg (by decide), if_pos (by omega), f2 164 _ (Or.inl (by decide)), y1]
  refine m_stN (n := 2) t2 (by omega) m2 l2 p2 rfl (by decide) (fun q s r3 f e => ?_) (fun c s3 r3 f3 t3 z3 m3 l3 p3 v3 => ?_)
  · try dsimp +instances only
    rw [if_neg (by decide)]
    exact zP'.ret (bad q s ((F1.trans (frL2.of f2)).trans (frL2.of f)) (fun j hj => (f 164 j (Or.inl (by decide))).trans ((f2 164 j (Or.inl (by decide))).trans (o1 j hj))) e (by unfold bxP; rw [sbd_r r1, sbd_r r2, sbd_l r3]))
  try dsimp +instances only
  rw [if_pos (by decide), ex1, if_pos (by omega), v3]
  have F3 : frL2 σ (zu s3 164 (4 * (k : Int) + 1) c.1) := ((F1.trans (frL2.of f2)).trans (frL2.of f3)).trans frL2.u
  have b3 : ∀ j, s3 164 j = w1 164 j := fun j => (f3 164 j (Or.inl (by decide))).trans (f2 164 j (Or.inl (by decide)))
  have o3 : ∀ j : Int, j < 4 * (k : Int) → zu s3 164 (4 * (k : Int) + 1) c.1 164 j = σ 164 j := fun j hj => (zu_i (by omega)).trans ((b3 j).trans (o1 j hj))
  have y3 : zu s3 164 (4 * (k : Int) + 1) c.1 164 (4 * (k : Int)) = a.1 := (zu_i (by omega)).trans ((b3 _).trans y1)
  have y3b : zu s3 164 (4 * (k : Int) + 1) c.1 164 (4 * (k : Int) + 1) = c.1 := zu_e rfl
  have u3 := tpP_164 (i := 4 * (k : Int) + 1) (v := c.1) t3
  have n3 : zu s3 164 (4 * (k : Int) + 1) c.1 143 22 = σ 143 22 := (zu_a (by decide)).trans (z3.trans (z2.trans n1))
  have g3 : mT (zu s3 164 (4 * (k : Int) + 1) c.1) = mT σ := mT_164.trans m3
  have h3 : zu s3 164 (4 * (k : Int) + 1) c.1 143 20 = σ 143 20 := (zu_a (by decide)).trans l3
  have q3 : zu s3 164 (4 * (k : Int) + 1) c.1 143 21 = c.2 := (zu_a (by decide)).trans p3
  generalize zu s3 164 (4 * (k : Int) + 1) c.1 = w3 at F3 o3 y3 y3b u3 n3 g3 h3 q3
  refine m_stS u3 (by omega) g3 h3 q3 (by decide) (fun q s r4 f e => ?_) (fun d s4 r4 f4 t4 z4 m4 l4 p4 => ?_)
  · try dsimp +instances only
    rw [if_pos rfl]
    exact zP'.ret (bad q s (F3.trans (frL2.of f)) (fun j hj => (f 164 j (Or.inl (by decide))).trans (o3 j hj)) e (by unfold bxP; rw [sbd_r r1, sbd_r r2, sbd_r r3, sbd_l r4]))
  try dsimp +instances only
  rw [if_neg (by decide)]
  refine m_stN (n := 2) t4 (by omega) m4 l4 p4 rfl (by decide) (fun q s r5 f e => ?_) (fun e5 s5 r5 f5 t5 z5 m5 l5 p5 v5 => ?_)
  · try dsimp +instances only
    rw [if_neg (by decide)]
    exact zP'.ret (bad q s ((F3.trans (frL2.of f4)).trans (frL2.of f)) (fun j hj => (f 164 j (Or.inl (by decide))).trans ((f4 164 j (Or.inl (by decide))).trans (o3 j hj))) e (by unfold bxP; rw [sbd_r r1, sbd_r r2, sbd_r r3, sbd_r r4, sbd_l r5]))
  try dsimp +instances only
  rw [if_pos (by decide), ex2, if_pos (by omega), v5]
  have F5 : frL2 σ (zu s5 164 (4 * (k : Int) + 2) e5.1) := ((F3.trans (frL2.of f4)).trans (frL2.of f5)).trans frL2.u
  have b5 : ∀ j, s5 164 j = w3 164 j := fun j => (f5 164 j (Or.inl (by decide))).trans (f4 164 j (Or.inl (by decide)))
  have o5 : ∀ j : Int, j < 4 * (k : Int) → zu s5 164 (4 * (k : Int) + 2) e5.1 164 j = σ 164 j := fun j hj => (zu_i (by omega)).trans ((b5 j).trans (o3 j hj))
  have y5 : zu s5 164 (4 * (k : Int) + 2) e5.1 164 (4 * (k : Int)) = a.1 := (zu_i (by omega)).trans ((b5 _).trans y3)
  have y5b : zu s5 164 (4 * (k : Int) + 2) e5.1 164 (4 * (k : Int) + 1) = c.1 := (zu_i (by omega)).trans ((b5 _).trans y3b)
  have y5c : zu s5 164 (4 * (k : Int) + 2) e5.1 164 (4 * (k : Int) + 2) = e5.1 := zu_e rfl
  have u5 := tpP_164 (i := 4 * (k : Int) + 2) (v := e5.1) t5
  have n5 : zu s5 164 (4 * (k : Int) + 2) e5.1 143 22 = σ 143 22 := (zu_a (by decide)).trans (z5.trans (z4.trans n3))
  have g5 : mT (zu s5 164 (4 * (k : Int) + 2) e5.1) = mT σ := mT_164.trans m5
  have h5 : zu s5 164 (4 * (k : Int) + 2) e5.1 143 20 = σ 143 20 := (zu_a (by decide)).trans l5
  have q5 : zu s5 164 (4 * (k : Int) + 2) e5.1 143 21 = e5.2 := (zu_a (by decide)).trans p5
  generalize zu s5 164 (4 * (k : Int) + 2) e5.1 = w5 at F5 o5 y5 y5b y5c u5 n5 g5 h5 q5
  refine m_stS u5 (by omega) g5 h5 q5 (by decide) (fun q s r6 f e => ?_) (fun g s6 r6 f6 t6 z6 m6 l6 p6 => ?_)
  · try dsimp +instances only
    rw [if_pos rfl]
    exact zP'.ret (bad q s (F5.trans (frL2.of f)) (fun j hj => (f 164 j (Or.inl (by decide))).trans (o5 j hj)) e (by unfold bxP; rw [sbd_r r1, sbd_r r2, sbd_r r3, sbd_r r4, sbd_r r5, sbd_l r6]))
  try dsimp +instances only
  rw [if_neg (by decide), if_pos (by omega), f6 164 _ (Or.inl (by decide)), y5c]
  refine m_stN (n := 2) t6 (by omega) m6 l6 p6 rfl (by decide) (fun q s r7 f e => ?_) (fun h7 s7 r7 f7 t7 z7 m7 l7 p7 v7 => ?_)
  · try dsimp +instances only
    rw [if_neg (by decide)]
    exact zP'.ret (bad q s ((F5.trans (frL2.of f6)).trans (frL2.of f)) (fun j hj => (f 164 j (Or.inl (by decide))).trans ((f6 164 j (Or.inl (by decide))).trans (o5 j hj))) e (by unfold bxP; rw [sbd_r r1, sbd_r r2, sbd_r r3, sbd_r r4, sbd_r r5, sbd_r r6, sbd_l r7]))
  try dsimp +instances only
  rw [if_pos (by decide), ex3, if_pos (by omega), v7]
  have b7 : ∀ j, s7 164 j = w5 164 j := fun j => (f7 164 j (Or.inl (by decide))).trans (f6 164 j (Or.inl (by decide)))
  have rr : bxP (mT σ) (σ 143 20) (σ 143 21) = .inr ((a.1, c.1, e5.1, h7.1), h7.2) := by
    unfold bxP
    rw [sbd_r r1, sbd_r r2, sbd_r r3, sbd_r r4, sbd_r r5, sbd_r r6, sbd_r r7]
  refine zP'.ret ?_
  rw [rr]
  refine ⟨⟨((F5.trans (frL2.of f6)).trans (frL2.of f7)).trans frL2.u, fun j hj => (zu_i (by omega)).trans ((b7 j).trans (o5 j hj))⟩, rfl, (zu_a (by decide)).trans p7, (zu_a (by decide)).trans (z7.trans (z6.trans n5)), ?_⟩
  unfold bxA
  rw [zu_i (by omega), zu_i (by omega), zu_i (by omega), zu_e rfl, b7, b7, b7, y5, y5b, y5c]
def lmQ (r : Int) (s : zS) : Sum Int (List Bx) → Prop
  | .inl q => s 143 22 = q
  | .inr B => r = (B.length : Int) ∧ s 143 22 = -1 ∧ ∀ (i : Nat) (hi : i < B.length), bxA s 164 (4 * (i : Int)) = B[i]
theorem frL2.L {σ s : zS} (f : frL2 σ s) : s 143 20 = σ 143 20 := f 143 20 (by decide) (Or.inr (by decide))
theorem frL2.T {σ s : zS} (f : frL2 σ s) : mT s = mT σ := by
  funext j
  unfold mT
  rw [f.L, f 159 j (by decide) (Or.inl (by decide))]
theorem frL2.t {σ s : zS} (f : frL2 σ s) (h : tpP σ) (h2 : 0 ≤ s 143 21 ∧ s 143 21 ≤ σ 143 20) : tpP s := h.mv f.L (funext (fun j => f 159 j (by decide) (Or.inl (by decide)))) h2
theorem m_ld {Q : Int → zS → Prop} {σ0 : zS} : ∀ (n m : Nat) (l : List Bx) (σ : zS), tpP σ → σ 143 22 = -1 → l.length + m = 12 → 0 < m → frL2 σ0 σ → (∀ (i : Nat) (hi : i < l.length), bxA σ 164 (4 * (i : Int)) = l[i]) → (∀ r s, frL2 σ0 s → lmQ r s (ldP (mT σ) (σ 143 20) m (σ 143 21) l) → ∀ k, zP' (g_m_load_L8 k r 0 s) Q) → zP' (g_m_load_L8 n (l.length : Int) 1 σ) Q
  | 0, _, _, _, _, _, _, _, _, _, _ => zP'.no
  | n + 1, 0, _, _, _, _, _, hm, _, _, _ => absurd hm (Nat.lt_irrefl _)
  | n + 1, m + 1, l, σ, h, hs, hl, _, F0, hB, hQ => by
    have h21 := h.2.1
    rw [ldP_1] at hQ
    unfold g_m_load_L8
    rw [if_neg (by decide), w32_id (x := 4 * (l.length : Int)) (by omega) (by omega)]
    refine zP'.bind (m_spelled (k := l.length) (by omega) h (by omega)) (fun b s1 p1 => ?_)
    obtain ⟨⟨f1, o1⟩, r1⟩ := p1
    try dsimp +instances only
    rw [w32_id (x := (l.length : Int) + 1) (by omega) (by omega)]
    cases e1 : bxP (mT σ) (σ 143 20) (σ 143 21) with
    | inl q =>
      rw [e1] at r1 hQ
      obtain ⟨rfl, r2⟩ := r1
      rw [if_pos rfl]
      unfold g_m_load_L43
      rw [if_pos rfl]
      exact hQ _ s1 (F0.trans f1) r2 n
    | inr x =>
      rw [e1] at r1 hQ
      obtain ⟨rfl, r2, r3, r4⟩ := r1
      obtain ⟨okb, lt⟩ := bxP_ok e1
      have al : ((l ++ [x.1]).length : Int) = (l.length : Int) + 1 := by
        rw [List.length_append]
        show ((l.length + 1 : Nat) : Int) = _
        omega
      have nB : ∀ s : zS, (∀ j, s 164 j = s1 164 j) → ∀ (i : Nat) (hi : i < (l ++ [x.1]).length), bxA s 164 (4 * (i : Int)) = (l ++ [x.1])[i] := fun s e i hi => by
        have e2 : bxA s 164 (4 * (i : Int)) = bxA s1 164 (4 * (i : Int)) := by
          unfold bxA
          rw [e, e, e, e]
        rw [e2]
        rw [List.length_append] at hi
        have hi : i < l.length + 1 := hi
        by_cases c : i < l.length
        · rw [List.getElem_append_left c, ← hB i c]
          unfold bxA
          rw [o1 _ (by omega), o1 _ (by omega), o1 _ (by omega), o1 _ (by omega)]
        · have ei : i = l.length := by omega
          subst ei
          rw [List.getElem_append_right (Nat.le_refl _), r4]
          simp
      rw [if_neg (by decide)]
      try dsimp only at hQ
      have hi1 : x.2 ≤ σ 143 20 := lt.2
      rw [r2, f1.L]
      by_cases cl : x.2 < σ 143 20
      · rw [if_pos cl] at hQ
        rw [if_pos (by omega)]
        unfold g_m_load_L43
        rw [if_neg (by decide)]
        have t1 : tpP s1 := f1.t h (by omega)
        by_cases c12 : 12 ≤ (l.length : Int) + 1
        · rw [if_pos c12]
          rw [if_neg (fun k => by omega)] at hQ
          try dsimp +instances only
          unfold g_m_fails
          rw [r3, if_neg (by omega)]
          try rw [Option.bind_some]
          try dsimp +instances only
          unfold g_m_load_L70
          rw [r2]
          exact hQ _ _ ((F0.trans f1).trans (frL2.of (fun a j k => zu_c (by omega)))) (show zu s1 143 22 x.2 143 22 = x.2 from zu_e rfl) n
        · rw [if_neg c12]
          refine m_stS t1 (by omega) f1.T f1.L r2 (by decide) (fun q s r f e => ?_) (fun y s r f t z mm ll pp => ?_)
          · have cq : ¬ (l.length + 1 < 12 ∧ mT σ x.2 = 59) := fun k => by
              unfold sgnR at r
              rw [if_pos ⟨cl, k.2⟩] at r
              cases r
            have eq : q = x.2 := by
              unfold sgnR at r
              by_cases k : x.2 < σ 143 20 ∧ mT σ x.2 = 59
              · rw [if_pos k] at r
                cases r
              · rw [if_neg k] at r
                cases r
                rfl
            rw [if_neg cq] at hQ
            unfold g_m_load_L70
            exact hQ _ s ((F0.trans f1).trans (frL2.of f)) (show s 143 22 = x.2 by rw [e, eq]) n
          · obtain ⟨w1, w2, w3⟩ := sgnR_ok (v := y.1) (p' := y.2) r
            have c59 : mT σ x.2 = 59 := by
              unfold sgnR at r
              by_cases k : x.2 < σ 143 20 ∧ mT σ x.2 = 59
              · exact k.2
              · rw [if_neg k] at r
                cases r
            rw [if_pos ⟨by omega, c59⟩] at hQ
            unfold g_m_load_L70
            have F2 : frL2 σ s := f1.trans (frL2.of f)
            rw [← al]
            exact m_ld n m (l ++ [x.1]) s t (by omega) (by rw [List.length_append]; show l.length + 1 + m = 12; omega) (by omega) (F0.trans F2) (nB s (fun j => f 164 j (Or.inl (by decide)))) (by rw [mm, ll, pp, w2]; exact hQ)
      · rw [if_neg cl] at hQ
        rw [if_neg (by omega)]
        exact hQ _ s1 (F0.trans f1) ⟨al.symm, by omega, nB s1 (fun _ => rfl)⟩ n
