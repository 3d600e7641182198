/-! QUERIES AS A TEXT: the reference -/
theorem frQ2.L {σ s : zS} (f : frQ2 σ s) : s 143 20 = σ 143 20 := f 143 20 (by decide) (Or.inr (by decide))
theorem frQ2.T {σ s : zS} (f : frQ2 σ s) : mT s = mT σ := by
  funext j
  unfold mT
  rw [f.L, f 159 j (by decide) (Or.inl (by decide))]
theorem frQ2.t {σ s : zS} (f : frQ2 σ s) (h : tpP σ) (h2 : 0 ≤ s 143 21 ∧ s 143 21 ≤ σ 143 20) : tpP s := h.mv f.L (funext (fun j => f 159 j (by decide) (Or.inl (by decide)))) h2
def rgQ (σ : zS) (k b : Int) (s : zS) : Sum Int ((Int × Int) × Int) → Prop
  | .inl q => b = 0 ∧ s 143 22 = q
  | .inr x => b = 1 ∧ s 143 21 = x.2 ∧ s 143 22 = σ 143 22 ∧ s 161 k = x.1.1 ∧ s 161 (k + 1) = x.1.2
def rgM (σ : zS) (k : Int) (r : Sum Int ((Int × Int) × Int)) (b : Int) (s : zS) : Prop := (frQ2 σ s ∧ ∀ j : Int, j ≠ k → j ≠ k + 1 → s 161 j = σ 161 j) ∧ rgQ σ k b s r
theorem m_range {k : Int} {σ : zS} (h : tpP σ) (hs : σ 143 22 < 0) (hk : 0 ≤ k ∧ k < 47) : zP' (g_m_isRange k σ) (rgM σ k (rngR (mT σ) (σ 143 20) (σ 143 21))) := by
  have h2 := h.2.1
  unfold g_m_isRange rngR
  rw [if_pos (by omega), w32_id (x := k + 1) (by omega) (by omega), if_pos (by omega)]
  try dsimp +instances only
  have f1 : frQ2 σ (zu (zu σ 161 k 0) 161 (k + 1) 31) := fun a j k1 _ => by rw [zu_a k1, zu_a k1]
  have o1 : ∀ j : Int, j ≠ k → j ≠ k + 1 → zu (zu σ 161 k 0) 161 (k + 1) 31 161 j = σ 161 j := fun j j1 j2 => by rw [zu_i j2, zu_i j1]
  have v0 : zu (zu σ 161 k 0) 161 (k + 1) 31 161 k = 0 := by rw [zu_i (by omega), zu_e rfl]
  have v1 : zu (zu σ 161 k 0) 161 (k + 1) 31 161 (k + 1) = 31 := zu_e rfl
  have p21 : zu (zu σ 161 k 0) 161 (k + 1) 31 143 21 = σ 143 21 := by rw [zu_a (by decide), zu_a (by decide)]
  have p22 : zu (zu σ 161 k 0) 161 (k + 1) 31 143 22 = σ 143 22 := by rw [zu_a (by decide), zu_a (by decide)]
  generalize zu (zu σ 161 k 0) 161 (k + 1) 31 = s1 at f1 o1 v0 v1 p21 p22
  have t1 : tpP s1 := f1.t h (by omega)
  rw [s_here t1.i]
  rw [Option.bind_some]
  try dsimp +instances only
  by_cases c : σ 143 21 < σ 143 20 ∧ mT σ (σ 143 21) = 42
  · have hh : hereC s1 = 42 := (hereC_is t1 (by decide)).mpr (by rw [p21, f1.L, f1.T]; exact c)
    obtain ⟨ew, f, t, s22, s21, sT, s20⟩ := mk_st t1 (by rw [p21, f1.L]; exact c.1)
    rw [if_neg (fun e => e hh), if_pos c, ew]
    refine zP'.ret ⟨⟨f1.trans (frQ2.of f), fun j j1 j2 => ?_⟩, rfl, ?_, ?_, ?_, ?_⟩
    · rw [f 161 j (Or.inl (by decide))]
      exact o1 j j1 j2
    · rw [s21, p21]
    · rw [s22, p22]
    · rw [f 161 _ (Or.inl (by decide)), v0]
    · rw [f 161 _ (Or.inl (by decide)), v1]
  · have hh : ¬ hereC s1 = 42 := fun e => c (by
      have := (hereC_is t1 (by decide)).mp e
      rw [p21, f1.L, f1.T] at this
      exact this)
    rw [if_pos hh, if_neg c]
    have N := m_num (w := 2) (lo := 0) (hi := 31) t1 (by omega) (by decide)
    rw [f1.T, f1.L, p21] at N
    refine zP'.bind N (fun b s2 p2 => ?_)
    obtain ⟨p2, pv⟩ := p2
    have p2 : mPo s1 (numR 2 0 31 (mT σ) (σ 143 20) (σ 143 21)) b s2 := p2
    have pv : ∀ x, numR 2 0 31 (mT σ) (σ 143 20) (σ 143 21) = .inr x → s2 143 23 = x.1 := pv
    try dsimp +instances only
    have b1 := numR_bd (w := 2) (lo := 0) (hi := 31) (f := mT σ) h2.2
    cases e1 : numR 2 0 31 (mT σ) (σ 143 20) (σ 143 21) with
    | inl q =>
      obtain ⟨g1, rfl, g3⟩ := p2.no e1
      rw [if_neg (by decide)]
      exact zP'.ret ⟨⟨f1.trans (frQ2.of g1), fun j j1 j2 => (g1 161 j (Or.inl (by decide))).trans (o1 j j1 j2)⟩, rfl, g3⟩
    | inr x =>
      obtain ⟨g1, rfl, gp, g3⟩ := p2.ok e1
      have gv := pv x e1
      rw [e1] at b1
      have b1 : σ 143 21 ≤ x.2 ∧ x.2 ≤ σ 143 20 := b1
      have kk := numR_ok (v := x.1) (p' := x.2) e1
      rw [if_pos (by decide), if_pos (by omega), gv]
      try dsimp +instances only
      rw [show zu s2 161 k x.1 143 23 = x.1 from (zu_a (by decide)).trans gv, if_pos (by omega)]
      have F2 := f1.trans (frQ2.of g1)
      have f3 : frQ2 s2 (zu (zu s2 161 k x.1) 161 (k + 1) x.1) := fun a j k1 _ => by rw [zu_a k1, zu_a k1]
      have o3 : ∀ j : Int, j ≠ k → j ≠ k + 1 → zu (zu s2 161 k x.1) 161 (k + 1) x.1 161 j = σ 161 j := fun j j1 j2 => by rw [zu_i j2, zu_i j1, g1 161 j (Or.inl (by decide))]; exact o1 j j1 j2
      have v3 : zu (zu s2 161 k x.1) 161 (k + 1) x.1 161 k = x.1 := by rw [zu_i (by omega), zu_e rfl]
      have v4 : zu (zu s2 161 k x.1) 161 (k + 1) x.1 161 (k + 1) = x.1 := zu_e rfl
      have q21 : zu (zu s2 161 k x.1) 161 (k + 1) x.1 143 21 = x.2 := by rw [zu_a (by decide), zu_a (by decide), gp]
      have q22 : zu (zu s2 161 k x.1) 161 (k + 1) x.1 143 22 = σ 143 22 := by rw [zu_a (by decide), zu_a (by decide), g3, p22]
      generalize zu (zu s2 161 k x.1) 161 (k + 1) x.1 = s3 at f3 o3 v3 v4 q21 q22
      have F3 := F2.trans f3
      have t3 : tpP s3 := F3.t h (by omega)
      rw [s_here t3.i]
      rw [Option.bind_some]
      try dsimp +instances only
      unfold rngR1
      try dsimp only
      by_cases c2 : x.2 < σ 143 20 ∧ mT σ x.2 = 45
      · have hh2 : hereC s3 = 45 := (hereC_is t3 (by decide)).mpr (by rw [q21, F3.L, F3.T]; exact c2)
        obtain ⟨ew, f, t, s22, s21, sT, s20⟩ := mk_st t3 (by rw [q21, F3.L]; exact c2.1)
        rw [if_pos hh2, if_pos c2, ew, if_pos (by omega)]
        have u3 : zu s3 143 21 (s3 143 21 + 1) 161 k = x.1 := (zu_a (by decide)).trans v3
        rw [u3]
        generalize zu s3 143 21 (s3 143 21 + 1) = s4 at f t s22 s21 sT s20 u3
        have N2 := m_num (w := 2) (lo := x.1) (hi := 31) t (by omega) (by decide)
        rw [sT, F3.T, s20, F3.L, s21, q21] at N2
        refine zP'.bind N2 (fun b s5 p5 => ?_)
        obtain ⟨p5, pv5⟩ := p5
        have p5 : mPo s4 (numR 2 x.1 31 (mT σ) (σ 143 20) (x.2 + 1)) b s5 := p5
        have pv5 : ∀ z, numR 2 x.1 31 (mT σ) (σ 143 20) (x.2 + 1) = .inr z → s5 143 23 = z.1 := pv5
        have F4 := F3.trans (frQ2.of f)
        try dsimp +instances only
        cases e5 : numR 2 x.1 31 (mT σ) (σ 143 20) (x.2 + 1) with
        | inl q =>
          obtain ⟨i1, rfl, i3⟩ := p5.no e5
          rw [if_neg (by decide)]
          exact zP'.ret ⟨⟨F4.trans (frQ2.of i1), fun j j1 j2 => by rw [i1 161 j (Or.inl (by decide)), f 161 j (Or.inl (by decide))]; exact o3 j j1 j2⟩, rfl, i3⟩
        | inr z =>
          obtain ⟨i1, rfl, ip, i3⟩ := p5.ok e5
          have iv := pv5 z e5
          rw [if_pos (by decide), if_pos (by omega), iv]
          refine zP'.ret ⟨⟨fun a j k1 k2 => (zu_a k1).trans ((F4.trans (frQ2.of i1)) a j k1 k2), fun j j1 j2 => ?_⟩, rfl, ?_, ?_, ?_, ?_⟩
          · rw [zu_i j2, i1 161 j (Or.inl (by decide)), f 161 j (Or.inl (by decide))]
            exact o3 j j1 j2
          · rw [zu_a (by decide), ip]
          · rw [zu_a (by decide), i3, s22, q22]
          · rw [zu_i (by omega), i1 161 _ (Or.inl (by decide)), u3]
          · exact zu_e rfl
      · have hh2 : ¬ hereC s3 = 45 := fun e => c2 (by
          have := (hereC_is t3 (by decide)).mp e
          rw [q21, F3.L, F3.T] at this
          exact this)
        rw [if_neg hh2, if_neg c2]
        exact zP'.ret ⟨⟨F3, o3⟩, rfl, q21, q22, v3, v4⟩
/-- a part told: what the reference keeps of it -/
def quQ (σ : zS) (k : Nat) (b : Int) (s : zS) : zQr → Prop
  | .inl q => b = 0 ∧ s 143 22 = q
  | .inr x => b = 1 ∧ s 143 21 = x.2 ∧ s 143 22 = σ 143 22 ∧ s 161 (6 * (k : Int)) = x.1.1 ∧ bxA s 161 (6 * (k : Int) + 1) = x.1.2.1 ∧ s 161 (6 * (k : Int) + 5) = x.1.2.2.1
def quM (σ : zS) (k : Nat) (r : zQr) (b : Int) (s : zS) : Prop := (frQ2 σ s ∧ ∀ j : Int, (j < 6 * (k : Int) ∨ 6 * (k : Int) + 6 ≤ j) → s 161 j = σ 161 j) ∧ quQ σ k b s r
theorem m_query6 {ev : Int → Int → Int} {k : Nat} {σ : zS} (hk : k < 8) (h : tpP σ) (hs : σ 143 22 < 0) : zP' (g_m_isQuery (k : Int) σ) (quM σ k (qryR ev (mT σ) (σ 143 20) (σ 143 21))) := by
  have h1 := h.1
  have h2 := h.2.1
  unfold g_m_isQuery qryR
  refine zP'.bind (m_wrd14 h hs) (fun v s1 p1 => ?_)
  obtain ⟨p1, pw⟩ := p1
  try dsimp +instances only
  rw [w32_id (x := 6 * (k : Int)) (by omega) (by omega), w32_id (x := 6 * (k : Int) + 1) (by omega) (by omega), w32_id (x := 6 * (k : Int) + 3) (by omega) (by omega), w32_id (x := 6 * (k : Int) + 5) (by omega) (by omega)]
  have k6 : 0 ≤ 6 * (k : Int) ∧ 6 * (k : Int) < 48 := by omega
  have k65 : 0 ≤ 6 * (k : Int) + 5 ∧ 6 * (k : Int) + 5 < 48 := by omega
  rw [if_pos k6, if_pos k6]
  try dsimp +instances only
  rw [zu_e rfl]
  have z : frQ2 s1 (zu s1 161 (6 * (k : Int)) v) := frQ2.u
  have zv : zu s1 161 (6 * (k : Int)) v 161 (6 * (k : Int)) = v := zu_e rfl
  have zo : ∀ a j, (a ≠ 161 ∨ j ≠ 6 * (k : Int)) → zu s1 161 (6 * (k : Int)) v a j = s1 a j := fun a j hh => zu_c hh
  generalize zu s1 161 (6 * (k : Int)) v = s1' at z zv zo
  have b1 := wrdR_bd (a := 4) (Ln := 36) (f := mT σ) h2.2
  cases e1 : wrdR 4 36 (mT σ) (σ 143 20) (σ 143 21) with
  | inl q =>
    obtain ⟨f1, f2, f3⟩ := p1.no e1
    have hv : v = -1 := Classical.byContradiction (fun hc => by rw [if_neg hc] at f2; exact absurd f2 (by decide))
    rw [hv, if_pos (by decide)]
    exact zP'.ret ⟨⟨(frQ2.of f1).trans z, fun j hj => by rw [zo 161 j (by omega), f1 161 j (Or.inl (by decide))]⟩, rfl, (zo 143 22 (Or.inl (by decide))).trans f3⟩
  | inr x =>
    obtain ⟨f1, f2, fp, f3⟩ := p1.ok e1
    rw [e1] at b1
    have b1 : σ 143 21 ≤ x.2 ∧ x.2 ≤ σ 143 20 := b1
    have k1 := wrdR_ok (v := x.1) (p' := x.2) e1
    have hx : v = x.1 := pw.trans (wrdR_v (v := x.1) (p' := x.2) e1).symm
    have F1 := (frQ2.of f1).trans z
    have e21 : s1' 143 21 = x.2 := (zo 143 21 (Or.inl (by decide))).trans fp
    have e22 : s1' 143 22 = σ 143 22 := (zo 143 22 (Or.inl (by decide))).trans f3
    have o1 : ∀ j : Int, j ≠ 6 * (k : Int) → s1' 161 j = σ 161 j := fun j hj => (zo 161 j (Or.inr hj)).trans (f1 161 j (Or.inl (by decide)))
    have t1 : tpP s1' := F1.t h (by omega)
    rw [if_neg (by omega)]
    have W := m_sgn (x := 32) t1 (by omega) (by decide)
    rw [F1.T, F1.L, e21] at W
    dsimp only [qryV]
    refine zP'.bind W (fun u s2 p2 => ?_)
    try dsimp +instances only
    have b2 := sgnR_bd (x := 32) (f := mT σ) b1.2
    cases e2 : sgnR 32 (mT σ) (σ 143 20) x.2 with
    | inl q =>
      obtain ⟨g1, rfl, g3⟩ := p2.no e2
      rw [if_pos rfl]
      exact zP'.ret ⟨⟨F1.trans (frQ2.of g1), fun j hj => by rw [g1 161 j (Or.inl (by decide)), o1 j (by omega)]⟩, rfl, g3⟩
    | inr y =>
      obtain ⟨g1, rfl, gp, g3⟩ := p2.ok e2
      rw [e2] at b2
      have b2 : x.2 ≤ y.2 ∧ y.2 ≤ σ 143 20 := b2
      have F2 := F1.trans (frQ2.of g1)
      have t2 : tpP s2 := F2.t h (by omega)
      rw [if_neg (by decide)]
      have R := m_range (k := 6 * (k : Int) + 1) t2 (by omega) (by omega)
      rw [F2.T, F2.L, gp] at R
      dsimp only [qryA]
      refine zP'.bind R (fun b s3 p3 => ?_)
      obtain ⟨⟨i1, io⟩, p3⟩ := p3
      try dsimp +instances only
      have F3 := F2.trans i1
      have o3 : ∀ j : Int, j ≠ 6 * (k : Int) + 1 → j ≠ 6 * (k : Int) + 1 + 1 → s3 161 j = s1' 161 j := fun j j1 j2 => by rw [io j j1 j2, g1 161 j (Or.inl (by decide))]
      have b3 := rngR_bd (f := mT σ) b2.2
      cases e3 : rngR (mT σ) (σ 143 20) y.2 with
      | inl q =>
        rw [e3] at p3
        obtain ⟨rfl, p33⟩ := p3
        rw [if_pos rfl]
        exact zP'.ret ⟨⟨F3, fun j hj => by rw [o3 j (by omega) (by omega), o1 j (by omega)]⟩, rfl, p33⟩
      | inr a =>
        rw [e3] at b3 p3
        obtain ⟨b3, b3', a1, a2, a3⟩ := b3
        obtain ⟨rfl, pp, p33, pa, pb⟩ := p3
        have t3 : tpP s3 := F3.t h (by omega)
        rw [if_neg (by decide)]
        have W4 := m_sgn (x := 32) t3 (by omega) (by decide)
        rw [F3.T, F3.L, pp] at W4
        dsimp only [qryX]
        refine zP'.bind W4 (fun u s4 p4 => ?_)
        try dsimp +instances only
        have b4 := sgnR_bd (x := 32) (f := mT σ) b3'
        cases e4 : sgnR 32 (mT σ) (σ 143 20) a.2 with
        | inl q =>
          obtain ⟨j1, rfl, j3⟩ := p4.no e4
          rw [if_pos rfl]
          exact zP'.ret ⟨⟨F3.trans (frQ2.of j1), fun j hj => by rw [j1 161 j (Or.inl (by decide)), o3 j (by omega) (by omega), o1 j (by omega)]⟩, rfl, j3⟩
        | inr t =>
          obtain ⟨j1, rfl, jp, j3⟩ := p4.ok e4
          rw [e4] at b4
          have b4 : a.2 ≤ t.2 ∧ t.2 ≤ σ 143 20 := b4
          have F4 := F3.trans (frQ2.of j1)
          have t4 : tpP s4 := F4.t h (by omega)
          rw [if_neg (by decide)]
          have R5 := m_range (k := 6 * (k : Int) + 3) t4 (by omega) (by omega)
          rw [F4.T, F4.L, jp] at R5
          dsimp only [qryB]
          refine zP'.bind R5 (fun b s5 p5 => ?_)
          obtain ⟨⟨l1, lo⟩, p5⟩ := p5
          try dsimp +instances only
          have F5 := F4.trans l1
          have o5 : ∀ j : Int, j ≠ 6 * (k : Int) + 3 → j ≠ 6 * (k : Int) + 3 + 1 → s5 161 j = s3 161 j := fun j h3 h4 => by rw [lo j h3 h4, j1 161 j (Or.inl (by decide))]
          have b5 := rngR_bd (f := mT σ) b4.2
          cases e5 : rngR (mT σ) (σ 143 20) t.2 with
          | inl q =>
            rw [e5] at p5
            obtain ⟨rfl, p53⟩ := p5
            rw [if_neg (by decide)]
            exact zP'.ret ⟨⟨F5, fun j hj => by rw [o5 j (by omega) (by omega), o3 j (by omega) (by omega), o1 j (by omega)]⟩, rfl, p53⟩
          | inr c =>
            rw [e5] at b5 p5
            obtain ⟨b5, b5', -⟩ := b5
            obtain ⟨rfl, qp, q3, qa, qb⟩ := p5
            rw [if_pos (by decide), if_pos k65]
            have w : frQ2 s5 (zu s5 161 (6 * (k : Int) + 5) (-1)) := frQ2.u
            have wv : zu s5 161 (6 * (k : Int) + 5) (-1) 161 (6 * (k : Int) + 5) = -1 := zu_e rfl
            have wo : ∀ a j, (a ≠ 161 ∨ j ≠ 6 * (k : Int) + 5) → zu s5 161 (6 * (k : Int) + 5) (-1) a j = s5 a j := fun a j hh => zu_c hh
            generalize zu s5 161 (6 * (k : Int) + 5) (-1) = s6 at w wv wo
            have F6 := F5.trans w
            have e621 : s6 143 21 = c.2 := (wo 143 21 (Or.inl (by decide))).trans qp
            have e622 : s6 143 22 = σ 143 22 := by rw [wo 143 22 (Or.inl (by decide)), q3, j3, p33, g3, e22]
            have t6 : tpP s6 := F6.t h (by omega)
            -- what of the part stands
            have m0 : s6 161 (6 * (k : Int)) = x.1 := by rw [wo 161 _ (by omega), o5 _ (by omega) (by omega), o3 _ (by omega) (by omega), zv, hx]
            have mB : ∀ s : zS, (∀ j : Int, j ≠ 6 * (k : Int) + 5 → s 161 j = s6 161 j) → bxA s 161 (6 * (k : Int) + 1) = (a.1.1, a.1.2, c.1.1, c.1.2) := fun s hsj => by
              unfold bxA
              rw [hsj _ (by omega), hsj _ (by omega), hsj _ (by omega), hsj _ (by omega), wo 161 _ (by omega), wo 161 _ (by omega), wo 161 _ (by omega), wo 161 _ (by omega), o5 _ (by omega) (by omega), o5 _ (by omega) (by omega), pa, pb, show 6 * (k : Int) + 1 + 2 = 6 * (k : Int) + 3 by omega, qa, show 6 * (k : Int) + 1 + 3 = 6 * (k : Int) + 3 + 1 by omega, qb]
            have oo : ∀ j : Int, (j < 6 * (k : Int) ∨ 6 * (k : Int) + 6 ≤ j) → s6 161 j = σ 161 j := fun j hj => by rw [wo 161 j (by omega), o5 j (by omega) (by omega), o3 j (by omega) (by omega), o1 j (by omega)]
            dsimp only [qryY]
            unfold qryF
            rw [s_here t6.i]
            rw [Option.bind_some]
            try dsimp +instances only
            by_cases cb : c.2 < σ 143 20 ∧ mT σ c.2 = 32
            · have hh : hereC s6 = 32 := (hereC_is t6 (by decide)).mpr (by rw [e621, F6.L, F6.T]; exact cb)
              obtain ⟨ew, f, tt, s22, s21, sT, s20⟩ := mk_st t6 (by rw [e621, F6.L]; exact cb.1)
              rw [if_pos hh, if_pos cb, ew]
              generalize zu s6 143 21 (s6 143 21 + 1) = s7 at f tt s22 s21 sT s20
              have F7 := F6.trans (frQ2.of f)
              have W7 := m_wrd15 tt (by omega)
              rw [sT, F6.T, s20, F6.L, s21, e621] at W7
              refine zP'.bind W7 (fun w' s8 p8 => ?_)
              obtain ⟨p8, pw8⟩ := p8
              try dsimp +instances only
              have b6 := wrdR_bd (a := 5) (Ln := 2) (f := mT σ) (L := σ 143 20) (p := c.2 + 1) (by omega)
              cases e8 : wrdR 5 2 (mT σ) (σ 143 20) (c.2 + 1) with
              | inl q =>
                obtain ⟨n1, n2, n3⟩ := p8.no e8
                have hv : w' = -1 := Classical.byContradiction (fun hc => by rw [if_neg hc] at n2; exact absurd n2 (by decide))
                rw [hv, if_pos (by decide)]
                exact zP'.ret ⟨⟨F7.trans (frQ2.of n1), fun j hj => by rw [n1 161 j (Or.inl (by decide)), f 161 j (Or.inl (by decide)), oo j hj]⟩, rfl, n3⟩
              | inr d =>
                obtain ⟨n1, n2, np, n3⟩ := p8.ok e8
                rw [e8] at b6
                have b6 : c.2 + 1 ≤ d.2 ∧ d.2 ≤ σ 143 20 := b6
                have k8 := wrdR_ok (v := d.1) (p' := d.2) e8
                have hd : w' = d.1 := pw8.trans (wrdR_v (v := d.1) (p' := d.2) e8).symm
                have F8 := F7.trans (frQ2.of n1)
                have t8 : tpP s8 := F8.t h (by omega)
                rw [if_neg (by omega)]
                have W9 := m_sgn (x := 32) t8 (by omega) (by decide)
                rw [F8.T, F8.L, np] at W9
                dsimp only [qryI]
                refine zP'.bind W9 (fun u s9 p9 => ?_)
                try dsimp +instances only
                have b7 := sgnR_bd (x := 32) (f := mT σ) b6.2
                cases e9 : sgnR 32 (mT σ) (σ 143 20) d.2 with
                | inl q =>
                  obtain ⟨r1, rfl, r3⟩ := p9.no e9
                  rw [if_neg (by decide)]
                  exact zP'.ret ⟨⟨F8.trans (frQ2.of r1), fun j hj => by rw [r1 161 j (Or.inl (by decide)), n1 161 j (Or.inl (by decide)), f 161 j (Or.inl (by decide)), oo j hj]⟩, rfl, r3⟩
                | inr e =>
                  obtain ⟨r1, rfl, rp, r3⟩ := p9.ok e9
                  rw [e9] at b7
                  have b7 : d.2 ≤ e.2 ∧ e.2 ≤ σ 143 20 := b7
                  rw [if_pos (by decide), if_pos k65, rp]
                  have F9 := F8.trans (frQ2.of r1)
                  have y0 : frQ2 s9 (zu s9 161 (6 * (k : Int) + 5) e.2) := frQ2.u
                  have yv : zu s9 161 (6 * (k : Int) + 5) e.2 161 (6 * (k : Int) + 5) = e.2 := zu_e rfl
                  have yo : ∀ a j, (a ≠ 161 ∨ j ≠ 6 * (k : Int) + 5) → zu s9 161 (6 * (k : Int) + 5) e.2 a j = s9 a j := fun a j hh => zu_c hh
                  try dsimp +instances only
                  generalize zu s9 161 (6 * (k : Int) + 5) e.2 = sa at y0 yv yo
                  have Fa := F9.trans y0
                  have a21 : sa 143 21 = e.2 := (yo 143 21 (Or.inl (by decide))).trans rp
                  have a22 : sa 143 22 = σ 143 22 := by rw [yo 143 22 (Or.inl (by decide)), r3, n3, s22, e622]
                  have ta : tpP sa := Fa.t h (by omega)
                  have X := (m_expr (ev := ev) 700).1 zR 0 (fun _ => true) sa ta (by omega) (by decide) (by decide) (by rw [Fa.L, a21]; omega)
                  rw [Fa.T, Fa.L, a21] at X
                  dsimp only [qryS]
                  refine zP'.bind X (fun b sb pb' => b01 ?_)
                  obtain ⟨q1, q2⟩ := pb'
                  have oa : ∀ j : Int, j ≠ 6 * (k : Int) + 5 → sb 161 j = s6 161 j := fun j hj => by rw [q1 161 j (Or.inl (by decide)), yo 161 j (Or.inr hj), r1 161 j (Or.inl (by decide)), n1 161 j (Or.inl (by decide)), f 161 j (Or.inl (by decide))]
                  try dsimp only
                  cases e10 : eP ev (mT σ) (σ 143 20) 700 0 0 e.2 (fun _ => true) with
                  | inl q =>
                    rw [e10] at q2
                    exact ⟨⟨Fa.trans (frQ2.of q1), fun j hj => by rw [oa j (by omega), oo j hj]⟩, q2⟩
                  | inr zz =>
                    rw [e10] at q2
                    obtain ⟨u1, u2, u3⟩ := q2
                    refine ⟨⟨Fa.trans (frQ2.of q1), fun j hj => by rw [oa j (by omega), oo j hj]⟩, u1, u2, u3.trans a22, ?_, mB sb oa, ?_⟩
                    · rw [oa _ (by omega)]
                      exact m0
                    · rw [q1 161 _ (Or.inl (by decide)), yv]
            · have hh : ¬ hereC s6 = 32 := fun e => cb (by
                have := (hereC_is t6 (by decide)).mp e
                rw [e621, F6.L, F6.T] at this
                exact this)
              rw [if_neg hh, if_neg cb]
              exact zP'.ret ⟨⟨F6, oo⟩, rfl, e621, e622, m0, mB s6 (fun _ _ => rfl), wv⟩
/-- the parts told so far -/
def quR' (l : List zQy) (s : zS) : Prop := ∀ (i : Nat) (hi : i < l.length), s 161 (6 * (i : Int)) = l[i].1 ∧ bxA s 161 (6 * (i : Int) + 1) = l[i].2.1 ∧ s 161 (6 * (i : Int) + 5) = l[i].2.2.1
def rnQ (r : Int) (s : zS) : Sum Int (List zQy) → Prop
  | .inl q => s 143 22 = q
  | .inr l => r = (l.length : Int) ∧ s 143 22 = -1 ∧ quR' l s
theorem m_runP {ev : Int → Int → Int} {Q : Int → zS → Prop} {σ0 : zS} : ∀ (n m : Nat) (l : List zQy) (σ : zS), tpP σ → σ 143 22 = -1 → l.length + m = 8 → 0 < m → frQ2 σ0 σ → quR' l σ → (∀ r s, frQ2 σ0 s → rnQ r s (runP ev (mT σ) (σ 143 20) m (σ 143 21) l) → ∀ k, zP' (g_m_run_L8 k r 0 s) Q) → zP' (g_m_run_L8 n (l.length : Int) 1 σ) Q
  | 0, _, _, _, _, _, _, _, _, _, _ => zP'.no
  | n + 1, m, l, σ, h, hs, hl, hm, hf, hq, hQ => by
    have h2 := h.2.1
    obtain ⟨m, rfl⟩ : ∃ q, m = q + 1 := ⟨m - 1, by omega⟩
    rw [runP_1] at hQ
    unfold g_m_run_L8
    rw [if_neg (by decide)]
    have ex := w32_id (x := (l.length : Int) + 1) (by omega) (by omega)
    obtain ⟨d1, d2⟩ := qryR_ok (ev := ev) (f := mT σ) h2.1 h2.2
    refine zP'.bind (m_query6 (ev := ev) (k := l.length) (by omega) h (by omega)) (fun b s1 p1 => ?_)
    obtain ⟨⟨f1, fo⟩, p1⟩ := p1
    try dsimp +instances only
    rw [ex]
    cases e1 : qryR ev (mT σ) (σ 143 20) (σ 143 21) with
    | inl q =>
      rw [e1] at p1 hQ
      obtain ⟨rfl, p2⟩ := p1
      rw [if_pos rfl]
      unfold g_m_run_L41
      rw [if_pos rfl]
      exact hQ _ s1 (hf.trans f1) p2 n
    | inr x =>
      rw [e1] at p1 hQ
      obtain ⟨rfl, p2, p3, p4, p5, p6⟩ := p1
      have b := d2 x e1
      have t1 : tpP s1 := f1.t h (by omega)
      have hq1 : quR' (l ++ [x.1]) s1 := fun i hi => by
        rw [List.length_append] at hi
        have hi : i < l.length + 1 := hi
        by_cases ci : i < l.length
        · rw [List.getElem_append_left ci]
          have k := hq i ci
          have eb : bxA s1 161 (6 * (i : Int) + 1) = bxA σ 161 (6 * (i : Int) + 1) := by
            unfold bxA
            rw [fo _ (by omega), fo _ (by omega), fo _ (by omega), fo _ (by omega)]
          rw [fo _ (by omega), fo _ (by omega), eb]
          exact k
        · have ei : i = l.length := by omega
          subst ei
          rw [List.getElem_append_right (by omega)]
          have e0 : ([x.1] : List zQy)[l.length - l.length]'(by rw [Nat.sub_self]; exact Nat.one_pos) = x.1 := by
            simp
          rw [e0]
          exact ⟨p4, p5, p6⟩
      have el : (l.length : Int) + 1 = ((l ++ [x.1]).length : Int) := by
        rw [List.length_append]
        show (l.length : Int) + 1 = ((l.length + 1 : Nat) : Int)
        omega
      rw [if_neg (by decide), p2, f1.L]
      dsimp only at hQ
      by_cases cl : x.2 < σ 143 20
      · rw [if_pos cl] at hQ
        rw [if_pos (by omega)]
        unfold g_m_run_L41
        rw [if_neg (by decide)]
        refine zP'.ite (fun c8 => ?_) (fun c8 => ?_)
        · rw [if_neg (fun k => by omega)] at hQ
          try dsimp +instances only
          rw [m_fail (by omega)]
          rw [Option.bind_some]
          try dsimp +instances only
          unfold g_m_run_L68
          refine hQ _ _ ((hf.trans f1).trans (frQ2.of (fr3.u (by omega)))) ?_ n
          show zu s1 143 22 (s1 143 21) 143 22 = x.2
          rw [zu_e rfl, p2]
        · refine zP'.bind (m_sgn (x := 59) t1 (by omega) (by decide)) (fun b s2 k2 => ?_)
          try dsimp +instances only
          rw [f1.T, f1.L, p2] at k2
          unfold g_m_run_L68
          by_cases c59 : mT σ x.2 = 59
          · rw [if_pos ⟨by omega, c59⟩] at hQ
            have e2 : sgnR 59 (mT σ) (σ 143 20) x.2 = .inr (59, x.2 + 1) := if_pos ⟨cl, c59⟩
            obtain ⟨g1, rfl, gp, g3⟩ := k2.ok e2
            have gp : s2 143 21 = x.2 + 1 := gp
            have F2 := f1.trans (frQ2.of g1)
            have hq2 : quR' (l ++ [x.1]) s2 := fun i hi => by
              have k := hq1 i hi
              have eb : bxA s2 161 (6 * (i : Int) + 1) = bxA s1 161 (6 * (i : Int) + 1) := by
                unfold bxA
                rw [g1 161 _ (Or.inl (by decide)), g1 161 _ (Or.inl (by decide)), g1 161 _ (Or.inl (by decide)), g1 161 _ (Or.inl (by decide))]
              rw [g1 161 _ (Or.inl (by decide)), g1 161 _ (Or.inl (by decide)), eb]
              exact k
            rw [el]
            refine m_runP (ev := ev) n m (l ++ [x.1]) s2 (F2.t h (by omega)) (by rw [g3, p3]; exact hs) (by rw [List.length_append]; show l.length + 1 + m = 8; omega) (by omega) (hf.trans F2) hq2 ?_
            rw [F2.T, F2.L, gp]
            exact hQ
          · rw [if_neg (fun k => c59 k.2)] at hQ
            have e2 : sgnR 59 (mT σ) (σ 143 20) x.2 = .inl x.2 := if_neg (fun hn => c59 hn.2)
            obtain ⟨g1, rfl, g3⟩ := k2.no e2
            exact hQ _ s2 ((hf.trans f1).trans (frQ2.of g1)) g3 n
      · rw [if_neg cl] at hQ
        rw [if_neg (by omega)]
        exact hQ _ s1 (hf.trans f1) ⟨el, by rw [p3]; exact hs, hq1⟩ n
