/-! THE REGIONS alike: query, flush, image, undo -/
theorem btE_all (I : Nat → Bool) : btE I (-1) (fun _ => true) := fun q hq _ => bq_m1 (by omega)
theorem p_queryR {σ : zS} {I : Nat → Bool} {rn : Bx → Int} {st : Int → Int} {L : List Rg} {ct : Int → Int} {m x0 x1 y0 y1 : Int} (H : CI σ) (S : ST σ 41 I) (ok : ok44 σ) (s1 : 0 ≤ st 1) (s2 : 0 ≤ st 2) (hL : L.length ≤ 12) (hk : ∀ r ∈ L, hOk r) (hp : (L.map (fun r => r.1)).Pairwise (fun a b => ¬ bMt a b)) (C : cSt σ 48 I rn st L ct) : zP' (g_c_query m x0 x1 y0 y1 σ) (fun _ s => ((0 ≤ m ∧ m ≤ 6) ∧ bOk (x0, x1, y0, y1) → ∃ L' ct', srvR rn st (x0, x1, y0, y1) L ct L' ct' ∧ cSt s 48 I rn st L' ct') ∧ (¬ ((0 ≤ m ∧ m ≤ 6) ∧ bOk (x0, x1, y0, y1)) → s = σ)) := by
  unfold g_c_query
  rw [p_isMeasure]
  rw [Option.bind_some]
  try dsimp +instances only
  by_cases c : 0 ≤ m ∧ m ≤ 6
  · rw [if_pos c, if_neg (by decide), p_isBox]
    rw [Option.bind_some]
    try dsimp +instances only
    by_cases c2 : bOk (x0, x1, y0, y1)
    · rw [if_pos c2, if_pos (by decide)]
      have hb := b_of (b := (x0, x1, y0, y1)) c2.s σ
      try dsimp only at hb
      rw [hb]
      rw [Option.bind_some]
      try dsimp +instances only
      exact zP'.bind (k_done H S c2 c ok (btE_all I) s1 s2 hL hk hp C) (fun v s p => zP'.ret ⟨fun _ => p, fun h => absurd ⟨c, c2⟩ h⟩)
    · rw [if_neg c2, if_neg (by decide)]
      exact zP'.ret ⟨fun h => absurd h.2 c2, fun _ => rfl⟩
  · rw [if_neg c, if_pos rfl]
    exact zP'.ret ⟨fun h => absurd h.1 c, fun _ => rfl⟩
theorem t_queryR {σ : zS} {rn : Bx → Int} {st : Int → Int} {L : List Rg} {ct : Int → Int} {m x0 x1 y0 y1 : Int} (so : stO1 st) (hR : RI σ L.length) (h : mSt σ rn st L ct) (hN2 : L.length ≤ 12) (ha : asc L (ct 8)) (h8 : 0 ≤ ct 8 ∧ ct 8 + 169 < 2147483648) : zP' (g_m_query m x0 x1 y0 y1 σ) (fun _ s => ((0 ≤ m ∧ m ≤ 6) ∧ bOk (x0, x1, y0, y1) → ∃ L' ct', srvR rn st (x0, x1, y0, y1) L ct L' ct' ∧ asc L' (ct' 8) ∧ (ct 8 ≤ ct' 8 ∧ ct' 8 ≤ ct 8 + 169) ∧ mSt s rn st L' ct') ∧ (¬ ((0 ≤ m ∧ m ≤ 6) ∧ bOk (x0, x1, y0, y1)) → s = σ)) := by
  have l152 : zLI 152 = 4 := rfl
  unfold g_m_query
  by_cases c : 0 ≤ m ∧ m ≤ 6
  · rw [s_isIn_t c.1 c.2]
    rw [Option.bind_some]
    try dsimp only
    rw [if_neg (by decide)]
    by_cases c2 : bOk (x0, x1, y0, y1)
    · rw [s_isBox_t c2]
      rw [Option.bind_some]
      try dsimp only
      rw [if_pos (by decide), s_sets (by omega) (by omega) (by omega)]
      rw [Option.bind_some]
      try dsimp only
      have M : mSt (zb σ 152 0 (x0, x1, y0, y1)) rn st L ct := ⟨h.1.mv (fun j _ => zb_a (by decide)) (fun j _ _ => zb_a (by decide)) (by omega), h.2.1.mv (fun j _ _ => zb_a (by decide)) (zb_a (by decide)), h.2.2.mv (fun j _ _ => zb_a (by decide))⟩
      have R : RI (zb σ 152 0 (x0, x1, y0, y1)) L.length := RI_of hR (fun k hk => ⟨zb_bxa (by decide), zb_bxa (by decide)⟩)
      exact zP'.bind (t_askedR so R M hN2 c2 (zb_bx rfl) ha h8 (fun s _ => Or.inl (by decide))) (fun v s p => zP'.ret ⟨fun _ => p, fun h => absurd ⟨c, c2⟩ h⟩)
    · rw [s_isBox_f c2]
      rw [Option.bind_some]
      try dsimp only
      rw [if_neg (by decide)]
      exact zP'.ret ⟨fun h => absurd h.2 c2, fun _ => rfl⟩
  · rw [s_isIn_f (by omega)]
    rw [Option.bind_some]
    try dsimp only
    rw [if_pos rfl]
    exact zP'.ret ⟨fun h => absurd h.1 c, fun _ => rfl⟩
theorem fr_ref {F : Nat → Int → Bool} {σ s : zS} (G : fr F σ s) : ∀ a j, 143 ≤ a → a < 168 → s a j = σ a j := fun a j h1 h2 => G a j (Or.inl ⟨h1, h2⟩)
theorem mSt.mv {σ s : zS} {rn : Bx → Int} {st : Int → Int} {L : List Rg} {ct : Int → Int} (h : mSt σ rn st L ct) (hN : L.length ≤ 240) (e : ∀ j : Int, 0 ≤ j → j < 2740 → s 144 j = σ 144 j) (ew : ∀ j : Int, 0 ≤ j → j < 361 → s 147 j = σ 147 j) : mSt s rn st L ct := ⟨h.1.mv (fun j _ => e j (by omega) (by omega)) (fun j _ _ => ew j (by omega) (by omega)) hN, h.2.1.mv (fun j _ _ => e j (by omega) (by omega)) (ew 0 (by decide) (by decide)), h.2.2.mv (fun j _ _ => e j (by omega) (by omega))⟩
theorem RI.mv {σ s : zS} {N : Nat} (h : RI σ N) (hN : N ≤ 240) (e : ∀ j : Int, 0 ≤ j → j < 2740 → s 144 j = σ 144 j) : RI s N := RI_of h (fun k hk => by
  unfold rgA bxA
  dsimp only
  rw [e _ (by omega) (by omega), e _ (by omega) (by omega), e _ (by omega) (by omega), e _ (by omega) (by omega), e _ (by omega) (by omega), e _ (by omega) (by omega), e _ (by omega) (by omega), e _ (by omega) (by omega)]
  exact ⟨rfl, rfl⟩)
theorem qr_query {K : Int} {a b c d e : Int} {σ : zS} (hK : K ≤ 2000000) (I : InvR K σ) : two (g_c_query a b c d e σ) (g_m_query a b c d e) (fun v w s => InvR (K + 2400) s ∧ v = w) := by
  obtain ⟨v, s1, e1, w, s2, e2, J, q⟩ := qs_query (a := a) (b := b) (c := c) (d := d) (e := e) I.1
  refine ⟨v, s1, e1, w, s2, e2, ?_, q⟩
  obtain ⟨L, ct, C, M, hR, hk, A, B, hL⟩ := R_open I
  have so := R_st I
  obtain ⟨H1, G1, -⟩ := zO.at (g_c_query_sp I.1.ci) e1
  have ref := fr_ref G1
  have M1 : MI s1 := MI_cls I.1.mi ref
  have F := frI_of (mC (fun _ h => m_query h) s1 M1) e2
  have cl : ∀ a j, a < 143 → s2 a j = s1 a j := fun a j h => F a j (Or.inl h)
  have k2 := zO.at (k_query M1) e2
  have i1 := imE.of G1 (fun _ => ⟨rfl, rfl, rfl, rfl, rfl, rfl, rfl⟩)
  have sb : stB s1 50 := I.2.2.1.mv (fun j _ _ => G1 50 j (Or.inr rfl))
  have Mm := M.mv (s := s1) (by omega) (fun j _ _ => ref 144 j (by decide) (by decide)) (fun j _ _ => ref 147 j (by decide) (by decide))
  have Rm := hR.mv (s := s1) (by omega) (fun j _ _ => ref 144 j (by decide) (by decide))
  obtain ⟨p1, p2⟩ := p_queryR (m := a) (x0 := b) (x1 := c) (y0 := d) (y1 := e) I.1.ci I.1.rw.1 I.1.1.1.2.1.ok (by have := so.1; omega) (by have := so.2.1; omega) hL hk (pw_of M.1 hR) C v s1 e1
  obtain ⟨r1, r2⟩ := t_queryR (m := a) (x0 := b) (x1 := c) (y0 := d) (y1 := e) so Rm Mm hL A (by omega) w s2 e2
  by_cases cc : (0 ≤ a ∧ a ≤ 6) ∧ bOk (b, c, d, e)
  · obtain ⟨L1, c1, u1, u2⟩ := p1 cc
    obtain ⟨L2, c2, v1, v2, v3, v4⟩ := r1 cc
    obtain ⟨rfl, rfl⟩ := u1.det v1
    exact R_close J I.2 (by omega) i1 (rK.cls G1) cl k2 u2 v4 v2 (by omega) sb (gL_srv u1 cc.2.1 so.2.1.2 hL (by omega) (R_g I M.1)).1
  · have x1 := p2 cc
    have x2 := r2 cc
    rw [x2] at J ⊢
    rw [x1] at J ⊢
    exact ⟨J, I.2.mono (by omega)⟩
theorem qr_flush {K : Int} {σ : zS} (I : InvR K σ) : two (g_c_flush σ) g_m_flush (fun v w s => InvR (K + 2400) s ∧ v = w) := by
  obtain ⟨v, s1, e1, w, s2, e2, J⟩ := qs_flush I.1
  refine ⟨v, s1, e1, w, s2, e2, ?_⟩
  obtain ⟨L, ct, C, M, hR, hk, A, B, hL⟩ := R_open I
  obtain ⟨H1, G1, -⟩ := zO.at (g_c_flush_sp I.1.ci) e1
  have ref := fr_ref G1
  have M1 : MI s1 := MI_cls I.1.mi ref
  have F := frI_of (mC (fun _ h => m_flush h) s1 M1) e2
  have cl : ∀ a j, a < 143 → s2 a j = s1 a j := fun a j h => F a j (Or.inl h)
  have k2 := zO.at (k_flush M1) e2
  have i1 := imE.of G1 (fun _ => ⟨rfl, rfl, rfl, rfl, rfl, rfl, rfl⟩)
  have sb : stB s1 50 := I.2.2.1.mv (fun j _ _ => G1 50 j (Or.inr rfl))
  have x1 : v = (L.length : Int) ∧ s1 = zu σ 48 2 0 := by
    have e1' := e1
    unfold g_c_flush at e1'
    try dsimp only at e1'
    rw [C.1.1] at e1'
    cases e1'
    exact ⟨rfl, rfl⟩
  have x2 : w = (L.length : Int) ∧ s2 = zu s1 144 0 0 := by
    have e2' := e2
    unfold g_m_flush at e2'
    try dsimp only at e2'
    rw [ref 144 0 (by decide) (by decide), M.1.1] at e2'
    cases e2'
    exact ⟨rfl, rfl⟩
  obtain ⟨rfl, x1⟩ := x1
  obtain ⟨rfl, x2⟩ := x2
  refine ⟨?_, rfl⟩
  have C1 : cSt s1 48 (inS σ 144) (rowsN σ) (σ 50) [] ct := by
    obtain ⟨h1, h2, h3, h4, h5, h6⟩ := C
    have o : ∀ a j, (a ≠ 48 ∨ j ≠ 2) → s1 a j = σ a j := fun a j k => by rw [x1, zu_c k]
    refine ⟨⟨by rw [x1, zu_e rfl]; rfl, fun k hk => absurd hk (Nat.not_lt_zero _)⟩, fun i i1 i2 => (o 48 i (by omega)).trans (h2 i i1 i2), fun i i1 i2 => (o (48 + 2) i (by omega)).trans (h3 i i1 i2), STb_mv h4 (fun c j k1 k2 => o c j (by omega)), h5, fun b => ?_⟩
    rw [rnC_mv (fun c j k1 k2 => o c j (by omega))]
    exact h6 b
  have Mm := M.mv (s := s1) (by omega) (fun j _ _ => ref 144 j (by decide) (by decide)) (fun j _ _ => ref 147 j (by decide) (by decide))
  have M2 : mSt s2 (rowsN σ) (σ 50) [] ct := by
    have o : ∀ a j, (a ≠ 144 ∨ j ≠ 0) → s2 a j = s1 a j := fun a j k => by rw [x2, zu_c k]
    exact ⟨⟨by rw [x2, zu_e rfl]; rfl, fun k hk => absurd hk (Nat.not_lt_zero _)⟩, Mm.2.1.mv (fun j _ _ => o 144 j (by omega)) (o 147 0 (Or.inl (by decide))), Mm.2.2.mv (fun j _ _ => o 144 j (by omega))⟩
  have A0 : asc [] (ct 8) := ⟨List.Pairwise.nil, fun r hr => absurd hr List.not_mem_nil⟩
  exact R_close J I.2 (by omega) i1 (rK.cls G1) cl k2 C1 M2 A0 (by omega) sb gL.nil
theorem qr_image {K : Int} {σ : zS} (I : InvR K σ) : two (g_c_image σ) g_m_image (fun v w s => InvR (K + 2400) s ∧ v = w) := by
  obtain ⟨v, s1, e1, w, s2, e2, J⟩ := qs_image I.1
  refine ⟨v, s1, e1, w, s2, e2, ?_⟩
  obtain ⟨L, ct, C, M, hR, hk, A, B, hL⟩ := R_open I
  have h1 := CI.c1 (a := 63) I.1.ci (by omega)
  have h9 := I.1.mi.2.1.2.2.2.1
  have R9 : σ 63 1 = σ 144 9 := I.1.1.1.2.1.2.1
  obtain ⟨H1, G1, -⟩ := zO.at (g_c_image_sp I.1.ci) e1
  have ref := fr_ref G1
  have key : zP' (g_c_image σ) (fun v s => v = (L.length : Int) ∧ (∀ j : Int, 0 ≤ j → j < 7 → s 83 j = σ 50 j) ∧ (∀ f : Nat, 3 ≤ f → f ≤ 7 → ∀ j : Int, 0 ≤ j → j < 181 → s (81 + f) j = σ (48 + f) j) ∧ s 81 2 = σ 48 2 ∧ (∀ i : Int, 8 ≤ i → i ≤ 15 → s 81 i = σ 48 i) ∧ ∀ a j, 48 ≤ a → a < 73 → s a j = σ a j) := by
    unfold g_c_image
    refine zP'.bind (p_stF_img (σ := σ) ⟨h1.1, by omega⟩) (fun _ t p => ?_)
    obtain ⟨p1, p2, p3, -, p5⟩ := p
    obtain ⟨z0, z1, z2, z3, z4, z5, z6, z7, z8⟩ := p3
    try dsimp +instances only
    have u : ∀ a j, a ≠ 39 → zu t 39 2 1 a j = t a j := fun a j k => zu_a k
    refine zP'.ret ⟨?_, fun j j1 j2 => ?_, fun f f1 f2 j j1 j2 => ?_, ?_, fun i i1 i2 => ?_, fun a j k1 k2 => ?_⟩
    · try dsimp only
      rw [u 48 2 (by decide), p5 48 2 (by omega)]
      exact C.1.1
    · try dsimp only
      rw [u 83 j (by decide)]
      exact p1 j j1 j2
    · try dsimp only
      rw [u (81 + f) j (by omega)]
      obtain ⟨q1, q2, q3, q4, q5⟩ := p2 j j1 j2
      have cs : f = 3 ∨ f = 4 ∨ f = 5 ∨ f = 6 ∨ f = 7 := by omega
      rcases cs with rfl | rfl | rfl | rfl | rfl
      · exact q1
      · exact q2
      · exact q3
      · exact q4
      · exact q5
    · try dsimp only
      rw [u 81 2 (by decide)]
      exact z0
    · try dsimp only
      rw [u 81 i (by decide)]
      have cs : i = 8 ∨ i = 9 ∨ i = 10 ∨ i = 11 ∨ i = 12 ∨ i = 13 ∨ i = 14 ∨ i = 15 := by omega
      rcases cs with rfl | rfl | rfl | rfl | rfl | rfl | rfl | rfl
      · exact z1
      · exact z2
      · exact z3
      · exact z4
      · exact z5
      · exact z6
      · exact z7
      · exact z8
    · try dsimp only
      rw [u a j (by omega)]
      exact p5 a j (by omega)
  obtain ⟨k0, k1, k2, k3, k4, k5⟩ := key v s1 e1
  obtain ⟨m1, m2, m3, -⟩ := f_image w s2 e2
  have wv : w = (L.length : Int) := by
    have e2' := e2
    unfold g_m_image at e2'
    rw [s_keeps (a := 145) (b := 148) (by decide)] at e2'
    rw [Option.bind_some] at e2'
    try dsimp only at e2'
    cases e2'
    show zu (kpS s1 145 148) 143 6 1 144 0 = _
    rw [zu_a (by decide)]
    unfold kpS
    rw [if_neg (fun e => absurd e.1 (by decide)), if_neg (fun e => absurd e.1 (by decide)), ref 144 0 (by decide) (by decide)]
    exact M.1.1
  have cl : ∀ a j, a < 143 → s2 a j = s1 a j := fun a j h => m1 a j (by omega) (by omega) (Or.inl (by omega))
  have q4 : ∀ j, s2 144 j = σ 144 j := fun j => (m1 144 j (by decide) (by decide) (Or.inl (by decide))).trans (ref 144 j (by decide) (by decide))
  have q7 : ∀ j, s2 147 j = σ 147 j := fun j => (m1 147 j (by decide) (by decide) (Or.inl (by decide))).trans (ref 147 j (by decide) (by decide))
  have N := I.2.1.mono (show K ≤ K + 2400 by omega)
  refine ⟨⟨J, ?_, ?_, fun _ => ⟨?_, ?_⟩⟩, by rw [k0, wv]⟩
  · exact N.cp ((cl 48 2 (by decide)).trans (k5 48 2 (by decide) (by decide))) (fun i _ _ => (cl 48 i (by decide)).trans (k5 48 i (by decide) (by decide))) (fun f f1 f2 j _ _ => (cl (48 + f) j (by omega)).trans (k5 (48 + f) j (by omega) (by omega))) (fun j _ => q4 j) (fun j _ => q7 j)
  · exact I.2.2.1.mv (fun j _ _ => (cl 50 j (by decide)).trans (k5 50 j (by decide) (by decide)))
  · refine N.cp ((cl 81 2 (by decide)).trans k3) (fun i i1 i2 => (cl 81 i (by decide)).trans (k4 i i1 i2)) (fun f f1 f2 j j1 j2 => (cl (81 + f) j (by omega)).trans (k2 f f1 f2 j j1 j2)) (fun j k => ?_) (fun j k => ?_)
    · rw [imgS_a, m2 j (by omega) (by omega)]
      exact ref 144 j (by decide) (by decide)
    · rw [imgS_w, m3 j (by omega) (by omega)]
      exact ref 147 j (by decide) (by decide)
  · exact I.2.2.1.mv (fun j j1 j2 => (cl 83 j (by decide)).trans (k1 j j1 j2))
theorem qr_undo {K : Int} {σ : zS} (I : InvR K σ) : two (g_c_undo σ) g_m_undo (fun v w s => InvR (K + 2400) s ∧ v = w) := by
  obtain ⟨v, s1, e1, w, s2, e2, J⟩ := qs_undo I.1
  refine ⟨v, s1, e1, w, s2, e2, ?_⟩
  obtain ⟨H1, G1, -⟩ := zO.at (g_c_undo_sp I.1.ci) e1
  have ref := fr_ref G1
  have h6 : σ 39 2 ≠ 0 ↔ σ 143 6 ≠ 0 := I.1.1.1.2.2.1
  by_cases c : σ 143 6 ≠ 0
  · obtain ⟨Ri, Si⟩ := I.2.2.2 c
    have Bi := I.1.1.1.2.2.2 c
    have R9 : σ 96 1 = σ 145 9 := Bi.2.1
    have h9 : 0 ≤ σ 145 9 ∧ σ 145 9 ≤ 10 := (I.1.mi.2.2.2 c).2.2.2.2.1
    have key : zP' (g_c_undo σ) (fun v s => v = s 48 2 ∧ (∀ j : Int, 0 ≤ j → j < 7 → s 50 j = σ 83 j) ∧ (∀ f : Nat, 3 ≤ f → f ≤ 7 → ∀ j : Int, 0 ≤ j → j < 181 → s (48 + f) j = σ (81 + f) j) ∧ s 48 2 = σ 81 2 ∧ (∀ i : Int, 8 ≤ i → i ≤ 15 → s 48 i = σ 81 i) ∧ ∀ a j, 71 ≤ a → s a j = σ a j) := by
      unfold g_c_undo
      try dsimp +instances only
      rw [if_pos (h6.mpr c)]
      refine zP'.bind (p_stF_und (σ := σ) (by omega)) (fun _ t p => ?_)
      obtain ⟨p1, p2, p3, -, p5⟩ := p
      obtain ⟨z0, z1, z2, z3, z4, z5, z6, z7, z8⟩ := p3
      try dsimp +instances only
      refine zP'.ret ⟨rfl, p1, fun f f1 f2 j j1 j2 => ?_, z0, fun i i1 i2 => ?_, fun a j k => p5 a j (by omega)⟩
      · obtain ⟨q1, q2, q3, q4, q5⟩ := p2 j j1 j2
        have cs : f = 3 ∨ f = 4 ∨ f = 5 ∨ f = 6 ∨ f = 7 := by omega
        rcases cs with rfl | rfl | rfl | rfl | rfl
        · exact q1
        · exact q2
        · exact q3
        · exact q4
        · exact q5
      · have cs : i = 8 ∨ i = 9 ∨ i = 10 ∨ i = 11 ∨ i = 12 ∨ i = 13 ∨ i = 14 ∨ i = 15 := by omega
        rcases cs with rfl | rfl | rfl | rfl | rfl | rfl | rfl | rfl
        · exact z1
        · exact z2
        · exact z3
        · exact z4
        · exact z5
        · exact z6
        · exact z7
        · exact z8
    obtain ⟨k0, k1, k2, k3, k4, k5⟩ := key v s1 e1
    obtain ⟨m1, m2, -⟩ := f_undo w s2 e2
    have r6 : s1 143 6 ≠ 0 := by rw [ref 143 6 (by decide) (by decide)]; exact c
    obtain ⟨n1, n2⟩ := m2 r6
    have cl : ∀ a j, a < 143 → s2 a j = s1 a j := fun a j h => m1 a j (by omega) (by omega)
    have wv : w = s2 144 0 := by
      have e2' := e2
      unfold g_m_undo at e2'
      try dsimp only at e2'
      rw [if_pos r6, s_back (a := 145) (b := 148) (by decide)] at e2'
      rw [Option.bind_some] at e2'
      try dsimp only at e2'
      cases e2'
      rfl
    have N := Ri.mono (show K ≤ K + 2400 by omega)
    have q4 : ∀ j : Int, 0 ≤ j → j < 2740 → s2 144 j = imgS σ 144 j := fun j j1 j2 => by rw [n1 j j1 j2, ref 145 j (by decide) (by decide)]; rfl
    have q7 : ∀ j : Int, 0 ≤ j → j < 361 → s2 147 j = imgS σ 147 j := fun j j1 j2 => by rw [n2 j j1 j2, ref 148 j (by decide) (by decide)]; rfl
    have N1 : RG1 (K + 2400) s2 s2 48 := N.cp ((cl 48 2 (by decide)).trans k3) (fun i i1 i2 => (cl 48 i (by decide)).trans (k4 i i1 i2)) (fun f f1 f2 j j1 j2 => (cl (48 + f) j (by omega)).trans (k2 f f1 f2 j j1 j2)) (fun j k => q4 j (by omega) (by omega)) (fun j k => q7 j (by omega) (by omega))
    refine ⟨⟨J, N1, Si.mv (fun j j1 j2 => (cl 50 j (by decide)).trans (k1 j j1 j2)), fun _ => ⟨?_, ?_⟩⟩, ?_⟩
    · refine N.cp ((cl 81 2 (by decide)).trans (k5 81 2 (by decide))) (fun i i1 i2 => (cl 81 i (by decide)).trans (k5 81 i (by decide))) (fun f f1 f2 j j1 j2 => (cl (81 + f) j (by omega)).trans (k5 (81 + f) j (by omega))) (fun j k => ?_) (fun j k => ?_)
      · rw [imgS_a, imgS_a, m1 145 j (by decide) (by decide)]
        exact ref 145 j (by decide) (by decide)
      · rw [imgS_w, imgS_w, m1 148 j (by decide) (by decide)]
        exact ref 148 j (by decide) (by decide)
    · exact Si.mv (fun j j1 j2 => (cl 83 j (by decide)).trans (k5 83 j (by decide)))
    · obtain ⟨L, ct, h1, -, h3, -⟩ := N1
      rw [k0, wv, ← cl 48 2 (by decide), h1.1, h3.1]
  · have c6 : σ 143 6 = 0 := Classical.byContradiction (fun h => c h)
    have key : zP' (g_c_undo σ) (fun v s => v = -3 ∧ s = σ) := by
      unfold g_c_undo
      try dsimp +instances only
      rw [if_neg (fun h => c (h6.mp h))]
      exact zP'.ret ⟨rfl, rfl⟩
    obtain ⟨rfl, rfl⟩ := key v s1 e1
    have e2' := e2
    unfold g_m_undo at e2'
    try dsimp only at e2'
    rw [if_neg c] at e2'
    cases e2'
    exact ⟨⟨J, I.2.mono (by omega)⟩, rfl⟩
