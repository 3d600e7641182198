/-! THE REGIONS alike: settings -/
theorem wordV2_le {f : Int → Int} {L p : Int} : wordV 2 14 f L p ≤ 2 := by
  have h := wordG_le (c := charC 2) (f := f) (b := p) (e := wend f L 160 p) 14 0 0 0 (Int.le_refl 0)
  have e : bkC (charC 2) 14 0 = 2 := by decide +kernel
  rw [e] at h
  exact h
theorem wordV3_le {f : Int → Int} {L p : Int} : wordV 3 6 f L p ≤ 1 := by
  have h := wordG_le (c := charC 3) (f := f) (b := p) (e := wend f L 160 p) 6 0 0 0 (Int.le_refl 0)
  have e : bkC (charC 3) 6 0 = 1 := by decide +kernel
  rw [e] at h
  exact h
theorem wrdR_w {a Ln : Nat} {f : Int → Int} {L p v p' : Int} (h : wrdR a Ln f L p = .inr (v, p')) : v = wordV a Ln f L p := by
  unfold wrdR at h
  by_cases c : wordV a Ln f L p = -1
  · rw [if_pos c] at h
    cases h
  · rw [if_neg c] at h
    cases h
    rfl
def stO2 (g : Int → Int) : Prop := (0 ≤ g 3 ∧ g 3 ≤ 2) ∧ (g 4 = 0 ∨ g 4 = 1) ∧ (g 5 = 0 ∨ g 5 = 1)
theorem setP_rg2 {f : Int → Int} {L : Int} : ∀ (m : Nat) (p n : Int) (g : Int → Int), stO2 g → ∀ x, setP f L m p n g = .inr x → stO2 x.2
  | 0, _, _, _, _, _, e => by cases e
  | m + 1, p, n, g, h1, x, e => by
    rw [setP_1] at e
    cases e1 : set1 f L p with
    | inl q =>
      rw [e1] at e
      cases e
    | inr y =>
      rw [e1] at e
      dsimp only at e
      have hv : (y.1.1 = 3 → 0 ≤ y.1.2 ∧ y.1.2 ≤ 2) ∧ (y.1.1 = 4 → y.1.2 = 0 ∨ y.1.2 = 1) ∧ (y.1.1 = 5 → y.1.2 = 0 ∨ y.1.2 = 1) := by
        unfold set1 at e1
        cases k1 : wrdR 1 39 f L p with
        | inl q =>
          rw [k1] at e1
          cases e1
        | inr a =>
          rw [k1] at e1
          dsimp only at e1
          cases k2 : sgnR 32 f L a.2 with
          | inl q =>
            rw [k2] at e1
            cases e1
          | inr b =>
            rw [k2] at e1
            dsimp only at e1
            cases k3 : setV a.1 f L b.2 with
            | inl q =>
              rw [k3] at e1
              dsimp only [set1v] at e1
              cases e1
            | inr z =>
              rw [k3] at e1
              dsimp only [set1v] at e1
              cases e1
              dsimp only
              unfold setV at k3
              refine ⟨fun c => ?_, fun c => ?_, fun c => ?_⟩
              · rw [if_neg (by omega), if_neg (by omega), if_neg (by omega), if_pos c] at k3
                have k := wrdR_ok (v := z.1) (p' := z.2) k3
                have k4 := wrdR_w (v := z.1) (p' := z.2) k3
                have k5 := wordV2_le (f := f) (L := L) (p := b.2)
                omega
              · rw [if_neg (by omega), if_neg (by omega), if_neg (by omega), if_neg (by omega), if_neg (by omega)] at k3
                have k := wrdR_ok (v := z.1) (p' := z.2) k3
                have k4 := wrdR_w (v := z.1) (p' := z.2) k3
                have k5 := wordV3_le (f := f) (L := L) (p := b.2)
                omega
              · rw [if_neg (by omega), if_neg (by omega), if_neg (by omega), if_neg (by omega), if_neg (by omega)] at k3
                have k := wrdR_ok (v := z.1) (p' := z.2) k3
                have k4 := wrdR_w (v := z.1) (p' := z.2) k3
                have k5 := wordV3_le (f := f) (L := L) (p := b.2)
                omega
      have u : stO2 (updS g y.1.1 y.1.2) := by
        obtain ⟨a1, a2, a3⟩ := h1
        refine ⟨?_, ?_, ?_⟩
        · unfold updS
          split
          · rename_i c
            exact hv.1 c.symm
          · exact a1
        · unfold updS
          split
          · rename_i c
            exact hv.2.1 c.symm
          · exact a2
        · unfold updS
          split
          · rename_i c
            exact hv.2.2 c.symm
          · exact a3
      split at e
      · split at e
        · exact setP_rg2 m _ _ _ u x e
        · cases e
      · cases e
        exact u
/-- what a text of settings makes of the regions -/
def setR (rn : Bx → Int) (r : Sum Int (Int × (Int → Int))) (L : List Rg) (ct : Int → Int) (L' : List Rg) (ct' : Int → Int) : Prop := match r with
  | .inl _ => L' = L ∧ ct' = ct
  | .inr x => ∃ m, TMn rn x.2 m (L, ct) (L', ct')
def stN (st : Int → Int) (r : Sum Int (Int × (Int → Int))) : Int → Int := match r with
  | .inl _ => st
  | .inr x => x.2
theorem gL_setR {rn : Bx → Int} {r : Sum Int (Int × (Int → Int))} {L L' : List Rg} {ct ct' : Int → Int} (h : setR rn r L ct L' ct') (g : gL L) : gL L' := by
  cases r with
  | inl q =>
    rw [h.1]
    exact g
  | inr x =>
    obtain ⟨m, a⟩ := h
    exact (gL_TMn m a g).1
theorem setR.det {rn : Bx → Int} {r : Sum Int (Int × (Int → Int))} {L L1 L2 : List Rg} {ct c1 c2 : Int → Int} (h1 : setR rn r L ct L1 c1) (h2 : setR rn r L ct L2 c2) : L1 = L2 ∧ c1 = c2 := by
  cases r with
  | inl q => exact ⟨h1.1.trans h2.1.symm, h1.2.trans h2.2.symm⟩
  | inr x =>
    obtain ⟨m, a⟩ := h1
    obtain ⟨n, b⟩ := h2
    have h := TMn.det _ _ a b
    exact ⟨congrArg Prod.fst h, congrArg Prod.snd h⟩
theorem kR_settings {σ : zS} {I : Nat → Bool} {rn : Bx → Int} {L : List Rg} {ct : Int → Int} (H : CI σ) (hb : byC σ) (so : stO1 (σ 50)) (hL : L.length ≤ 12) (hk : ∀ r ∈ L, hOk r) (C : cSt σ 48 I rn (σ 50) L ct) : zP' (g_c_settings σ) (fun _ s => ∃ L' ct', setR rn (setP (cT σ) (σ 120 1) 161 0 0 (S7 (σ 50))) L ct L' ct' ∧ cSt s 48 I rn (stN (σ 50) (setP (cT σ) (σ 120 1) 161 0 0 (S7 (σ 50)))) L' ct') := by
  have ht := CI.ct H
  unfold g_c_settings
  rw [c_begin]
  rw [Option.bind_some]
  try dsimp +instances only
  rw [c_seCopy]
  rw [Option.bind_some]
  try dsimp +instances only
  have H1 : CI (zcp (zu (zu σ 120 2 0) 120 3 (-1)) (49 + 1) 0 (118 + 1) 0 7) := by
    have h1 := (zP'.of (g_ta_begin_sp H) _ _ c_begin).1
    exact (zP'.of (g_se_copyFrom_sp (a0 := 118) (a1 := 49) (by omega) (by omega) h1) _ _ c_seCopy).1
  generalize hs1 : zcp (zu (zu σ 120 2 0) 120 3 (-1)) (49 + 1) 0 (118 + 1) 0 7 = s1 at H1
  have q1 : ∀ a j, a ≠ 119 → (a ≠ 120 ∨ (j ≠ 2 ∧ j ≠ 3)) → s1 a j = σ a j := fun a j k1 k2 => by rw [← hs1, zcp_a k1, zu_c (by omega), zu_c (by omega)]
  have q2 : s1 120 2 = 0 := by rw [← hs1, zcp_a (by decide), zu_i (by decide), zu_e rfl]
  have q3 : s1 120 3 = -1 := by rw [← hs1, zcp_a (by decide), zu_e rfl]
  have q119 : ∀ j, 0 ≤ j → j < 7 → s1 119 j = σ 50 j := fun j j1 j2 => by
    rw [← hs1]
    refine (zcp_e ⟨j1, by omega⟩).trans ?_
    rw [zu_a (by decide), zu_a (by decide), show 0 + (j - 0) = j by omega]
  have qL : s1 120 1 = σ 120 1 := q1 120 1 (by decide) (Or.inr (by decide))
  have q121 : s1 121 = σ 121 := funext (fun j => q1 121 j (by decide) (Or.inl (by decide)))
  have t1 : tpL s1 := by
    unfold tpL
    rw [qL, q2, q121]
    exact ⟨ht, by omega, hb⟩
  have eT : cT s1 = cT σ := by
    funext j
    unfold cT
    rw [qL, q121]
  have C1 : cSt s1 48 I rn (σ 50) L ct := C.mv (fun c j k => q1 c j (by omega) (Or.inl (by omega)))
  have P : zP' (g_se_readParts s1) (sePo s1 (setP (cT s1) (s1 120 1) 161 (s1 120 2) 0 (S7 (σ 50)))) := c_parts zK 161 0 (S7 (σ 50)) s1 t1 q3 (by omega) (by omega) (by omega) (fun j j1 j2 => (q119 j j1 j2).trans (S7_in j1 j2).symm)
  rw [eT, qL, q2] at P
  refine zP'.bind (P.and (zP'.of (g_se_readParts_sp H1))) (fun v s2 p2 => ?_)
  obtain ⟨⟨f2, r2⟩, H2, -, -⟩ := p2
  have C2 : cSt s2 48 I rn (σ 50) L ct := C1.mv (fun c j k => f2 c j (Or.inl (by omega)) (by omega))
  try dsimp +instances only
  rw [p_isSound]
  rw [Option.bind_some]
  try dsimp +instances only
  unfold g_c_settings_L73
  cases e : setP (cT σ) (σ 120 1) 161 0 0 (S7 (σ 50)) with
  | inl q =>
    rw [e] at r2
    have r2 : s2 120 3 = q := r2
    have hq := setP_bd 161 0 0 (S7 (σ 50)) (by omega) q e
    have n3 : ¬ s2 120 3 = -1 := by omega
    rw [if_neg n3, if_pos rfl, c_end, if_neg n3]
    rw [Option.bind_some]
    exact zP'.ret ⟨L, ct, ⟨rfl, rfl⟩, C2.mv (fun c j k => zu_a (by omega))⟩
  | inr x =>
    rw [e] at r2
    obtain ⟨r1, r3, r4⟩ := r2
    obtain ⟨rg1, rg2⟩ := setP_rg 161 0 0 (S7 (σ 50)) (by rw [S7_in (by decide) (by decide)]; exact so.1) (by rw [S7_in (by decide) (by decide)]; exact so.2.1) x e
    rw [if_pos r3, if_neg (by decide), c_seCopy]
    rw [Option.bind_some]
    try dsimp +instances only
    have H3 : CI (zcp s2 (118 + 1) 0 (49 + 1) 0 7) := (zP'.of (g_se_copyFrom_sp (a0 := 49) (a1 := 118) (by omega) (by omega) H2) _ _ c_seCopy).1
    have C3 : cSt (zcp s2 (118 + 1) 0 (49 + 1) 0 7) 48 I rn x.2 L ct := by
      obtain ⟨h1, h2, h3, h4, h5, h6⟩ := C2
      refine ⟨cRs_mv h1 (fun c j k => zcp_a (by omega)), fun i i1 i2 => (zcp_a (by decide)).trans (h2 i i1 i2), fun i i1 i2 => ?_, STb_mv h4 (fun c j k1 k2 => zcp_a (by omega)), h5, fun b => ?_⟩
      · refine (zcp_e ⟨i1, by omega⟩).trans ?_
        rw [show 0 + (i - 0) = i by omega]
        exact r4 i i1 i2
      · rw [rnC_mv (fun c j k1 k2 => zcp_a (by omega))]
        exact h6 b
    generalize hs3 : zcp s2 (118 + 1) 0 (49 + 1) 0 7 = s3 at H3 C3
    refine zP'.bind ((k_trim (Or.inl rfl) (by omega) (by omega) C3 (by omega) hk).and (zP'.of (g_ca_trim_sp (a0 := 48) (by omega) H3))) (fun _ s4 p4 => ?_)
    obtain ⟨⟨m, L', ct', p1, p2, p3, p4, p5⟩, -, G4, -⟩ := p4
    have e3 : s4 120 3 = -1 := by
      rw [G4 120 3 (Or.inr rfl), ← hs3, zcp_a (by decide)]
      exact r3
    try dsimp +instances only
    rw [c_end, if_pos e3]
    rw [Option.bind_some]
    exact zP'.ret ⟨L', ct', ⟨m, p1⟩, p4.mv (fun c j k => zu_a (by omega))⟩
theorem t_set105R {σ0 : zS} {x : Int} {rn : Bx → Int} {st : Int → Int} {L : List Rg} {ct : Int → Int} {g : Int → Int} (h : mSt σ0 rn st L ct) (hL : L.length ≤ 12) (hk : ∀ r ∈ L, hOk r) (ha : asc L (ct 8)) (h1 : 1 ≤ g 1) (h2 : 1 ≤ g 2) (h5 : g 5 = 0 ∨ g 5 = 1) : ∀ (n k : Nat) (s : zS), k ≤ 7 → (∀ j, (0 ≤ j ∧ j < 11) ∨ 18 ≤ j → s 144 j = σ0 144 j) → (∀ j, s 147 j = σ0 147 j) → (∀ j, 0 ≤ j → j < 7 → s 160 j = g j) → (∀ j : Int, 0 ≤ j → j < (k : Int) → s 144 (11 + j) = g j) → zP' (g_m_settings_L105 n x (k : Int) s) (fun _ t => ∃ m L' ct', TMn rn g m (L, ct) (L', ct') ∧ asc L' (ct' 8) ∧ ct' 8 = ct 8 ∧ mSt t rn g L' ct')
  | 0, _, _, _, _, _, _, _ => zP'.no
  | n + 1, k, s, hk7, hf, hf7, hg, hv => by
    unfold g_m_settings_L105
    refine zP'.ite (fun c => ?_) (fun c => ?_)
    · have M : mSt s rn g L ct := ⟨h.1.mv (fun j k => hf j (by omega)) (fun j _ _ => hf7 j) (by omega), h.2.1.mv (fun j _ _ => hf j (by omega)) (hf7 0), fun i i1 i2 => hv i i1 (by omega), fun b => (rowsN_fr (fun j j1 j2 => hf j (by omega)) b).trans (h.2.2.2 b)⟩
      refine zP'.bind (t_trims (by omega) (by omega) h5 M (by omega) hk ha) (fun _ s' p => ?_)
      obtain ⟨m, L', ct', p1, p2, p3, p4, p5, p6⟩ := p
      exact zP'.ret ⟨m, L', ct', p1, p4, p5, p6⟩
    · rw [w32_id (x := 11 + (k : Int)) (by omega) (by omega), w32_id (x := (k : Int) + 1) (by omega) (by omega), show (k : Int) + 1 = ((k + 1 : Nat) : Int) by omega]
      refine zP'.gd (fun _ => zP'.gd (fun _ => ?_))
      try dsimp +instances only
      refine t_set105R h hL hk ha h1 h2 h5 n (k + 1) _ (by omega) (fun j hj => (zu_i (by omega)).trans (hf j hj)) (fun j => (zu_a (by decide)).trans (hf7 j)) (fun j j1 j2 => (zu_a (by decide)).trans (hg j j1 j2)) (fun j j1 j2 => ?_)
      by_cases c2 : j = (k : Int)
      · rw [zu_e (by omega), hg _ (by omega) (by omega), c2]
      · rw [zu_i (by omega)]
        exact hv j j1 (by omega)
theorem t_settingsR {σ : zS} {rn : Bx → Int} {st : Int → Int} {L : List Rg} {ct : Int → Int} (h : MI σ) (hb : tpR σ) (so : stO2 (fun j => σ 144 (11 + j))) (M : mSt σ rn st L ct) (hL : L.length ≤ 12) (hk : ∀ r ∈ L, hOk r) (ha : asc L (ct 8)) : zP' (g_m_settings σ) (fun _ s => ∃ L' ct', setR rn (setP (mT σ) (σ 143 20) 161 0 0 (S7 (fun j => σ 144 (11 + j)))) L ct L' ct' ∧ asc L' (ct' 8) ∧ ct' 8 = ct 8 ∧ mSt s rn (stN st (setP (mT σ) (σ 143 20) 161 0 0 (S7 (fun j => σ 144 (11 + j))))) L' ct') := by
  have hx := h.2.2.1.1
  obtain ⟨i1, i2, -⟩ := h.2.1
  unfold g_m_settings
  refine m_set2 (σ0 := σ) (fun s hf hv => ?_) zK 0 σ (by omega) (fun _ _ _ => rfl) (fun j j1 j2 => absurd j2 (by omega))
  unfold g_m_begins
  try dsimp only
  rw [Option.bind_some]
  try dsimp only
  generalize hs1 : zu (zu s 143 21 0) 143 22 (-1) = s1
  have q1 : ∀ a j, (a ≠ 143 ∨ (j ≠ 21 ∧ j ≠ 22)) → s1 a j = s a j := fun a j k => by rw [← hs1, zu_c (by omega), zu_c (by omega)]
  have e20 : s1 143 20 = σ 143 20 := (q1 143 20 (Or.inr (by decide))).trans (hf 143 20 (by decide))
  have e21 : s1 143 21 = 0 := by rw [← hs1, zu_i (by decide), zu_e rfl]
  have e22 : s1 143 22 = -1 := by rw [← hs1, zu_e rfl]
  have e159 : s1 159 = σ 159 := funext (fun j => (q1 159 j (Or.inl (by decide))).trans (hf 159 j (by decide)))
  have e144 : ∀ j, s1 144 j = σ 144 j := fun j => (q1 144 j (Or.inl (by decide))).trans (hf 144 j (by decide))
  have e147 : ∀ j, s1 147 j = σ 147 j := fun j => (q1 147 j (Or.inl (by decide))).trans (hf 147 j (by decide))
  have e160 : ∀ j : Int, 0 ≤ j → j < 7 → s1 160 j = S7 (fun j => σ 144 (11 + j)) j := fun j j1 j2 => by
    rw [q1 160 j (Or.inl (by decide)), hv j j1 j2, S7_in j1 j2]
  have eT : mT s1 = mT σ := by
    funext j
    unfold mT
    rw [e20, e159]
  have t1 : tpP s1 := by
    unfold tpP tpR
    rw [e20, e21, e159]
    exact ⟨hx, by omega, hb⟩
  refine m_parts (σ0 := s1) zK 161 0 (S7 (fun j => σ 144 (11 + j))) s1 t1 e22 (by omega) (by omega) (by omega) (frS.refl s1) e160 ?_
  rw [eT, e20, e21]
  intro r t f p k
  cases k with
  | zero => exact zP'.no
  | succ k =>
    unfold g_m_settings_L37
    rw [if_pos rfl]
    try dsimp +instances only
    have z22 : zu t 143 20 0 143 22 = t 143 22 := zu_i (by decide)
    rw [z22]
    have z144 : ∀ j, zu t 143 20 0 144 j = σ 144 j := fun j => by rw [zu_a (by decide), f 144 _ (by decide) (Or.inl (by decide)), e144]
    have z147 : ∀ j, zu t 143 20 0 147 j = σ 147 j := fun j => by rw [zu_a (by decide), f 147 _ (by decide) (Or.inl (by decide)), e147]
    have Mz : mSt (zu t 143 20 0) rn st L ct := M.mv (by omega) (fun j _ _ => z144 j) (fun j _ _ => z147 j)
    cases e : setP (mT σ) (σ 143 20) 161 0 0 (S7 (fun j => σ 144 (11 + j))) with
    | inl q =>
      rw [e] at p
      have p : t 143 22 = q := p
      have hq := setP_bd 161 0 0 (S7 (fun j => σ 144 (11 + j))) hx.1 q e
      rw [if_neg (by omega)]
      exact zP'.ret ⟨L, ct, ⟨rfl, rfl⟩, ha, rfl, Mz⟩
    | inr y =>
      rw [e] at p
      obtain ⟨p1, p2, p3⟩ := p
      have rg := setP_rg 161 0 0 (S7 (fun j => σ 144 (11 + j))) (by rw [S7_in (by decide) (by decide)]; exact i1) (by rw [S7_in (by decide) (by decide)]; exact i2) y e
      have rg2 := setP_rg2 161 0 0 (S7 (fun j => σ 144 (11 + j))) (by unfold stO2; rw [S7_in (by decide) (by decide), S7_in (by decide) (by decide), S7_in (by decide) (by decide)]; exact so) y e
      rw [if_pos (by omega)]
      refine (t_set105R Mz hL hk ha rg.1.1 rg.2.1 rg2.2.2 zK 0 (zu t 143 20 0) (by omega) (fun _ _ => rfl) (fun _ => rfl) (fun j j1 j2 => (zu_a (by decide)).trans (p3 j j1 j2)) (fun j j1 j2 => absurd j2 (by omega))).imp (fun v u w => ?_)
      obtain ⟨m, L', ct', w1, w2, w3, w4⟩ := w
      exact ⟨L', ct', ⟨m, w1⟩, w2, w3, w4⟩
theorem qr_settings {K : Int} {σ : zS} (I : InvR K σ) : two (g_c_settings σ) g_m_settings (fun v w s => InvR (K + 2400) s ∧ v = w) := by
  obtain ⟨v, s1, e1, w, s2, e2, J, q⟩ := qs_settings I.1
  refine ⟨v, s1, e1, w, s2, e2, ?_, q⟩
  obtain ⟨L, ct, C, M, hR, hk, A, B, hL⟩ := R_open I
  have so := R_st I
  obtain ⟨H1, G1, -⟩ := zO.at (g_c_settings_sp I.1.ci) e1
  have ref := fr_ref G1
  have M1 : MI s1 := MI_cls I.1.mi ref
  have F := f_settings5 M1 w s2 e2
  have cl : ∀ a j, a < 143 → s2 a j = s1 a j := fun a j h => F a j (Or.inl h)
  have ir : irE s1 s2 := fun a j k => F a j (by omega)
  have i1 := imE.of G1 (fun _ => ⟨rfl, rfl, rfl, rfl, rfl, rfl, rfl⟩)
  have Mm := M.mv (s := s1) (by omega) (fun j _ _ => ref 144 j (by decide) (by decide)) (fun j _ _ => ref 147 j (by decide) (by decide))
  have hL0 : σ 120 1 = σ 143 20 := I.1.1.1.1.2.2.1
  have e159 : s1 159 = σ 159 := funext (fun j => ref 159 j (by decide) (by decide))
  have e20 : s1 143 20 = σ 143 20 := ref 143 20 (by decide) (by decide)
  have e144 : ∀ j, s1 144 j = σ 144 j := fun j => ref 144 j (by decide) (by decide)
  have hTR : tpR s1 := by
    unfold tpR
    rw [e20, e159]
    exact I.1.1.2.m hL0
  have eT : mT s1 = cT σ := by
    rw [cT_mT hL0 I.1.1.2]
    unfold mT
    rw [e20, e159]
  have eS : S7 (fun j => s1 144 (11 + j)) = S7 (σ 50) := S7_ext (fun j j1 j2 => by
    rw [e144]
    exact (I.1.2.1 j j1 j2).symm)
  have so2 : stO2 (fun j => s1 144 (11 + j)) := by
    show (0 ≤ s1 144 (11 + 3) ∧ s1 144 (11 + 3) ≤ 2) ∧ (s1 144 (11 + 4) = 0 ∨ s1 144 (11 + 4) = 1) ∧ (s1 144 (11 + 5) = 0 ∨ s1 144 (11 + 5) = 1)
    rw [e144, e144, e144, ← I.1.2.1 3 (by decide) (by decide), ← I.1.2.1 4 (by decide) (by decide), ← I.1.2.1 5 (by decide) (by decide)]
    exact I.2.2.1
  obtain ⟨L1, c1, u1, u2⟩ := kR_settings I.1.ci I.1.1.2.c so hL hk C v s1 e1
  obtain ⟨L2, c2, v1, v2, v3, v4⟩ := t_settingsR M1 hTR so2 Mm hL hk A w s2 e2
  rw [eT, e20, eS, ← hL0] at v1 v4
  obtain ⟨rfl, rfl⟩ := u1.det v1
  have sb : stB s1 50 := by
    have g : stO2 (stN (σ 50) (setP (cT σ) (σ 120 1) 161 0 0 (S7 (σ 50)))) := by
      cases e : setP (cT σ) (σ 120 1) 161 0 0 (S7 (σ 50)) with
      | inl q => exact I.2.2.1
      | inr y => exact setP_rg2 161 0 0 (S7 (σ 50)) (by unfold stO2; rw [S7_in (by decide) (by decide), S7_in (by decide) (by decide), S7_in (by decide) (by decide)]; exact I.2.2.1) y e
    have e3 : s1 50 3 = stN (σ 50) (setP (cT σ) (σ 120 1) 161 0 0 (S7 (σ 50))) 3 := u2.2.2.1 3 (by decide) (by decide)
    have e4 : s1 50 4 = stN (σ 50) (setP (cT σ) (σ 120 1) 161 0 0 (S7 (σ 50))) 4 := u2.2.2.1 4 (by decide) (by decide)
    have e5 : s1 50 5 = stN (σ 50) (setP (cT σ) (σ 120 1) 161 0 0 (S7 (σ 50))) 5 := u2.2.2.1 5 (by decide) (by decide)
    unfold stB
    rw [e3, e4, e5]
    exact g
  exact R_closeP J I.2 (by omega) i1 (rK.cls G1).ir cl ir u2 v4 v2 (by omega) sb (gL_setR u1 (R_g I M.1))
