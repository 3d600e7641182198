/-! settings() of both sides -/
def setAns : Sum Int (Int × (Int → Int)) → Int
  | .inl q => -100 - q
  | .inr x => x.1
def setVal (g : Int → Int) : Sum Int (Int × (Int → Int)) → Int → Int
  | .inl _ => g
  | .inr x => x.2
theorem c_begin {σ : zS} : g_ta_begin σ = some ((), zu (zu σ 120 2 0) 120 3 (-1)) := rfl
theorem c_seCopy {a b : Nat} {σ : zS} : g_se_copyFrom a b σ = some ((), zcp σ (b + 1) 0 (a + 1) 0 7) := rfl
theorem p_isSound {σ : zS} : g_ta_isSound σ = some (if σ 120 3 = -1 then 1 else 0, σ) := by
  unfold g_ta_isSound
  try dsimp +instances only
  by_cases c : σ 120 3 = -1
  · rw [if_neg (fun h => h c), if_pos c]
  · rw [if_pos c, if_neg c]
theorem c_end {x : Int} {σ : zS} : g_ta_end x σ = some (if σ 120 3 = -1 then x else w32 (-100 - σ 120 3), zu σ 120 1 0) := by
  unfold g_ta_end
  try dsimp +instances only
  rw [p_isSound]
  rw [Option.bind_some]
  try dsimp +instances only
  rw [zu_i (by decide)]
  by_cases c : σ 120 3 = -1
  · rw [if_pos c, if_neg (by decide), if_pos c]
  · rw [if_neg c, if_pos rfl, if_neg c]
theorem zcp_e {σ : zS} {a b : Nat} {sp dp n j : Int} (h : dp ≤ j ∧ j < dp + n) : zcp σ a sp b dp n b j = σ a (sp + (j - dp)) := if_pos ⟨rfl, h⟩
/-- the tape of the class: bytes 1 to 127 -/
def byC (σ : zS) : Prop := ∀ j : Int, 0 ≤ j → j < σ 120 1 → 1 ≤ σ 121 j ∧ σ 121 j ≤ 127
def S7 (f : Int → Int) : Int → Int := fun j => if 0 ≤ j ∧ j < 7 then f j else 0
theorem S7_in {f : Int → Int} {j : Int} (h1 : 0 ≤ j) (h2 : j < 7) : S7 f j = f j := if_pos ⟨h1, h2⟩
theorem S7_ext {f g : Int → Int} (h : ∀ j, 0 ≤ j → j < 7 → f j = g j) : S7 f = S7 g := by
  funext j
  unfold S7
  by_cases c : 0 ≤ j ∧ j < 7
  · rw [if_pos c, if_pos c]
    exact h j c.1 c.2
  · rw [if_neg c, if_neg c]
theorem c_settings {σ : zS} (H : CI σ) (hb : byC σ) : zP' (g_c_settings σ) (fun v s => v = setAns (setP (cT σ) (σ 120 1) 161 0 0 (S7 (σ 50))) ∧ ∀ j, 0 ≤ j → j < 7 → s 50 j = setVal (S7 (σ 50)) (setP (cT σ) (σ 120 1) 161 0 0 (S7 (σ 50))) j) := by
  have ht := CI.ct H
  unfold g_c_settings
  rw [c_begin]
  rw [Option.bind_some]
  try dsimp +instances only
  rw [c_seCopy]
  rw [Option.bind_some]
  try dsimp +instances only
  have H1 : CI (zcp (zu (zu σ 120 2 0) 120 3 (-1)) (49 + 1) 0 (118 + 1) 0 7) := by
    have h1 := (zP'.of (g_ta_begin_sp H) _ _ c_begin).1
    exact (zP'.of (g_se_copyFrom_sp (a0 := 118) (a1 := 49) (by omega) (by omega) h1) _ _ c_seCopy).1
  generalize hs1 : zcp (zu (zu σ 120 2 0) 120 3 (-1)) (49 + 1) 0 (118 + 1) 0 7 = s1 at H1
  have q1 : ∀ a j, a ≠ 119 → (a ≠ 120 ∨ (j ≠ 2 ∧ j ≠ 3)) → s1 a j = σ a j := fun a j k1 k2 => by rw [← hs1, zcp_a k1, zu_c (by omega), zu_c (by omega)]
  have q2 : s1 120 2 = 0 := by rw [← hs1, zcp_a (by decide), zu_i (by decide), zu_e rfl]
  have q3 : s1 120 3 = -1 := by rw [← hs1, zcp_a (by decide), zu_e rfl]
  have q119 : ∀ j, 0 ≤ j → j < 7 → s1 119 j = σ 50 j := fun j j1 j2 => by
    rw [← hs1]
    refine (zcp_e ⟨j1, by omega⟩).trans ?_
    rw [zu_a (by decide), zu_a (by decide), show 0 + (j - 0) = j by omega]
  have qL : s1 120 1 = σ 120 1 := q1 120 1 (by decide) (Or.inr (by decide))
  have q121 : s1 121 = σ 121 := funext (fun j => q1 121 j (by decide) (Or.inl (by decide)))
  have t1 : tpL s1 := by
    unfold tpL
    rw [qL, q2, q121]
    exact ⟨ht, by omega, hb⟩
  have eT : cT s1 = cT σ := by
    funext j
    unfold cT
    rw [qL, q121]
  have q50 : ∀ j, s1 50 j = σ 50 j := fun j => q1 50 j (by decide) (Or.inl (by decide))
  have P : zP' (g_se_readParts s1) (sePo s1 (setP (cT s1) (s1 120 1) 161 (s1 120 2) 0 (S7 (σ 50)))) := c_parts zK 161 0 (S7 (σ 50)) s1 t1 q3 (by omega) (by omega) (by omega) (fun j j1 j2 => (q119 j j1 j2).trans (S7_in j1 j2).symm)
  rw [eT, qL, q2] at P
  refine zP'.bind (P.and (zP'.of (g_se_readParts_sp H1))) (fun v s2 p2 => ?_)
  obtain ⟨⟨f2, r2⟩, H2, -, -⟩ := p2
  try dsimp +instances only
  rw [p_isSound]
  rw [Option.bind_some]
  try dsimp +instances only
  unfold g_c_settings_L73
  cases e : setP (cT σ) (σ 120 1) 161 0 0 (S7 (σ 50)) with
  | inl q =>
    rw [e] at r2
    have r2 : s2 120 3 = q := r2
    have hq := setP_bd 161 0 0 (S7 (σ 50)) (by omega) q e
    have n3 : ¬ s2 120 3 = -1 := by omega
    rw [if_neg n3, if_pos rfl, c_end, if_neg n3, r2, w32_id (x := -100 - q) (by omega) (by omega)]
    rw [Option.bind_some]
    refine zP'.ret ⟨rfl, fun j j1 j2 => ?_⟩
    show zu s2 120 1 0 50 j = S7 (σ 50) j
    rw [zu_a (by decide), f2 50 j (Or.inl (by decide)) (by decide), q50, S7_in j1 j2]
  | inr x =>
    rw [e] at r2
    obtain ⟨r1, r3, r4⟩ := r2
    rw [if_pos r3, if_neg (by decide), c_seCopy]
    rw [Option.bind_some]
    try dsimp +instances only
    have H3 : CI (zcp s2 (118 + 1) 0 (49 + 1) 0 7) := (zP'.of (g_se_copyFrom_sp (a0 := 49) (a1 := 118) (by omega) (by omega) H2) _ _ c_seCopy).1
    generalize hs3 : zcp s2 (118 + 1) 0 (49 + 1) 0 7 = s3 at H3
    refine zP'.bind (zP'.of (g_ca_trim_sp (a0 := 48) (by omega) H3)) (fun _ s4 p4 => ?_)
    obtain ⟨-, G4, -⟩ := p4
    have e3 : s4 120 3 = -1 := by
      rw [G4 120 3 (Or.inr rfl), ← hs3, zcp_a (by decide)]
      exact r3
    try dsimp +instances only
    rw [c_end, if_pos e3]
    rw [Option.bind_some]
    refine zP'.ret ⟨r1, fun j j1 j2 => ?_⟩
    show zu s4 120 1 0 50 j = x.2 j
    rw [zu_a (by decide), G4 50 j (Or.inr rfl), ← hs3]
    refine (zcp_e ⟨j1, by omega⟩).trans ?_
    rw [show 0 + (j - 0) = j by omega]
    exact r4 j j1 j2
/-! the reference -/
theorem setP_rg {f : Int → Int} {L : Int} : ∀ (m : Nat) (p n : Int) (g : Int → Int), (1 ≤ g 1 ∧ g 1 ≤ 99) → (1 ≤ g 2 ∧ g 2 ≤ 12) → ∀ x, setP f L m p n g = .inr x → (1 ≤ x.2 1 ∧ x.2 1 ≤ 99) ∧ (1 ≤ x.2 2 ∧ x.2 2 ≤ 12)
  | 0, _, _, _, _, _, _, e => by cases e
  | m + 1, p, n, g, h1, h2, x, e => by
    rw [setP_1] at e
    cases e1 : set1 f L p with
    | inl q =>
      rw [e1] at e
      cases e
    | inr y =>
      rw [e1] at e
      dsimp only at e
      have hv : (y.1.1 = 1 → 1 ≤ y.1.2 ∧ y.1.2 ≤ 99) ∧ (y.1.1 = 2 → 1 ≤ y.1.2 ∧ y.1.2 ≤ 12) := by
        unfold set1 at e1
        cases k1 : wrdR 1 39 f L p with
        | inl q =>
          rw [k1] at e1
          cases e1
        | inr a =>
          rw [k1] at e1
          dsimp only at e1
          cases k2 : sgnR 32 f L a.2 with
          | inl q =>
            rw [k2] at e1
            cases e1
          | inr b =>
            rw [k2] at e1
            dsimp only at e1
            cases k3 : setV a.1 f L b.2 with
            | inl q =>
              rw [k3] at e1
              dsimp only [set1v] at e1
              cases e1
            | inr z =>
              rw [k3] at e1
              dsimp only [set1v] at e1
              cases e1
              dsimp only
              unfold setV at k3
              refine ⟨fun c => ?_, fun c => ?_⟩
              · rw [if_neg (by omega), if_pos c] at k3
                have k := numR_ok (v := z.1) (p' := z.2) k3
                exact ⟨k.1, k.2.1⟩
              · rw [if_neg (by omega), if_neg (by omega), if_pos c] at k3
                have k := numR_ok (v := z.1) (p' := z.2) k3
                exact ⟨k.1, k.2.1⟩
      have u1 : 1 ≤ updS g y.1.1 y.1.2 1 ∧ updS g y.1.1 y.1.2 1 ≤ 99 := by
        unfold updS
        split
        · rename_i c
          exact hv.1 c.symm
        · exact h1
      have u2 : 1 ≤ updS g y.1.1 y.1.2 2 ∧ updS g y.1.1 y.1.2 2 ≤ 12 := by
        unfold updS
        split
        · rename_i c
          exact hv.2 c.symm
        · exact h2
      split at e
      · split at e
        · exact setP_rg m _ _ _ u1 u2 x e
        · cases e
      · cases e
        exact ⟨u1, u2⟩
/-- the told values become those of the reference -/
theorem m_set105 {σ0 : zS} {x : Int} (h : MI σ0) {g : Int → Int} (h1 : 1 ≤ g 1) (h2 : 1 ≤ g 2) : ∀ (n k : Nat) (s : zS), k ≤ 7 → (∀ j, j = 0 ∨ 340 ≤ j → s 144 j = σ0 144 j) → (∀ j, 0 ≤ j → j < 7 → s 160 j = g j) → (∀ j : Int, 0 ≤ j → j < (k : Int) → s 144 (11 + j) = g j) → zP' (g_m_settings_L105 n x (k : Int) s) (fun v t => v = x ∧ ∀ j : Int, 0 ≤ j → j < 7 → t 144 (11 + j) = g j)
  | 0, _, _, _, _, _, _ => zP'.no
  | n + 1, k, s, hk, hf, hg, hv => by
    unfold g_m_settings_L105
    refine zP'.ite (fun c => ?_) (fun c => ?_)
    · have hN : NI s := NI_fr h.1 (fun j hj => hf j (by omega))
      obtain ⟨N, n1, n2, n3⟩ := hN
      have e12 : s 144 12 = g 1 := hv 1 (by omega) (by omega)
      have e13 : s 144 13 = g 2 := hv 2 (by omega) (by omega)
      obtain ⟨s', N', e1, e2, e3, e4, e5, e6⟩ := s_trims n3 n2 (by omega) (by omega) (by omega)
      rw [e1]
      rw [Option.bind_some]
      refine zP'.ret ⟨rfl, fun j j1 j2 => ?_⟩
      show s' 144 (11 + j) = g j
      rw [e5 144 _ (Or.inr (by omega)) (Or.inl (by decide))]
      exact hv j j1 (by omega)
    · rw [w32_id (x := 11 + (k : Int)) (by omega) (by omega), w32_id (x := (k : Int) + 1) (by omega) (by omega), show (k : Int) + 1 = ((k + 1 : Nat) : Int) by omega]
      refine zP'.gd (fun _ => zP'.gd (fun _ => ?_))
      try dsimp +instances only
      refine m_set105 h h1 h2 n (k + 1) _ (by omega) (fun j hj => (zu_i (by omega)).trans (hf j hj)) (fun j j1 j2 => (zu_a (by decide)).trans (hg j j1 j2)) (fun j j1 j2 => ?_)
      by_cases c2 : j = (k : Int)
      · rw [zu_e (by omega), hg _ (by omega) (by omega), c2]
      · rw [zu_i (by omega)]
        exact hv j j1 (by omega)
theorem m_set2 {σ0 : zS} {Q : Int → zS → Prop} (hQ : ∀ s, (∀ a j, a ≠ 160 → s a j = σ0 a j) → (∀ j : Int, 0 ≤ j → j < 7 → s 160 j = σ0 144 (11 + j)) → zP' ((g_m_begins s).bind fun o_30 => g_m_settings_L37 zK 0 1 o_30.2) Q) : ∀ (n k : Nat) (s : zS), k ≤ 7 → (∀ a j, a ≠ 160 → s a j = σ0 a j) → (∀ j : Int, 0 ≤ j → j < (k : Int) → s 160 j = σ0 144 (11 + j)) → zP' (g_m_settings_L2 n (k : Int) s) Q
  | 0, _, _, _, _, _ => zP'.no
  | n + 1, k, s, hk, hf, hv => by
    unfold g_m_settings_L2
    refine zP'.ite (fun c => hQ s hf (fun j j1 j2 => hv j j1 (by omega))) (fun c => ?_)
    rw [w32_id (x := 11 + (k : Int)) (by omega) (by omega), w32_id (x := (k : Int) + 1) (by omega) (by omega), show (k : Int) + 1 = ((k + 1 : Nat) : Int) by omega]
    refine zP'.gd (fun _ => zP'.gd (fun _ => ?_))
    try dsimp +instances only
    refine m_set2 hQ n (k + 1) _ (by omega) (fun a j k1 => (zu_a k1).trans (hf a j k1)) (fun j j1 j2 => ?_)
    by_cases c2 : j = (k : Int)
    · rw [zu_e c2, c2]
      exact hf 144 _ (by decide)
    · rw [zu_i c2]
      exact hv j j1 (by omega)
theorem m_settings3 {σ : zS} (h : MI σ) (hb : tpR σ) : zP' (g_m_settings σ) (fun v s => v = setAns (setP (mT σ) (σ 143 20) 161 0 0 (S7 (fun j => σ 144 (11 + j)))) ∧ ∀ j : Int, 0 ≤ j → j < 7 → s 144 (11 + j) = setVal (S7 (fun j => σ 144 (11 + j))) (setP (mT σ) (σ 143 20) 161 0 0 (S7 (fun j => σ 144 (11 + j)))) j) := by
  have hx := h.2.2.1.1
  obtain ⟨i1, i2, -⟩ := h.2.1
  unfold g_m_settings
  refine m_set2 (σ0 := σ) (fun s hf hv => ?_) zK 0 σ (by omega) (fun _ _ _ => rfl) (fun j j1 j2 => absurd j2 (by omega))
  unfold g_m_begins
  try dsimp only
  rw [Option.bind_some]
  try dsimp only
  generalize hs1 : zu (zu s 143 21 0) 143 22 (-1) = s1
  have q1 : ∀ a j, (a ≠ 143 ∨ (j ≠ 21 ∧ j ≠ 22)) → s1 a j = s a j := fun a j k => by rw [← hs1, zu_c (by omega), zu_c (by omega)]
  have e20 : s1 143 20 = σ 143 20 := (q1 143 20 (Or.inr (by decide))).trans (hf 143 20 (by decide))
  have e21 : s1 143 21 = 0 := by rw [← hs1, zu_i (by decide), zu_e rfl]
  have e22 : s1 143 22 = -1 := by rw [← hs1, zu_e rfl]
  have e159 : s1 159 = σ 159 := funext (fun j => (q1 159 j (Or.inl (by decide))).trans (hf 159 j (by decide)))
  have e144 : ∀ j, s1 144 j = σ 144 j := fun j => (q1 144 j (Or.inl (by decide))).trans (hf 144 j (by decide))
  have e160 : ∀ j : Int, 0 ≤ j → j < 7 → s1 160 j = S7 (fun j => σ 144 (11 + j)) j := fun j j1 j2 => by
    rw [q1 160 j (Or.inl (by decide)), hv j j1 j2, S7_in j1 j2]
  have eT : mT s1 = mT σ := by
    funext j
    unfold mT
    rw [e20, e159]
  have t1 : tpP s1 := by
    unfold tpP tpR
    rw [e20, e21, e159]
    exact ⟨hx, by omega, hb⟩
  refine m_parts (σ0 := s1) zK 161 0 (S7 (fun j => σ 144 (11 + j))) s1 t1 e22 (by omega) (by omega) (by omega) (frS.refl s1) e160 ?_
  rw [eT, e20, e21]
  intro r t f p k
  cases k with
  | zero => exact zP'.no
  | succ k =>
    unfold g_m_settings_L37
    rw [if_pos rfl]
    try dsimp +instances only
    have z22 : zu t 143 20 0 143 22 = t 143 22 := zu_i (by decide)
    rw [z22]
    cases e : setP (mT σ) (σ 143 20) 161 0 0 (S7 (fun j => σ 144 (11 + j))) with
    | inl q =>
      rw [e] at p
      have p : t 143 22 = q := p
      have hq := setP_bd 161 0 0 (S7 (fun j => σ 144 (11 + j))) hx.1 q e
      rw [if_neg (by omega), p, w32_id (x := -100 - q) (by omega) (by omega)]
      refine zP'.ret ⟨rfl, fun j j1 j2 => ?_⟩
      show zu t 143 20 0 144 (11 + j) = S7 (fun j => σ 144 (11 + j)) j
      rw [zu_a (by decide), f 144 _ (by decide) (Or.inl (by decide)), e144, S7_in j1 j2]
    | inr y =>
      rw [e] at p
      obtain ⟨p1, p2, p3⟩ := p
      have rg := setP_rg 161 0 0 (S7 (fun j => σ 144 (11 + j))) (by rw [S7_in (by decide) (by decide)]; exact i1) (by rw [S7_in (by decide) (by decide)]; exact i2) y e
      rw [if_pos (by omega)]
      refine (m_set105 h rg.1.1 rg.2.1 zK 0 (zu t 143 20 0) (by omega) (fun j hj => ?_) (fun j j1 j2 => (zu_a (by decide)).trans (p3 j j1 j2)) (fun j j1 j2 => absurd j2 (by omega))).imp (fun v u w => ⟨w.1.trans p1, w.2⟩)
      rw [zu_a (by decide), f 144 _ (by decide) (Or.inl (by decide)), e144]
