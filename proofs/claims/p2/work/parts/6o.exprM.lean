/-! E OF THE REFERENCE: its signs read -/
def mxPo (σ : zS) (r : zEx) (b : Int) (s : zS) : Prop := fr3 σ s ∧ match r with
  | .inl q => b = 0 ∧ s 143 22 = q
  | .inr x => b = 1 ∧ s 143 21 = x.2 ∧ s 143 22 = σ 143 22
theorem hereC_mT {σ : zS} (h : tpP σ) : hereC σ = if σ 143 21 < σ 143 20 then mT σ (σ 143 21) else -1 := by
  unfold hereC
  by_cases c : σ 143 21 < σ 143 20
  · rw [if_pos c, if_neg (by omega)]
    exact mT_e h.2.1.1 _ (Int.le_refl _) c
  · rw [if_neg c, if_pos (by omega)]
theorem hereC_is {σ : zS} (h : tpP σ) {x : Int} (hx : 1 ≤ x) : hereC σ = x ↔ σ 143 21 < σ 143 20 ∧ mT σ (σ 143 21) = x := by
  rw [hereC_mT h]
  by_cases c : σ 143 21 < σ 143 20
  · rw [if_pos c]
    exact ⟨fun e => ⟨c, e⟩, fun e => e.2⟩
  · rw [if_neg c]
    exact ⟨fun e => by omega, fun e => absurd e.1 c⟩
theorem mk_st {σ : zS} (h : tpP σ) (hp : σ 143 21 < σ 143 20) : w32 (σ 143 21 + 1) = σ 143 21 + 1 ∧ fr3 σ (zu σ 143 21 (σ 143 21 + 1)) ∧ tpP (zu σ 143 21 (σ 143 21 + 1)) ∧ zu σ 143 21 (σ 143 21 + 1) 143 22 = σ 143 22 ∧ zu σ 143 21 (σ 143 21 + 1) 143 21 = σ 143 21 + 1 ∧ mT (zu σ 143 21 (σ 143 21 + 1)) = mT σ ∧ zu σ 143 21 (σ 143 21 + 1) 143 20 = σ 143 20 := by
  have f : fr3 σ (zu σ 143 21 (σ 143 21 + 1)) := fr3.u (Or.inl rfl)
  have e2 : zu σ 143 21 (σ 143 21 + 1) 143 21 = σ 143 21 + 1 := zu_e rfl
  have h1 := h.1
  have h2 := h.2.1
  exact ⟨w32_id (by omega) (by omega), f, h.mv (f 143 20 (Or.inr (by decide))) (funext (fun j => f 159 j (Or.inl (by decide)))) (by rw [e2]; omega), zu_i (by decide), e2, mT_f f, f 143 20 (Or.inr (by decide))⟩
theorem m_fail {σ : zS} {x : Int} (hs : σ 143 22 < 0) : g_m_fails x σ = some (0, zu σ 143 22 x) := by
  unfold g_m_fails
  try dsimp only
  rw [if_neg (by omega)]
theorem b01 {Q : Int → zS → Prop} {b : Int} {s : zS} (h : Q b s) : zP' (if b = 0 ∨ b = 1 then some (b, s) else none) Q := zP'.gd (fun _ => zP'.ret h)
def tsQ (σ : zS) (b : Int) (s : zS) : Sum Int ((Int × Int × Int) × Int) → Prop
  | .inl q => b = 0 ∧ s 143 22 = q
  | .inr x => b = 1 ∧ s 143 21 = x.2 ∧ s 143 22 = σ 143 22
def mtPo (σ : zS) (r : Sum Int ((Int × Int × Int) × Int)) (b : Int) (s : zS) : Prop := fr3 σ s ∧ tsQ σ b s r
theorem mtPo.tr {σ s : zS} {r : Sum Int ((Int × Int × Int) × Int)} {b : Int} {t : zS} (f : fr3 σ s) (e : s 143 22 = σ 143 22) (h : mtPo s r b t) : mtPo σ r b t := by
  obtain ⟨h1, h2⟩ := h
  refine ⟨f.trans h1, ?_⟩
  cases r with
  | inl q => exact h2
  | inr x =>
    obtain ⟨a1, a2, a3⟩ := h2
    exact ⟨a1, a2, a3.trans e⟩
theorem m_tst109 {σ : zS} {y : Int} {l c : Int} (h : tpP σ) (hs : σ 143 22 < 0) (hn : σ 143 21 = (if negB (mT σ) (σ 143 20) y = true then y + 1 else y)) : zP' (g_m_isTest_L109 σ) (mtPo σ (tstV l c (negB (mT σ) (σ 143 20) y) (tstN (mT σ) (σ 143 20) y))) := by
  have N := m_num (w := 9) (lo := 0) (hi := 999999999) h hs (by decide)
  rw [hn] at N
  unfold g_m_isTest_L109
  refine zP'.bind N (fun b s p => ?_)
  obtain ⟨p1, -⟩ := p
  have p1 : mPo σ (tstN (mT σ) (σ 143 20) y) b s := p1
  try dsimp +instances only
  refine b01 ?_
  cases e : tstN (mT σ) (σ 143 20) y with
  | inl q =>
    obtain ⟨f1, f2, f3⟩ := p1.no e
    exact ⟨f1, f2, f3⟩
  | inr z =>
    obtain ⟨f1, f2, f3, f4⟩ := p1.ok e
    exact ⟨f1, f2, f3, f4⟩
theorem m_tst80 {σ : zS} {l c : Int} (h : tpP σ) (hs : σ 143 22 < 0) (hp : σ 143 21 < σ 143 20) : zP' (g_m_isTest_L80 σ) (mtPo σ (tstV l c (negB (mT σ) (σ 143 20) (σ 143 21 + 1)) (tstN (mT σ) (σ 143 20) (σ 143 21 + 1)))) := by
  obtain ⟨ew, f, t, s22, s21, sT, s20⟩ := mk_st h hp
  unfold g_m_isTest_L80
  try dsimp +instances only
  rw [ew]
  generalize zu σ 143 21 (σ 143 21 + 1) = s1 at f t s22 s21 sT s20
  rw [s_here t.i]
  rw [Option.bind_some]
  try dsimp +instances only
  have eH : hereC s1 = 45 ↔ negB (mT σ) (σ 143 20) (σ 143 21 + 1) = true := by
    rw [hereC_is t (by decide), sT, s20, s21]
    unfold negB
    rw [decide_eq_true_iff]
  by_cases c45 : hereC s1 = 45
  · have hn := eH.mp c45
    have hp1 := (negB_t hn).1
    rw [if_neg (fun k => k c45)]
    obtain ⟨ew2, f2, t2, u22, u21, uT, u20⟩ := mk_st t (by omega)
    rw [ew2]
    generalize zu s1 143 21 (s1 143 21 + 1) = s2 at f2 t2 u22 u21 uT u20
    have R := m_tst109 (y := σ 143 21 + 1) (l := l) (c := c) t2 (by omega) (by rw [uT, u20, sT, s20, hn, if_pos rfl, u21, s21])
    rw [uT, u20, sT, s20] at R
    exact R.imp (fun b s p => p.tr (f.trans f2) (u22.trans s22))
  · have hn : negB (mT σ) (σ 143 20) (σ 143 21 + 1) = false := Bool.eq_false_iff.mpr (fun e => c45 (eH.mpr e))
    rw [if_pos c45]
    have R := m_tst109 (y := σ 143 21 + 1) (l := l) (c := c) t (by omega) (by rw [sT, s20, hn, s21]; rfl)
    rw [sT, s20] at R
    exact R.imp (fun b s p => p.tr f s22)
theorem m_tst38 {σ : zS} {l : Int} (h : tpP σ) (hs : σ 143 22 < 0) (hp : σ 143 21 < σ 143 20) : zP' (g_m_isTest_L38 σ) (mtPo σ (tstC l (mT σ) (σ 143 20) (σ 143 21 + 1))) := by
  obtain ⟨ew, f, t, s22, s21, sT, s20⟩ := mk_st h hp
  unfold g_m_isTest_L38 tstC
  try dsimp +instances only
  rw [ew]
  generalize zu σ 143 21 (σ 143 21 + 1) = s1 at f t s22 s21 sT s20
  rw [s_here t.i]
  rw [Option.bind_some]
  try dsimp +instances only
  cases e : cmpR (mT σ) (σ 143 20) (σ 143 21 + 1) with
  | inl q =>
    obtain ⟨k1, k2⟩ := cmpR_no e
    have no : ∀ x, 1 ≤ x → (x = 60 ∨ x = 61 ∨ x = 62) → ¬ hereC s1 = x := fun x hx hx2 hh => by
      obtain ⟨a1, a2⟩ := (hereC_is t hx).mp hh
      rw [s20, s21] at a1
      rw [sT, s21] at a2
      have := k2 a1
      omega
    rw [if_neg (no 60 (by decide) (by decide)), if_neg (no 61 (by decide) (by decide)), if_neg (no 62 (by decide) (by decide)), m_fail (by omega)]
    rw [Option.bind_some]
    try dsimp +instances only
    rw [if_pos (Or.inl rfl)]
    exact zP'.ret ⟨f.trans (fr3.u (by omega)), rfl, by (try dsimp only); rw [zu_e rfl, s21, k1]⟩
  | inr y =>
    obtain ⟨k1, k2, k3⟩ := cmpR_ok (v := y.1) (p' := y.2) e
    have R := m_tst80 (l := l) (c := y.1) t (by omega) (by omega)
    rw [sT, s20, s21, ← k2] at R
    have R := R.imp (fun b s p => p.tr f s22)
    have is : ∀ x, 1 ≤ x → mT σ (σ 143 21 + 1) = x → hereC s1 = x := fun x hx hx2 => (hereC_is t hx).mpr ⟨by omega, by rw [sT, s21]; exact hx2⟩
    try dsimp only
    rcases k3 with ⟨-, k3⟩ | ⟨-, k3⟩ | ⟨-, k3⟩
    · rw [if_pos (is 60 (by decide) k3)]
      exact R
    · have e61 := is 61 (by decide) k3
      rw [if_neg (by omega), if_pos e61]
      exact R
    · have e62 := is 62 (by decide) k3
      rw [if_neg (by omega), if_neg (by omega), if_pos e62]
      exact R
theorem m_test {σ : zS} (h : tpP σ) (hs : σ 143 22 < 0) : zP' (g_m_isTest σ) (mtPo σ (tstP (mT σ) (σ 143 20) (σ 143 21))) := by
  unfold g_m_isTest tstP
  rw [s_here h.i]
  rw [Option.bind_some]
  try dsimp +instances only
  cases e : ltrR (mT σ) (σ 143 20) (σ 143 21) with
  | inl q =>
    obtain ⟨k1, k2⟩ := ltrR_no e
    have no : ∀ x, 1 ≤ x → (x = 119 ∨ x = 120 ∨ x = 121 ∨ x = 114) → ¬ hereC σ = x := fun x hx hx2 hh => by
      obtain ⟨a1, a2⟩ := (hereC_is h hx).mp hh
      have := k2 a1
      omega
    rw [if_neg (no 119 (by decide) (by decide)), if_neg (no 120 (by decide) (by decide)), if_neg (no 121 (by decide) (by decide)), if_neg (no 114 (by decide) (by decide)), m_fail hs]
    rw [Option.bind_some]
    try dsimp +instances only
    rw [if_pos (Or.inl rfl)]
    exact zP'.ret ⟨fr3.u (by omega), rfl, by (try dsimp only); rw [zu_e rfl, k1]⟩
  | inr y =>
    obtain ⟨k1, k2, k3⟩ := ltrR_ok (v := y.1) (p' := y.2) e
    have R := m_tst38 (l := y.1) h hs k1
    rw [← k2] at R
    have is : ∀ x, 1 ≤ x → mT σ (σ 143 21) = x → hereC σ = x := fun x hx hx2 => (hereC_is h hx).mpr ⟨k1, hx2⟩
    try dsimp only
    rcases k3 with ⟨-, k3⟩ | ⟨-, k3⟩ | ⟨-, k3⟩ | ⟨-, k3⟩
    · rw [if_pos (is 119 (by decide) k3)]
      exact R
    · have e1 := is 120 (by decide) k3
      rw [if_neg (by omega), if_pos e1]
      exact R
    · have e1 := is 121 (by decide) k3
      rw [if_neg (by omega), if_neg (by omega), if_pos e1]
      exact R
    · have e1 := is 114 (by decide) k3
      rw [if_neg (by omega), if_neg (by omega), if_neg (by omega), if_pos e1]
      exact R
/-! the whole of E -/
theorem mxPo.tr {σ s : zS} {r : zEx} {b : Int} {t : zS} (f : fr3 σ s) (e : s 143 22 = σ 143 22) (h : mxPo s r b t) : mxPo σ r b t := by
  obtain ⟨h1, h2⟩ := h
  refine ⟨f.trans h1, ?_⟩
  cases r with
  | inl q => exact h2
  | inr x =>
    obtain ⟨a1, a2, a3⟩ := h2
    exact ⟨a1, a2, a3.trans e⟩
theorem tpP.f {σ s : zS} (h : tpP σ) (f : fr3 σ s) (h2 : 0 ≤ s 143 21 ∧ s 143 21 ≤ σ 143 20) : tpP s := h.mv (f 143 20 (Or.inr (by decide))) (funext (fun j => f 159 j (Or.inl (by decide)))) h2
theorem m_seq {σ : zS} {x : Option (Int × zS)} {g : Int × zS → Option (Int × zS)} {r : zEx} {k : Int → (Int → Bool) → zEx} (h : tpP σ) (hx : zP' x (mxPo σ r)) (b1 : ∀ y, r = .inr y → σ 143 21 ≤ y.2 ∧ y.2 ≤ σ 143 20) (h0 : ∀ s, zP' (g (0, s)) (fun b t => b = 0 ∧ t = s)) (hk : ∀ s y, r = .inr y → fr3 σ s → tpP s → s 143 22 = σ 143 22 → s 143 21 = y.2 → zP' (g (1, s)) (mxPo s (k y.2 y.1))) : zP' (x.bind g) (mxPo σ (exSeq k r)) := by
  refine zP'.bind hx (fun b s p => ?_)
  obtain ⟨f, p⟩ := p
  cases e : r with
  | inl q =>
    rw [e] at p
    obtain ⟨rfl, p2⟩ := p
    exact (h0 s).imp (fun v t kk => by
      obtain ⟨k1, k2⟩ := kk
      rw [k2]
      exact ⟨f, k1, p2⟩)
  | inr y =>
    rw [e] at p
    obtain ⟨rfl, p2, p3⟩ := p
    have b := b1 y e
    have h2 := h.2.1
    exact (hk s y e f (h.f f (by omega)) p3 p2).imp (fun v t kk => kk.tr f p3)
theorem m_eloop0 {rec : Nat → Int → zS → Option (Int × zS)} {d : Int} {s : zS} : ∀ n, zP' (g_m_isEither_L6 rec n d 0 s) (fun b t => b = 0 ∧ t = s)
  | 0 => zP'.no
  | n + 1 => by
    unfold g_m_isEither_L6
    rw [if_pos rfl, if_pos (Or.inl rfl)]
    exact zP'.ret ⟨rfl, rfl⟩
theorem m_bloop0 {rec : Nat → Int → zS → Option (Int × zS)} {d : Int} {s : zS} : ∀ n, zP' (g_m_isBoth_L6 rec n d 0 s) (fun b t => b = 0 ∧ t = s)
  | 0 => zP'.no
  | n + 1 => by
    unfold g_m_isBoth_L6
    rw [if_pos rfl, if_pos (Or.inl rfl)]
    exact zP'.ret ⟨rfl, rfl⟩
def m_all (ev : Int → Int → Int) (m : Nat) : Prop :=
  (∀ (n : Nat) (d : Int) (T : Int → Bool) (σ : zS), tpP σ → σ 143 22 < 0 → 0 ≤ d → d ≤ 4 → 4 * (σ 143 20 - σ 143 21) + 3 ≤ (m : Int) → zP' (g_grp225 n 227 d σ) (mxPo σ (eP ev (mT σ) (σ 143 20) m 0 d (σ 143 21) T))) ∧
  (∀ (n : Nat) (d : Int) (T : Int → Bool) (σ : zS), tpP σ → σ 143 22 < 0 → 0 ≤ d → d ≤ 4 → 4 * (σ 143 20 - σ 143 21) + 2 ≤ (m : Int) → zP' (g_grp225 n 226 d σ) (mxPo σ (eP ev (mT σ) (σ 143 20) m 1 d (σ 143 21) T))) ∧
  (∀ (n : Nat) (d : Int) (T : Int → Bool) (σ : zS), tpP σ → σ 143 22 < 0 → 0 ≤ d → d ≤ 4 → 4 * (σ 143 20 - σ 143 21) + 1 ≤ (m : Int) → zP' (g_grp225 n 225 d σ) (mxPo σ (eP ev (mT σ) (σ 143 20) m 2 d (σ 143 21) T))) ∧
  (∀ (n w : Nat) (d : Int) (T : Int → Bool) (σ : zS), tpP σ → σ 143 22 < 0 → 0 ≤ d → d ≤ 4 → 4 * (σ 143 20 - σ 143 21) + 1 ≤ (m : Int) → zP' (g_m_isEither_L6 (g_grp225 n) w d 1 σ) (mxPo σ (eP ev (mT σ) (σ 143 20) m 3 d (σ 143 21) T))) ∧
  (∀ (n w : Nat) (d : Int) (T : Int → Bool) (σ : zS), tpP σ → σ 143 22 < 0 → 0 ≤ d → d ≤ 4 → 4 * (σ 143 20 - σ 143 21) + 1 ≤ (m : Int) → zP' (g_m_isBoth_L6 (g_grp225 n) w d 1 σ) (mxPo σ (eP ev (mT σ) (σ 143 20) m 4 d (σ 143 21) T)))
theorem m_expr {ev : Int → Int → Int} : ∀ m : Nat, m_all ev m
  | 0 => ⟨fun n d T σ h hs _ _ hm => by have := h.2.1; omega, fun n d T σ h hs _ _ hm => by have := h.2.1; omega, fun n d T σ h hs _ _ hm => by have := h.2.1; omega, fun n w d T σ h hs _ _ hm => by have := h.2.1; omega, fun n w d T σ h hs _ _ hm => by have := h.2.1; omega⟩
  | m + 1 => by
    obtain ⟨A0, A1, A2, A3, A4⟩ := m_expr (ev := ev) m
    have bd : ∀ (k : Nat) (d p : Int) (T : Int → Bool) (f : Int → Int) (L : Int), k ≤ 4 → p ≤ L → ∀ x, eP ev f L m k d p T = .inr x → p ≤ x.2 ∧ x.2 ≤ L := fun k d p T f L hk h x e => by
      have b := (eP_bd (ev := ev) (f := f) m k d p T hk h).2 x e
      exact ⟨b.1, b.2.1⟩
    have st : ∀ (k : Nat) (d p : Int) (T : Int → Bool) (f : Int → Int) (L : Int), k ≤ 2 → p ≤ L → ∀ x, eP ev f L m k d p T = .inr x → p < x.2 := fun k d p T f L hk h x e => ((eP_bd (ev := ev) (f := f) m k d p T (by omega) h).2 x e).2.2 (by omega) (by omega)
    refine ⟨fun n d T σ h hs d0 d4 hm => ?_, fun n d T σ h hs d0 d4 hm => ?_, fun n d T σ h hs d0 d4 hm => ?_, fun n w d T σ h hs d0 d4 hm => ?_, fun n w d T σ h hs d0 d4 hm => ?_⟩
    · cases n with
      | zero => exact zP'.no
      | succ n =>
        have h2 := h.2.1
        rw [grp225_227, eP_0]
        unfold g_m_isEither
        refine m_seq h (A1 n d T σ h hs d0 d4 (by omega)) (bd 1 d _ T _ _ (by decide) h2.2) (fun s => m_eloop0 _) (fun s y e f t k2 kp => ?_)
        have hl := st 1 d _ T _ _ (by decide) h2.2 y e
        have L1 : s 143 20 = σ 143 20 := f 143 20 (Or.inr (by decide))
        have R := A3 n zK d y.1 s t (by omega) d0 d4 (by rw [L1, kp]; omega)
        rw [mT_f f, L1, kp] at R
        exact R
    · cases n with
      | zero => exact zP'.no
      | succ n =>
        have h2 := h.2.1
        rw [grp225_226, eP_1]
        unfold g_m_isBoth
        refine m_seq h (A2 n d T σ h hs d0 d4 (by omega)) (bd 2 d _ T _ _ (by decide) h2.2) (fun s => m_bloop0 _) (fun s y e f t k2 kp => ?_)
        have hl := st 2 d _ T _ _ (by decide) h2.2 y e
        have L1 : s 143 20 = σ 143 20 := f 143 20 (Or.inr (by decide))
        have R := A4 n zK d y.1 s t (by omega) d0 d4 (by rw [L1, kp]; omega)
        rw [mT_f f, L1, kp] at R
        exact R
    · cases n with
      | zero => exact zP'.no
      | succ n =>
        have h2 := h.2.1
        rw [grp225_225, eP_2]
        have l80 : zP' (g_m_isFactor_L80 (g_grp225 n) σ) (mxPo σ (exTst ev (tstP (mT σ) (σ 143 20) (σ 143 21)))) := by
          unfold g_m_isFactor_L80
          refine zP'.bind (m_test h hs) (fun b s p => b01 ?_)
          obtain ⟨p1, p2⟩ := p
          try dsimp only
          cases e : tstP (mT σ) (σ 143 20) (σ 143 21) with
          | inl q =>
            rw [e] at p2
            exact ⟨p1, p2⟩
          | inr x =>
            rw [e] at p2
            exact ⟨p1, p2⟩
        unfold g_m_isFactor
        rw [s_here h.i]
        rw [Option.bind_some]
        try dsimp +instances only
        refine zP'.ite (fun c => ?_) (fun c => ?_)
        · rw [if_neg (by omega), if_neg (by omega)]
          unfold g_m_isFactor_L34
          rw [if_pos c]
          exact l80
        · by_cases c33 : hereC σ = 33
          · have k := (hereC_is h (by decide)).mp c33
            rw [if_neg (fun e => e c33), if_pos ⟨by omega, k⟩, w32_id (x := d + 1) (by omega) (by omega)]
            obtain ⟨ew, f, t, s22, s21, sT, s20⟩ := mk_st h k.1
            rw [ew]
            have R := A2 n (d + 1) T _ t (by omega) (by omega) (by omega) (by rw [s20, s21]; omega)
            rw [sT, s20, s21] at R
            refine zP'.bind R (fun b s p => b01 ?_)
            have p := p.tr f s22
            obtain ⟨p1, p2⟩ := p
            try dsimp only
            cases e : eP ev (mT σ) (σ 143 20) m 2 (d + 1) (σ 143 21 + 1) T with
            | inl q =>
              rw [e] at p2
              exact ⟨p1, p2⟩
            | inr x =>
              rw [e] at p2
              exact ⟨p1, p2⟩
          · have nk : ¬ (d < 4 ∧ σ 143 21 < σ 143 20 ∧ mT σ (σ 143 21) = 33) := fun e => c33 ((hereC_is h (by decide)).mpr e.2)
            rw [if_pos c33, if_neg nk]
            unfold g_m_isFactor_L34
            rw [if_neg c]
            by_cases c40 : hereC σ = 40
            · have k := (hereC_is h (by decide)).mp c40
              rw [if_neg (fun e => e c40), if_pos ⟨by omega, k⟩, w32_id (x := d + 1) (by omega) (by omega)]
              try dsimp +instances only
              obtain ⟨ew, f, t, s22, s21, sT, s20⟩ := mk_st h k.1
              rw [ew]
              have R := A0 n (d + 1) T _ t (by omega) (by omega) (by omega) (by rw [s20, s21]; omega)
              rw [sT, s20, s21] at R
              have c2 := bd 0 (d + 1) (σ 143 21 + 1) T (mT σ) (σ 143 20) (by decide) (by omega)
              refine zP'.bind R (fun b s p => ?_)
              have p := p.tr f s22
              obtain ⟨p1, p2⟩ := p
              try dsimp +instances only
              cases e : eP ev (mT σ) (σ 143 20) m 0 (d + 1) (σ 143 21 + 1) T with
              | inl q =>
                rw [e] at p2
                obtain ⟨rfl, p3⟩ := p2
                rw [if_pos rfl]
                exact zP'.ret ⟨p1, rfl, p3⟩
              | inr x =>
                rw [e] at p2
                obtain ⟨rfl, n1, n2⟩ := p2
                have b := c2 x e
                have ts : tpP s := h.f p1 (by omega)
                have L1 : s 143 20 = σ 143 20 := p1 143 20 (Or.inr (by decide))
                have W := m_sgn (x := 41) ts (by omega) (by decide)
                rw [mT_f p1, L1, n1] at W
                rw [if_neg (by decide)]
                refine zP'.bind W (fun b s4 p4 => ?_)
                try dsimp +instances only
                unfold exPar
                try dsimp only
                cases e4 : sgnR 41 (mT σ) (σ 143 20) x.2 with
                | inl q =>
                  obtain ⟨g1, rfl, g3⟩ := p4.no e4
                  rw [if_pos rfl]
                  exact zP'.ret ⟨p1.trans g1, rfl, g3⟩
                | inr z =>
                  obtain ⟨g1, rfl, gp, g3⟩ := p4.ok e4
                  rw [if_neg (by decide)]
                  exact zP'.ret ⟨p1.trans g1, rfl, gp, g3.trans n2⟩
            · have nk2 : ¬ (d < 4 ∧ σ 143 21 < σ 143 20 ∧ mT σ (σ 143 21) = 40) := fun e => c40 ((hereC_is h (by decide)).mpr e.2)
              rw [if_pos c40, if_neg nk2]
              exact l80
    · cases w with
      | zero => exact zP'.no
      | succ w =>
        have h2 := h.2.1
        rw [eP_3]
        unfold g_m_isEither_L6
        rw [if_neg (by decide), s_here h.i]
        rw [Option.bind_some]
        try dsimp +instances only
        by_cases c124 : hereC σ = 124
        · have k := (hereC_is h (by decide)).mp c124
          rw [if_neg (fun e => e c124), if_pos k]
          obtain ⟨ew, f, t, s22, s21, sT, s20⟩ := mk_st h k.1
          rw [ew]
          have R := A1 n d T _ t (by omega) d0 d4 (by rw [s20, s21]; omega)
          rw [sT, s20, s21] at R
          have c2 := bd 1 d (σ 143 21 + 1) T (mT σ) (σ 143 20) (by decide) (by omega)
          refine (m_seq t R (fun y e => by rw [s21, s20]; exact c2 y e) (fun s => m_eloop0 _) (fun s x e g tg k2 kp => ?_)).imp (fun v s p => p.tr f s22)
          have fg := f.trans g
          have L1 : s 143 20 = σ 143 20 := fg 143 20 (Or.inr (by decide))
          have b := c2 x e
          have R2 := A3 n w d (fun r => T r || x.1 r) s tg (by omega) d0 d4 (by rw [L1, kp]; omega)
          rw [mT_f fg, L1, kp] at R2
          exact R2
        · have nk : ¬ (σ 143 21 < σ 143 20 ∧ mT σ (σ 143 21) = 124) := fun e => c124 ((hereC_is h (by decide)).mpr e)
          rw [if_pos c124, if_neg nk, if_pos (Or.inr rfl)]
          exact zP'.ret ⟨fr3.refl σ, rfl, rfl, rfl⟩
    · cases w with
      | zero => exact zP'.no
      | succ w =>
        have h2 := h.2.1
        rw [eP_4]
        unfold g_m_isBoth_L6
        rw [if_neg (by decide), s_here h.i]
        rw [Option.bind_some]
        try dsimp +instances only
        by_cases c38 : hereC σ = 38
        · have k := (hereC_is h (by decide)).mp c38
          rw [if_neg (fun e => e c38), if_pos k]
          obtain ⟨ew, f, t, s22, s21, sT, s20⟩ := mk_st h k.1
          rw [ew]
          have R := A2 n d T _ t (by omega) d0 d4 (by rw [s20, s21]; omega)
          rw [sT, s20, s21] at R
          have c2 := bd 2 d (σ 143 21 + 1) T (mT σ) (σ 143 20) (by decide) (by omega)
          refine (m_seq t R (fun y e => by rw [s21, s20]; exact c2 y e) (fun s => m_bloop0 _) (fun s x e g tg k2 kp => ?_)).imp (fun v s p => p.tr f s22)
          have fg := f.trans g
          have L1 : s 143 20 = σ 143 20 := fg 143 20 (Or.inr (by decide))
          have b := c2 x e
          have R2 := A4 n w d (fun r => T r && x.1 r) s tg (by omega) d0 d4 (by rw [L1, kp]; omega)
          rw [mT_f fg, L1, kp] at R2
          exact R2
        · have nk : ¬ (σ 143 21 < σ 143 20 ∧ mT σ (σ 143 21) = 38) := fun e => c38 ((hereC_is h (by decide)).mpr e)
          rw [if_pos c38, if_neg nk, if_pos (Or.inr rfl)]
          exact zP'.ret ⟨fr3.refl σ, rfl, rfl, rfl⟩
