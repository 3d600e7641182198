/-! THE CLASS over the typed memory: the tests of a query; the paper grows -/
def fw_qu_top (a : Nat) (j : Int) : Bool := ((a == 120 && j == 2)) || (((a == 120 && j == 3)) || false)
def okC (g : Int → zS → Option (Int × zS)) (e : Int) : Prop := ∀ σ : zS, CI σ → zO (g e σ) (fun _ s => CI s ∧ fr fw_qu_top σ s)
theorem okC.ap {g : Int → zS → Option (Int × zS)} {e : Int} {σ0 σ : zS} (h : okC g e) (H : CI σ) (F : fr fw_qu_top σ0 σ) : zO (g e σ) (fun _ s => CI s ∧ fr fw_qu_top σ0 s) := (h σ H).imp (fun _ _ p => ⟨p.1, F.trans p.2⟩)
theorem q_takes {x1 : Int} {σ0 σ : zS} (H : CI σ) (F : fr fw_qu_top σ0 σ) (hp : x1 ≠ 0) : zO (g_ta_takes x1 σ) (fun _ s => CI s ∧ fr fw_qu_top σ0 s) := (g_ta_takes_sp H hp).imp (fun _ _ p => ⟨p.1, F.trans (p.2.1.mono (fun _ _ h => orf (ffl h) rfl))⟩)
theorem q_wants {x1 : Int} {σ0 σ : zS} (H : CI σ) (F : fr fw_qu_top σ0 σ) (hp : x1 ≠ 0) : zO (g_ta_wants x1 σ) (fun _ s => CI s ∧ fr fw_qu_top σ0 s) := (g_ta_wants_sp H hp).imp (fun _ _ p => ⟨p.1, F.trans (p.2.1.mono (fun _ _ h => orf (orf (ffl (ffr h)) rfl) (orf (ffl h) rfl)))⟩)
theorem q_oneOf {a1 : Nat} (ha1 : a1 = 6 ∨ a1 = 7) {σ0 σ : zS} (H : CI σ) (F : fr fw_qu_top σ0 σ) : zO (g_ta_oneOf a1 σ) (fun _ s => CI s ∧ fr fw_qu_top σ0 s) := (g_ta_oneOf_sp ha1 H).imp (fun _ _ p => ⟨p.1, F.trans (p.2.1.mono (fun _ _ h => orf (ffl h) (orf (orf (ffl (ffr h)) rfl) rfl)))⟩)
theorem q_number {x1 x2 x3 : Int} {σ0 σ : zS} (H : CI σ) (F : fr fw_qu_top σ0 σ) (hp : x1 ≤ 10) : zO (g_ta_number x1 x2 x3 σ) (fun _ s => CI s ∧ fr fw_qu_top σ0 s) := (g_ta_number_sp H hp).imp (fun _ _ p => ⟨p.1, F.trans (p.2.1.mono (fun _ _ h => orf (orf (ffl (ffr h)) rfl) (orf (ffl h) rfl)))⟩)
theorem q_129 {rec : Nat → Int → zS → Option (Int × zS)} {x y z : Int} {σ0 σ : zS} (H : CI σ) (F : fr fw_qu_top σ0 σ) : zO (g_qu_single_L129 rec x y z σ) (fun _ s => CI s ∧ fr fw_qu_top σ0 s) := by
  unfold g_qu_single_L129
  refine zO.bindp (g_so_rowsWith_sp H) (fun v _ => ?_)
  exact zO.ret ⟨H, F⟩
theorem q_65 {rec : Nat → Int → zS → Option (Int × zS)} {σ0 σ : zS} (H : CI σ) (F : fr fw_qu_top σ0 σ) : zO (g_qu_single_L65 rec σ) (fun _ s => CI s ∧ fr fw_qu_top σ0 s) := by
  unfold g_qu_single_L65
  refine zO.bind (q_oneOf (Or.inl rfl) H F) (fun v1 s1 p1 => ?_)
  refine zO.bind (q_oneOf (Or.inr rfl) p1.1 p1.2) (fun v2 s2 p2 => ?_)
  refine zO.bind (q_takes p2.1 p2.2 (by decide)) (fun v3 s3 p3 => ?_)
  refine zO.bind (q_number p3.1 p3.2 (by decide)) (fun v4 s4 p4 => ?_)
  refine zO.ite (fun _ => ?_) (fun _ => ?_)
  · exact q_129 p4.1 p4.2
  · exact q_129 p4.1 p4.2
theorem q_29 {rec : Nat → Int → zS → Option (Int × zS)} {e : Int} {σ0 σ : zS} (h68 : e < 4 → okC (rec 68) (w32 (e + 1))) (H : CI σ) (F : fr fw_qu_top σ0 σ) : zO (g_qu_single_L29 rec e σ) (fun _ s => CI s ∧ fr fw_qu_top σ0 s) := by
  unfold g_qu_single_L29
  refine zO.ite (fun _ => ?_) (fun c => ?_)
  · exact q_65 H F
  · refine zO.bind (q_takes H F (by decide)) (fun v1 s1 p1 => ?_)
    refine zO.ite (fun _ => ?_) (fun _ => ?_)
    · exact q_65 p1.1 p1.2
    · refine zO.bind ((h68 (by omega)).ap p1.1 p1.2) (fun v2 s2 p2 => ?_)
      refine zO.bind (q_wants p2.1 p2.2 (by decide)) (fun v3 s3 p3 => ?_)
      exact zO.ret p3
theorem q_single {rec : Nat → Int → zS → Option (Int × zS)} {e : Int} (h68 : e < 4 → okC (rec 68) (w32 (e + 1))) (h70 : e < 4 → okC (rec 70) (w32 (e + 1))) : okC (g_qu_single rec) e := by
  intro σ H
  unfold g_qu_single
  refine zO.ite (fun _ => ?_) (fun c => ?_)
  · exact q_29 h68 H (fr.refl σ)
  · refine zO.bind (q_takes H (fr.refl σ) (by decide)) (fun v1 s1 p1 => ?_)
    refine zO.ite (fun _ => ?_) (fun _ => ?_)
    · exact q_29 h68 p1.1 p1.2
    · refine zO.bind ((h70 (by omega)).ap p1.1 p1.2) (fun v2 s2 p2 => ?_)
      exact zO.ret p2
theorem q_both9 {rec : Nat → Int → zS → Option (Int × zS)} {e : Int} {σ0 : zS} (h70 : okC (rec 70) e) : ∀ (n : Nat) (y x : Int) (σ : zS), CI σ → fr fw_qu_top σ0 σ → 0 ≤ x → x ≤ 160 → 160 - x < (n : Int) → zO (g_qu_both_L9 rec n e y x σ) (fun _ s => CI s ∧ fr fw_qu_top σ0 s)
  | 0, _, _, _, _, _, _, _, h => by exfalso; omega
  | n + 1, y, x, σ, H, F, h1, h2, h3 => by
    unfold g_qu_both_L9
    refine zO.ite (fun _ => ?_) (fun c => ?_)
    · exact zO.ret ⟨H, F⟩
    · refine zO.bind (q_takes H F (by decide)) (fun v1 s1 p1 => ?_)
      refine zO.ite (fun _ => ?_) (fun _ => ?_)
      · exact zO.ret p1
      · refine zO.bind (h70.ap p1.1 p1.2) (fun v2 s2 p2 => ?_)
        have ew := w32_id (x := x + 1) (by omega) (by omega)
        exact q_both9 h70 n _ _ s2 p2.1 p2.2 (by omega) (by omega) (by omega)
theorem q_both {rec : Nat → Int → zS → Option (Int × zS)} {e : Int} (h70 : okC (rec 70) e) : okC (g_qu_both rec) e := by
  intro σ H
  unfold g_qu_both
  refine zO.bind (h70 σ H) (fun v1 s1 p1 => ?_)
  exact q_both9 h70 zK _ 0 s1 p1.1 p1.2 (by omega) (by omega) (by show _ < (1000000 : Int); omega)
theorem q_either9 {rec : Nat → Int → zS → Option (Int × zS)} {e : Int} {σ0 : zS} (h69 : okC (rec 69) e) : ∀ (n : Nat) (y x : Int) (σ : zS), CI σ → fr fw_qu_top σ0 σ → 0 ≤ x → x ≤ 160 → 160 - x < (n : Int) → zO (g_qu_either_L9 rec n e y x σ) (fun _ s => CI s ∧ fr fw_qu_top σ0 s)
  | 0, _, _, _, _, _, _, _, h => by exfalso; omega
  | n + 1, y, x, σ, H, F, h1, h2, h3 => by
    unfold g_qu_either_L9
    refine zO.ite (fun _ => ?_) (fun c => ?_)
    · exact zO.ret ⟨H, F⟩
    · refine zO.bind (q_takes H F (by decide)) (fun v1 s1 p1 => ?_)
      refine zO.ite (fun _ => ?_) (fun _ => ?_)
      · exact zO.ret p1
      · refine zO.bind (h69.ap p1.1 p1.2) (fun v2 s2 p2 => ?_)
        have ew := w32_id (x := x + 1) (by omega) (by omega)
        exact q_either9 h69 n _ _ s2 p2.1 p2.2 (by omega) (by omega) (by omega)
theorem q_either {rec : Nat → Int → zS → Option (Int × zS)} {e : Int} (h69 : okC (rec 69) e) : okC (g_qu_either rec) e := by
  intro σ H
  unfold g_qu_either
  refine zO.bind (h69 σ H) (fun v1 s1 p1 => ?_)
  exact q_either9 h69 zK _ 0 s1 p1.1 p1.2 (by omega) (by omega) (by show _ < (1000000 : Int); omega)
theorem grp68_68 {n : Nat} : g_grp68 (n + 1) 68 = g_qu_either (g_grp68 n) := by
  funext x σ
  show (if 68 = 68 then g_qu_either (g_grp68 n) x σ else _) = _
  rw [if_pos rfl]
theorem grp68_69 {n : Nat} : g_grp68 (n + 1) 69 = g_qu_both (g_grp68 n) := by
  funext x σ
  show (if 69 = 68 then g_qu_either (g_grp68 n) x σ else if 69 = 69 then g_qu_both (g_grp68 n) x σ else _) = _
  rw [if_neg (by decide), if_pos rfl]
theorem grp68_70 {n : Nat} : g_grp68 (n + 1) 70 = g_qu_single (g_grp68 n) := by
  funext x σ
  show (if 70 = 68 then g_qu_either (g_grp68 n) x σ else if 70 = 69 then g_qu_both (g_grp68 n) x σ else if 70 = 70 then g_qu_single (g_grp68 n) x σ else _) = _
  rw [if_neg (by decide), if_neg (by decide), if_pos rfl]
theorem q_all : ∀ (d n : Nat), d ≤ 4 → 3 * d + 1 ≤ n → okC (g_grp68 n 70) (4 - (d : Int))
  | _, 0, _, h => absurd h (by omega)
  | 0, n + 1, _, _ => by
    rw [grp68_70]
    exact q_single (fun h => absurd h (by omega)) (fun h => absurd h (by omega))
  | d + 1, n + 1, h1, h2 => by
    rw [grp68_70]
    have e1 : w32 (4 - ((d + 1 : Nat) : Int) + 1) = 4 - (d : Int) := by rw [w32_id (by omega) (by omega)]; omega
    obtain ⟨m, rfl⟩ : ∃ m, n = m + 2 := ⟨n - 2, by omega⟩
    refine q_single (fun _ => ?_) (fun _ => ?_)
    · rw [e1, grp68_68]
      refine q_either ?_
      rw [grp68_69]
      exact q_both (q_all d m (by omega) (by omega))
    · rw [e1]
      exact q_all d (m + 2) (by omega) (by omega)
theorem g_qu_top_sp {σ : zS} (H : CI σ) : zO (g_grp68 zR 68 0 σ) (fun _ s => CI s ∧ fr fw_qu_top σ s ∧ (True)) := by
  have h : okC (g_grp68 zR 68) 0 := by
    rw [show zR = 499 + 1 from rfl, grp68_68]
    refine q_either ?_
    rw [show 499 = 498 + 1 from rfl, grp68_69]
    exact q_both (q_all 4 498 (by omega) (by omega))
  exact (h σ H).imp (fun _ _ p => ⟨p.1, p.2, trivial⟩)
/-! THE PAPER -/
def fw_page (a : Nat) (j : Int) : Bool := ((a == 129 && j == 2)) || (((a == 129 && j == 3)) || ((a == 168) || ((a == 169) || false)))
theorem zgw_a {σ : zS} {x i : Int} {a : Nat} (h1 : a ≠ 168) (h2 : a ≠ 169) : zgw σ x a i = σ a i := by
  unfold zgw
  rw [if_neg (fun h => h2 h.1), if_neg (fun h => h1 h.1)]
theorem zgw_c {σ : zS} {x : Int} : zgw σ x 169 0 = if x ≤ 2 * σ 169 0 + 2 then 2 * σ 169 0 + 2 else x := by
  unfold zgw
  rw [if_pos ⟨rfl, rfl⟩]
/-- the invariant where only the paper's cells differ -/
theorem CI_pg {σ s : zS} (H : CI σ) (e : ∀ a j, a ≠ 129 → a ≠ 168 → a ≠ 169 → s a j = σ a j) (hp : PG s) : CI s := by
  refine ⟨fun a j => ?_, hp⟩
  by_cases c : a = 129 ∨ a = 168 ∨ a = 169
  · intro lo hi h
    exfalso
    have hn : rng a j = none := by
      rcases c with rfl | rfl | rfl <;> rfl
    rw [hn] at h
    cases h
  · rw [e a j (by omega) (by omega) (by omega)]
    exact H.1 a j
theorem sb_ens {x : Int} {σ : zS} (H : CI σ) (h1 : 0 ≤ x) (h2 : x ≤ 60000) : ∃ s, g_sb_ensure x σ = some ((), s) ∧ CI s ∧ fr fw_page σ s ∧ s 129 3 = σ 129 3 ∧ s 129 1 = 0 ∧ x ≤ s 169 0 := by
  obtain ⟨p1, p2, p3, p4, p5⟩ := H.2
  unfold g_sb_ensure
  rw [if_pos ⟨h1, h2, p1⟩]
  by_cases c : x ≤ σ 169 0
  · rw [if_pos c]
    exact ⟨σ, rfl, H, fr.refl σ, rfl, p1, c⟩
  · rw [if_neg c]
    have e1 : zgw σ x 129 1 = σ 129 1 := zgw_a (by decide) (by decide)
    have e3 : zgw σ x 129 3 = σ 129 3 := zgw_a (by decide) (by decide)
    have ec : x ≤ zgw σ x 169 0 ∧ σ 169 0 ≤ zgw σ x 169 0 ∧ zgw σ x 169 0 ≤ 200000 := by
      rw [zgw_c]
      split <;> omega
    refine ⟨_, rfl, CI_pg H (fun a j _ k2 k3 => zgw_a k2 k3) ⟨by omega, by omega, by omega, by omega, by omega⟩, fun a j k => ?_, e3, by omega, ec.1⟩
    rcases k with k | k
    · exact zgw_a (by omega) (by omega)
    · have k3 := ffl (ffr (ffr k))
      have k4 := ffl (ffr (ffr (ffr k)))
      exact zgw_a (fun h => by rw [h] at k3; cases k3) (fun h => by rw [h] at k4; cases k4)
theorem pg_zu {σ0 σ : zS} {a : Nat} {i v : Int} (F : fr fw_page σ0 σ) (h : (a = 129 ∧ (i = 2 ∨ i = 3)) ∨ a = 168 ∨ a = 169) : fr fw_page σ0 (zu σ a i v) := by
  refine fr.zu F (by omega) ?_
  rcases h with ⟨rfl, rfl | rfl⟩ | rfl | rfl
  · exact bl rfl
  · exact br (bl rfl)
  · exact br (br (bl rfl))
  · exact br (br (br (bl rfl)))
/-- a byte more in the paper's room -/
theorem CI_168 {σ : zS} {i v : Int} (H : CI σ) : CI (zu σ 168 i v) := CI_pg H (fun a j _ k _ => zu_a k) (by unfold PG; rw [zu_a (by decide), zu_a (by decide), zu_a (by decide)]; exact H.2)
theorem CI_len {σ : zS} {v : Int} (H : CI σ) (h1 : 0 ≤ v) (h2 : v ≤ σ 169 0) (h3 : v ≤ 50000) : CI (zu σ 129 3 v) := CI_pg H (fun a j k _ _ => zu_a k) (by
  unfold PG
  rw [zu_i (by decide), zu_e rfl, zu_a (by decide)]
  exact ⟨H.2.1, h1, h2, h3, H.2.2.2.2.2⟩)
theorem sb_lat {σ : zS} (H : CI σ) : g_jAbstractStringBuilder_isLatin1 σ = some (1, σ) := by
  unfold g_jAbstractStringBuilder_isLatin1
  rw [if_neg (by decide)]
  show (if σ 129 1 ≠ 0 then _ else _) = _
  rw [if_neg (by have := H.2.1; omega)]
theorem g_jStringBuilder_append_303_sp {x1 : Int} {σ : zS} (H : CI σ) (hp : σ 129 3 ≤ 49000 ∧ 0 ≤ x1 ∧ x1 ≤ 127) : zO (g_jStringBuilder_append_303 x1 σ) (fun v s => CI s ∧ fr fw_page σ s ∧ (s 129 3 ≤ σ 129 3 + 1)) := by
  obtain ⟨p1, p2, p3, p4, p5⟩ := H.2
  unfold g_jStringBuilder_append_303 g_jAbstractStringBuilder_append_279
  dsimp only
  have ew := w32_id (x := σ 129 3 + 1) (by omega) (by omega)
  obtain ⟨s1, e1, H1, F1, q1, q2, q3⟩ := sb_ens (x := σ 129 3 + 1) H (by omega) (by omega)
  rw [ew, e1]
  rw [Option.bind_some]
  dsimp only
  rw [sb_lat H1]
  rw [Option.bind_some]
  dsimp +instances only
  rw [if_neg (by decide)]
  unfold g_jStringLatin1_canEncode_309
  rw [if_neg (by omega)]
  rw [Option.bind_some]
  dsimp +instances only
  rw [if_neg (by decide), q1, ew]
  rw [if_pos (by rw [zu_a (by decide)]; omega)]
  rw [Option.bind_some]
  refine zO.ret ⟨CI_168 (CI_len H1 (by omega) (by omega) (by omega)), pg_zu (pg_zu F1 (by omega)) (by omega), ?_⟩
  dsimp only
  rw [zu_a (by decide), zu_e rfl]
  omega
theorem g_jStringBuilder_length_sp {σ : zS} (H : CI σ) : zOp (g_jStringBuilder_length σ) σ (fun v => v = σ 129 3) := ⟨_, rfl, rfl⟩
theorem g_jStringBuilder_setLength_sp {x1 : Int} {σ : zS} (H : CI σ) (hp : x1 = 0) : zO (g_jStringBuilder_setLength x1 σ) (fun v s => CI s ∧ fr fw_page σ s ∧ (s 129 3 = 0)) := by
  subst hp
  obtain ⟨p1, p2, p3, p4, p5⟩ := H.2
  unfold g_jStringBuilder_setLength g_jAbstractStringBuilder_setLength
  rw [if_pos (by decide)]
  obtain ⟨s1, e1, H1, F1, q1, q2, q3⟩ := sb_ens (x := 0) H (by omega) (by omega)
  rw [e1]
  rw [Option.bind_some]
  dsimp +instances only
  rw [if_pos (by omega)]
  unfold g_jAbstractStringBuilder_setLength_L76
  by_cases c : s1 129 3 ≤ 0
  · rw [if_pos c]
    exact zO.ret ⟨CI_len H1 (by omega) (by omega) (by omega), pg_zu F1 (by omega), by dsimp only; exact zu_e rfl⟩
  · rw [if_neg c]
    have H2 : CI (zu s1 129 2 1) := CI_pg H1 (fun a j k _ _ => zu_a k) (by unfold PG; rw [zu_i (by decide), zu_i (by decide), zu_a (by decide)]; exact H1.2)
    exact zO.ret ⟨CI_len H2 (by omega) (by rw [zu_a (by decide)]; omega) (by omega), pg_zu (pg_zu F1 (by omega)) (by omega), by dsimp only; exact zu_e rfl⟩
theorem g_jStringBuilder_append_302_sp {a1 : Nat} (ha1 : 1 ≤ a1 ∧ a1 ≤ 18 ∧ zLI (a1 + 18) ≤ 5) {σ : zS} (H : CI σ) (hp : σ 129 3 ≤ 49000) : zO (g_jStringBuilder_append_302 a1 σ) (fun v s => CI s ∧ fr fw_page σ s ∧ (s 129 3 ≤ σ 129 3 + 5)) := by
  obtain ⟨p1, p2, p3, p4, p5⟩ := H.2
  have hz := zLI_str ha1.1 ha1.2.1
  unfold g_jStringBuilder_append_302 g_jAbstractStringBuilder_append_278
  rw [s_length (iShr0 (by omega) (by omega))]
  rw [Option.bind_some]
  dsimp +instances only
  have ew := w32_id (x := σ 129 3 + zLI (a1 + 18)) (by omega) (by omega)
  obtain ⟨s1, e1, H1, F1, q1, q2, q3⟩ := sb_ens (x := σ 129 3 + zLI (a1 + 18)) H (by omega) (by omega)
  rw [ew, e1]
  rw [Option.bind_some]
  dsimp +instances only
  unfold g_jAbstractStringBuilder_putStringAt g_jAbstractStringBuilder_inflateIfNeededFor g_jString_coder
  rw [if_neg (by decide), if_neg (by decide)]
  rw [Option.bind_some]
  dsimp +instances only
  rw [if_pos q2]
  rw [Option.bind_some]
  dsimp +instances only
  unfold g_jString_getBytes g_jString_coder
  rw [if_neg (by decide)]
  rw [Option.bind_some]
  dsimp +instances only
  rw [q2, if_neg (by decide), iShl0 (by omega) (by omega), q1, if_pos (by omega)]
  rw [Option.bind_some]
  dsimp +instances only
  have ez : ∀ b j, b ≠ 168 → zcP s1 (a1 + 18) 0 (σ 129 3) (zLI (a1 + 18)) b j = s1 b j := fun b j h => if_neg (fun e => h e.1)
  rw [Option.bind_some]
  dsimp +instances only
  rw [ez 129 3 (by decide), q1, ew]
  have H2 : CI (zcP s1 (a1 + 18) 0 (σ 129 3) (zLI (a1 + 18))) := CI_pg H1 (fun b j _ k _ => ez b j k) (by unfold PG; rw [ez 129 1 (by decide), ez 129 3 (by decide), ez 169 0 (by decide)]; exact H1.2)
  rw [Option.bind_some]
  refine zO.ret ⟨CI_len H2 (by omega) (by rw [ez 169 0 (by decide)]; omega) (by omega), pg_zu (fun b j k => ?_) (by omega), ?_⟩
  · rw [ez b j (fun h => ?_)]
    · exact F1 b j k
    · rcases k with k | k
      · omega
      · have k3 := ffl (ffr (ffr k))
        rw [h] at k3
        cases k3
  · dsimp only; rw [zu_e rfl]; omega
theorem g_jStringBuilder_charAt_sp {x1 : Int} {σ : zS} (H : CI σ) (hp : 0 ≤ x1 ∧ x1 < σ 129 3) : zOp (g_jStringBuilder_charAt x1 σ) σ (fun _ => True) := by
  obtain ⟨p1, p2, p3, p4, p5⟩ := H.2
  have hb : 0 ≤ w16 (iAnd (σ 168 x1) 255) ∧ w16 (iAnd (σ 168 x1) 255) < 65536 := by unfold w16; omega
  unfold g_jStringBuilder_charAt
  refine zOp.bindp (P := fun v => 0 ≤ v ∧ v < 65536) ?_ (fun v hv => zOp.gd hv (zOp.ret trivial))
  unfold g_jAbstractStringBuilder_charAt
  dsimp +instances only
  have e : iShr (σ 169 0) (σ 129 1) = σ 169 0 := by rw [p1]; exact iShr0 (by omega) (by omega)
  refine zOp.bindp g_jMath_min_291_sp (fun r hr => ?_)
  rw [e] at hr
  dsimp +instances only
  refine zOp.gd (by omega) ?_
  refine zOp.ite (fun c => absurd p1 c) (fun _ => ?_)
  refine zOp.gd (by omega) ?_
  exact zOp.gd hb (zOp.ret hb)
/-! A NUMBER's figures -/
def gcQ (σ : zS) : Int → zS → Prop := fun _ s => CI s ∧ fr fw_page σ s ∧ s 129 3 = σ 129 3 ∧ s 169 0 = σ 169 0
theorem gcQ_u {σ : zS} {i v : Int} {x : Option (Int × zS)} (h : zO x (gcQ (zu σ 168 i v))) : zO x (gcQ σ) := by
  refine h.imp (fun _ s p => ⟨p.1, (pg_zu (fr.refl σ) (by omega)).trans p.2.1, ?_, ?_⟩)
  · rw [p.2.2.1]; exact zu_a (by decide)
  · rw [p.2.2.2]; exact zu_a (by decide)
theorem gc_104 {x5 x6 : Int} {σ : zS} (H : CI σ) (h1 : x6 ≠ 0 → 1 ≤ x5) (h2 : x5 ≤ σ 169 0) (h3 : x5 ≤ 60000) (h4 : 0 ≤ x5) : zO (g_jInteger_getChars_L104 x5 x6 σ) (gcQ σ) := by
  unfold g_jInteger_getChars_L104
  refine zO.ite (fun _ => zO.ret ⟨H, fr.refl σ, rfl, rfl⟩) (fun c => ?_)
  have ew := w32_id (x := x5 - 1) (by omega) (by omega)
  refine zO.gd (by omega) ?_
  exact gcQ_u (zO.ret ⟨CI_168 H, fr.refl _, rfl, rfl⟩)
theorem tdiv_neg100 {z : Int} (h : 0 ≤ z) : Int.tdiv (-z) 100 = -(z / 100) := by
  rw [Int.neg_tdiv, Int.tdiv_eq_ediv_of_nonneg h]
theorem gc_22 : ∀ (k n : Nat) (z p x5 x6 : Int) (σ : zS), (10 : Int) ^ k = p → 1 ≤ k → 0 ≤ z → z < p → z ≤ 2147483648 → k < n → CI σ → x5 ≤ σ 169 0 → x5 ≤ 60000 → (k : Int) ≤ x5 → (x6 ≠ 0 → (k : Int) + 1 ≤ x5) → zO (g_jInteger_getChars_L22 n (-z) x5 x6 σ) (gcQ σ) := by
  intro k
  induction k using Nat.strongRecOn with
  | _ k ih =>
    intro n z p x5 x6 σ hp hk hz hzp hz2 hn H h1 h2 h3 h4
    obtain ⟨n, rfl⟩ : ∃ m, n = m + 1 := ⟨n - 1, by omega⟩
    unfold g_jInteger_getChars_L22
    have e1 := w32_id (x := x5 - 1) (by omega) (by omega)
    refine zO.ite (fun c => ?_) (fun c => ?_)
    · have e0 : w32 (-(-z)) = z := by rw [Int.neg_neg]; exact w32_id (by omega) (by omega)
      refine zO.gd (by omega) ?_
      dsimp +instances only
      refine zO.gd (by omega) ?_
      generalize hs : zu σ 168 (w32 (x5 - 1)) (w8 (zs0 37 (w32 (-(-z))))) = s1
      have H1 : CI s1 := by rw [← hs]; exact CI_168 H
      have q1 : s1 169 0 = σ 169 0 := by rw [← hs]; exact zu_a (by decide)
      have goOn : ∀ {x : Option (Int × zS)}, zO x (gcQ s1) → zO x (gcQ σ) := fun h => gcQ_u (by rw [hs]; exact h)
      refine goOn ?_
      refine zO.ite (fun c2 => ?_) (fun c2 => ?_)
      · exact gc_104 H1 (fun h => by have := h4 h; omega) (by omega) (by omega) (by omega)
      · have k2 : 2 ≤ k := by
          by_cases kk : k = 1
          · subst kk
            rw [show (10 : Int) ^ 1 = 10 from rfl] at hp
            omega
          · omega
        have e2 := w32_id (x := w32 (x5 - 1) - 1) (by omega) (by omega)
        refine zO.gd (by omega) ?_
        refine zO.gd (by omega) ?_
        exact gcQ_u (gc_104 (CI_168 H1) (fun h => by have := h4 h; omega) (by rw [zu_a (by decide)]; omega) (by omega) (by omega))
    · have k3 : 3 ≤ k := by
        by_cases kk : k = 1
        · subst kk
          rw [show (10 : Int) ^ 1 = 10 from rfl] at hp
          omega
        · by_cases kk2 : k = 2
          · subst kk2
            rw [show (10 : Int) ^ 2 = 100 from rfl] at hp
            omega
          · omega
      have ed := tdiv_neg100 hz
      have e0 : w32 (Int.tdiv (-z) 100) = -(z / 100) := by rw [ed]; exact w32_id (by omega) (by omega)
      have e3 : w32 (w32 (Int.tdiv (-z) 100) * 100) = -(z / 100) * 100 := by rw [e0]; exact w32_id (by omega) (by omega)
      have e4 : w32 (w32 (w32 (Int.tdiv (-z) 100) * 100) - (-z)) = z - z / 100 * 100 := by rw [e3, w32_id (by omega) (by omega)]; omega
      have e2 := w32_id (x := w32 (x5 - 1) - 1) (by omega) (by omega)
      refine zO.gd (by omega) ?_
      dsimp +instances only
      refine zO.gd (by omega) ?_
      refine zO.gd (by omega) ?_
      refine zO.gd (by rw [zu_a (by decide)]; omega) ?_
      rw [e0]
      obtain ⟨k, rfl⟩ : ∃ m, k = m + 2 := ⟨k - 2, by omega⟩
      rw [Int.pow_succ, Int.pow_succ] at hp
      generalize hq : (10 : Int) ^ k = q at hp
      exact gcQ_u (gcQ_u (ih k (by omega) n (z / 100) q _ x6 _ hq (by omega) (by omega) (by omega) (by omega) (by omega) (CI_168 (CI_168 H)) (by rw [zu_a (by decide), zu_a (by decide)]; omega) (by omega) (by omega) (fun h => by have := h4 h; omega)))
theorem pw9 {j : Nat} (h : j ≤ 8) : (1 : Int) ≤ (10 : Int) ^ j ∧ (10 : Int) ^ j ≤ 100000000 := by
  have h9 : ∀ i : Fin 9, (1 : Int) ≤ (10 : Int) ^ i.val ∧ (10 : Int) ^ i.val ≤ 100000000 := by decide +kernel
  exact h9 ⟨j, by omega⟩
theorem ss_16 {z x1 : Int} {σ : zS} (hz : 0 ≤ z) (hz2 : z ≤ 2147483648) (h1 : x1 = 0 ∨ x1 = 1) : ∀ (m n j : Nat) (p x2 : Int), j + m = 10 → 1 ≤ j → (10 : Int) ^ j = p → (j < 10 → x2 = -p) → m < n → ∃ k : Nat, g_jInteger_stringSize_L16 n (-z) x1 x2 (j : Int) σ = some ((k : Int) + x1, σ) ∧ 1 ≤ k ∧ k ≤ 10 ∧ z < (10 : Int) ^ k
  | _, 0, _, _, _, _, _, _, _, h => absurd h (Nat.not_lt_zero _)
  | 0, n + 1, j, p, x2, hj, hj1, hp, hx, _ => by
    have : j = 10 := by omega
    subst this
    unfold g_jInteger_stringSize_L16
    rw [if_pos (by omega), w32_id (x := 10 + x1) (by omega) (by omega)]
    have : (10 : Int) ^ 10 = 10000000000 := rfl
    exact ⟨10, rfl, by omega, by omega, by omega⟩
  | m + 1, n + 1, j, p, x2, hj, hj1, hp, hx, hn => by
    unfold g_jInteger_stringSize_L16
    rw [if_neg (by omega)]
    have hx := hx (by omega)
    by_cases c : -z ≤ x2
    · rw [if_pos c, w32_id (x := (j : Int) + 1) (by omega) (by omega), show (j : Int) + 1 = ((j + 1 : Nat) : Int) by omega]
      refine ss_16 hz hz2 h1 m n (j + 1) ((10 : Int) ^ (j + 1)) _ (by omega) (by omega) rfl (fun h10 => ?_) (by omega)
      have hb := pw9 (j := j) (by omega)
      rw [Int.pow_succ, hp]
      rw [hp] at hb
      rw [w32_id (x := 10 * x2) (by omega) (by omega)]
      omega
    · rw [if_neg c, w32_id (x := (j : Int) + x1) (by omega) (by omega)]
      exact ⟨j, rfl, hj1, by omega, by omega⟩
theorem ss_all {x0 : Int} {σ : zS} (h1 : -2147483648 ≤ x0) (h2 : x0 ≤ 2147483647) : ∃ (k : Nat) (z : Int), g_jInteger_stringSize x0 σ = some ((k : Int) + (if x0 < 0 then 1 else 0), σ) ∧ 1 ≤ k ∧ k ≤ 10 ∧ z < (10 : Int) ^ k ∧ 0 ≤ z ∧ z ≤ 2147483648 ∧ (x0 < 0 → x0 = -z) ∧ (0 ≤ x0 → x0 = z) := by
  unfold g_jInteger_stringSize g_jInteger_stringSize_L11
  by_cases c : x0 < 0
  · rw [if_pos c, if_pos c]
    obtain ⟨k, e1, e2, e3, e4⟩ := ss_16 (z := -x0) (x1 := 1) (σ := σ) (by omega) (by omega) (Or.inr rfl) 9 zK 1 10 (-10) rfl (by omega) rfl (fun _ => rfl) (by show _ < 1000000; omega)
    rw [Int.neg_neg] at e1
    exact ⟨k, -x0, e1, e2, e3, e4, by omega, by omega, fun _ => by omega, fun _ => by omega⟩
  · rw [if_neg c, if_neg c, w32_id (x := -x0) (by omega) (by omega)]
    obtain ⟨k, e1, e2, e3, e4⟩ := ss_16 (z := x0) (x1 := 0) (σ := σ) (by omega) (by omega) (Or.inl rfl) 9 zK 1 10 (-10) rfl (by omega) rfl (fun _ => rfl) (by show _ < 1000000; omega)
    exact ⟨k, x0, e1, e2, e3, e4, by omega, by omega, fun _ => by omega, fun _ => by omega⟩
theorem gc_all {x0 x5 z : Int} {k : Nat} {σ : zS} (hk : 1 ≤ k) (hk2 : k ≤ 10) (hz : z < (10 : Int) ^ k) (hz0 : 0 ≤ z) (hz2 : z ≤ 2147483648) (g1 : x0 < 0 → x0 = -z) (g2 : 0 ≤ x0 → x0 = z) (h0 : x0 ≤ 2147483647) (H : CI σ) (h1 : x5 ≤ σ 169 0) (h2 : x5 ≤ 60000) (h3 : (k : Int) + (if x0 < 0 then 1 else 0) ≤ x5) : zO (g_jInteger_getChars x0 x5 σ) (gcQ σ) := by
  unfold g_jInteger_getChars g_jInteger_getChars_L12
  refine zO.ite (fun c => ?_) (fun c => ?_)
  · rw [if_neg (by decide)]
    rw [if_neg (by omega)] at h3
    rw [w32_id (x := -x0) (by omega) (by omega), g2 c]
    exact gc_22 k zK z _ x5 0 σ rfl hk hz0 hz hz2 (by show _ < 1000000; omega) H h1 h2 (by omega) (fun h => absurd rfl h)
  · rw [if_pos (by decide)]
    rw [if_pos (by omega)] at h3
    rw [g1 (by omega)]
    exact gc_22 k zK z _ x5 1 σ rfl hk hz0 hz hz2 (by show _ < 1000000; omega) H h1 h2 (by omega) (fun _ => by omega)
theorem g_jStringBuilder_append_304_sp {x1 : Int} {σ : zS} (H : CI σ) (hp : σ 129 3 ≤ 49000 ∧ -2147483648 ≤ x1 ∧ x1 ≤ 2147483647) : zO (g_jStringBuilder_append_304 x1 σ) (fun v s => CI s ∧ fr fw_page σ s ∧ (s 129 3 ≤ σ 129 3 + 11)) := by
  obtain ⟨p1, p2, p3, p4, p5⟩ := H.2
  obtain ⟨k, z, e0, k1, k2, hz, hz0, hz2, g1, g2⟩ := ss_all (σ := σ) hp.2.1 hp.2.2
  have hr : 0 ≤ (k : Int) + (if x1 < 0 then 1 else 0) ∧ (k : Int) + (if x1 < 0 then 1 else 0) ≤ 11 ∧ (if x1 < 0 then (1 : Int) else 0) ≥ 0 := by split <;> omega
  unfold g_jStringBuilder_append_304 g_jAbstractStringBuilder_append_280
  dsimp only
  rw [e0]
  rw [Option.bind_some]
  dsimp only
  have ew := w32_id (x := σ 129 3 + ((k : Int) + (if x1 < 0 then 1 else 0))) (by omega) (by omega)
  obtain ⟨s1, e1, H1, F1, q1, q2, q3⟩ := sb_ens (x := σ 129 3 + ((k : Int) + (if x1 < 0 then 1 else 0))) H (by omega) (by omega)
  rw [ew, e1]
  rw [Option.bind_some]
  dsimp only
  rw [sb_lat H1]
  rw [Option.bind_some]
  dsimp +instances only
  rw [if_neg (by decide)]
  refine zO.bind (P := fun _ s => CI s ∧ fr fw_page σ s ∧ (s 129 3 ≤ σ 129 3 + 11)) ?_ (fun v s p => zO.ret p)
  refine zO.bind (gc_all k1 k2 hz hz0 hz2 g1 g2 hp.2.2 H1 q3 (by omega) (by omega)) (fun v s p => ?_)
  unfold g_jAbstractStringBuilder_append_280_L48
  refine zO.ret ⟨CI_len p.1 (by omega) (by show _ ≤ s 169 0; rw [p.2.2.2]; omega) (by omega), pg_zu (F1.trans p.2.1) (by omega), ?_⟩
  dsimp only
  rw [zu_e rfl]
  omega
