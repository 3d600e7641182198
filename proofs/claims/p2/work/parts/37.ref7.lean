/-! THE REFERENCE over the typed memory: trimming, a query -/
/-- all that the regions' part of a state says, told by another one's -/
theorem RI_of {σ s : zS} {N : Nat} (h : RI σ N) (e : ∀ k : Nat, k < N → (rgA s (k : Int)).1 = (rgA σ (k : Int)).1 ∧ (rgA s (k : Int)).2.1 = (rgA σ (k : Int)).2.1) : RI s N := by
  refine ⟨fun k hk => ?_, fun k1 k2 h1 h2 => ?_⟩
  · obtain ⟨e1, e2⟩ := e k hk
    unfold rOk
    rw [e1, e2]
    exact h.1 k hk
  · rw [(e k1 (by omega)).1, (e k2 h2).1]
    exact h.2 k1 k2 h1 h2
/-- how many regions have a HOT -/
def hotC (σ : zS) : Nat → Nat
  | 0 => 0
  | n + 1 => hotC σ n + (if 0 ≤ σ 144 (344 + 10 * (n : Int)) then 1 else 0)
theorem hotC_le (σ : zS) : ∀ n, hotC σ n ≤ n
  | 0 => Nat.le_refl _
  | n + 1 => by
    have := hotC_le σ n
    show hotC σ n + _ ≤ n + 1
    split <;> omega
theorem hotC_eq {σ s : zS} : ∀ n : Nat, (∀ k : Nat, k < n → s 144 (344 + 10 * (k : Int)) = σ 144 (344 + 10 * (k : Int))) → hotC s n = hotC σ n
  | 0, _ => rfl
  | n + 1, h => by
    show hotC s n + _ = hotC σ n + _
    rw [hotC_eq n (fun k hk => h k (by omega)), h n (by omega)]
theorem hotC_drop {σ s : zS} {f : Nat} (hf : 0 ≤ σ 144 (344 + 10 * (f : Int))) (hs : s 144 (344 + 10 * (f : Int)) < 0) : ∀ n : Nat, f < n → (∀ k : Nat, k < n → k ≠ f → s 144 (344 + 10 * (k : Int)) = σ 144 (344 + 10 * (k : Int))) → hotC s n + 1 = hotC σ n
  | 0, h, _ => absurd h (Nat.not_lt_zero _)
  | n + 1, h, he => by
    show hotC s n + _ + 1 = hotC σ n + _
    by_cases c : f = n
    · subst c
      rw [hotC_eq f (fun k hk => he k (by omega) (by omega)), if_neg (by omega), if_pos hf]
    · have := hotC_drop hf hs n (by omega) (fun k hk => he k (by omega))
      rw [he n (by omega) (fun e => c e.symm)]
      omega
theorem hotC_goes {σ s : zS} {f : Nat} : ∀ n : Nat, (∀ k : Nat, k < n → s 144 (344 + 10 * (k : Int)) = if k < f then σ 144 (344 + 10 * (k : Int)) else σ 144 (344 + 10 * ((k : Int) + 1))) → hotC s n ≤ hotC σ (n + 1)
  | 0, _ => Nat.zero_le _
  | n + 1, h => by
    have ih := hotC_goes n (fun k hk => h k (by omega))
    have hn := h n (by omega)
    show hotC s n + _ ≤ hotC σ (n + 1) + _
    by_cases c : n < f
    · have e : hotC s n = hotC σ n := hotC_eq n (fun k hk => by rw [h k (by omega), if_pos (by omega)])
      rw [hn, if_pos c, e]
      show _ ≤ hotC σ n + _ + _
      omega
    · rw [hn, if_neg c, show (n : Int) + 1 = ((n + 1 : Nat) : Int) by omega]
      omega
def tr1 (σ : zS) (f : Int) : zS := if σ 147 0 < σ 147 (121 + f) then zu σ 147 0 (σ 147 (121 + f)) else σ
theorem tr1_a {σ : zS} {f : Int} {a : Nat} {j : Int} (h : a ≠ 147 ∨ j ≠ 0) : tr1 σ f a j = σ a j := by
  unfold tr1
  split
  · exact zu_c h
  · rfl
theorem tr1_bx {σ : zS} {f : Int} {j : Int} : bxA (tr1 σ f) 144 j = bxA σ 144 j := by
  unfold bxA
  rw [tr1_a (Or.inl (by decide)), tr1_a (Or.inl (by decide)), tr1_a (Or.inl (by decide)), tr1_a (Or.inl (by decide))]
def trE (σ : zS) (f N : Int) : zS := zu (zu (gS2 σ f N 0) 144 0 (N - 1)) 144 4 (w32 (σ 144 4 + 1))
def trH (σ : zS) (f : Int) : zS := zu (zb (zb σ 144 (340 + 10 * f) (bxA σ 144 (344 + 10 * f))) 144 (344 + 10 * f) (-5, -5, -5, -5)) 144 (349 + 10 * f) (w32 (Int.tdiv (σ 144 (349 + 10 * f)) 2))
def trW (s : zS) (f : Int) : zS := zu s 147 (121 + f) (wgt (s 147 0) (costN s (bxA s 144 (340 + 10 * f))) (s 144 (349 + 10 * f)) (1 + rowsN s (bxA s 144 (340 + 10 * f))))
def trS (σ : zS) (f : Int) : zS := zu (trW (trH σ f) f) 144 5 (w32 (σ 144 5 + 1))
/-- what a turn of trimming gives: the region f is shrunk, or goes -/
def trT (σ : zS) (f N : Int) : zS := if σ 144 16 = 1 ∧ 0 ≤ σ 144 (344 + 10 * f) ∧ bArea (bxA σ 144 (344 + 10 * f)) < bArea (bxA σ 144 (340 + 10 * f)) then trS (tr1 σ f) f else trE (tr1 σ f) f N
theorem s_trims181 {g : zS → Option (Unit × zS)} {σ : zS} {f N : Nat} (hN : σ 144 0 = (N : Int)) (hf : f < N) (hN2 : N ≤ 239) : g_m_trims_L181 g (f : Int) σ = g (trE σ (f : Int) (N : Int)) := by
  unfold g_m_trims_L181 g_m_trims_L196
  rw [s_goes hf hN hN2]
  rw [Option.bind_some]
  try dsimp only
  have e : zu (gS2 σ (f : Int) (N : Int) 0) 144 0 ((N : Int) - 1) 144 4 = σ 144 4 := by
    rw [zu_i (by decide)]
    unfold gS2
    rw [if_neg (fun e => by omega), if_neg (fun e => by omega)]
  rw [e]
  rfl
theorem s_trims74 {g : zS → Option (Unit × zS)} {σ : zS} {f N : Nat} (hN : σ 144 0 = (N : Int)) (hf : f < N) (hN2 : N ≤ 239) : g_m_trims_L74 g (f : Int) (340 + 10 * (f : Int)) σ = g (if σ 144 16 = 1 ∧ 0 ≤ σ 144 (344 + 10 * (f : Int)) ∧ bArea (bxA σ 144 (344 + 10 * (f : Int))) < bArea (bxA σ 144 (340 + 10 * (f : Int))) then trS σ (f : Int) else trE σ (f : Int) (N : Int)) := by
  have l := l144
  unfold g_m_trims_L74
  rw [s_trims181 hN hf hN2]
  show (if σ 144 16 ≠ 1 then _ else _) = _
  by_cases c1 : σ 144 16 = 1
  · rw [if_neg (fun e => e c1), w32_id (x := 340 + 10 * (f : Int) + 4) (by omega) (by omega), w32_id (x := 340 + 10 * (f : Int) + 9) (by omega) (by omega), if_pos (by omega), show 340 + 10 * (f : Int) + 4 = 344 + 10 * (f : Int) by omega, show 340 + 10 * (f : Int) + 9 = 349 + 10 * (f : Int) by omega]
    show (if σ 144 (344 + 10 * (f : Int)) < 0 then _ else _) = _
    by_cases c2 : 0 ≤ σ 144 (344 + 10 * (f : Int))
    · rw [if_neg (by omega), s_area (by omega) (by omega) (by omega)]
      rw [Option.bind_some]
      try dsimp only
      rw [s_area (by omega) (by omega) (by omega)]
      rw [Option.bind_some]
      try dsimp only
      by_cases c3 : bArea (bxA σ 144 (344 + 10 * (f : Int))) < bArea (bxA σ 144 (340 + 10 * (f : Int)))
      · rw [if_neg (by omega), if_pos ⟨c1, c2, c3⟩, s_copies (by omega) (by omega) (by omega) (by omega) (by omega) (by omega)]
        rw [Option.bind_some]
        try dsimp only
        rw [s_sets (by omega) (by omega) (by omega)]
        rw [Option.bind_some]
        try dsimp only
        rw [if_pos (by omega), if_pos (by omega), zb_i (by omega), zb_i (by omega), s_weighs (by omega) (by omega)]
        rw [Option.bind_some]
        try dsimp only
        unfold g_m_trims_L196
        have e : ∀ v, zu (trH σ (f : Int)) 147 (121 + (f : Int)) v 144 5 = σ 144 5 := by
          intro v
          rw [zu_a (by decide)]
          unfold trH
          rw [zu_i (by omega), zb_i (by omega), zb_i (by omega)]
        show g (zu (trW (trH σ (f : Int)) (f : Int)) 144 5 (w32 (trW (trH σ (f : Int)) (f : Int) 144 5 + 1))) = _
        have e2 : trW (trH σ (f : Int)) (f : Int) 144 5 = σ 144 5 := e _
        rw [e2]
        rfl
      · rw [if_pos (by omega), if_neg (fun e => c3 e.2.2), s_trims181 hN hf hN2]
    · rw [if_pos (by omega), if_neg (fun e => c2 e.2.1)]
  · rw [if_pos c1, if_neg (fun e => c1 e.1)]
theorem s_trims30 {g : zS → Option (Unit × zS)} {σ : zS} {N : Nat} (hN : σ 144 0 = (N : Int)) (hN1 : 0 < N) (hN2 : N ≤ 239) : ∃ f, isLight σ N f ∧ g_m_trims_L30 g σ = g (trT σ (f : Int) (N : Int)) := by
  obtain ⟨f, hf, e⟩ := s_lightest hN hN1 hN2
  have hfN := hf.1
  refine ⟨f, hf, ?_⟩
  unfold g_m_trims_L30
  rw [e]
  rw [Option.bind_some]
  try dsimp only
  rw [s_region (by omega) (by omega)]
  rw [Option.bind_some]
  try dsimp only
  rw [w32_id (x := 121 + (f : Int)) (by omega) (by omega), if_pos (by omega)]
  have e2 : trT σ (f : Int) (N : Int) = (if tr1 σ (f : Int) 144 16 = 1 ∧ 0 ≤ tr1 σ (f : Int) 144 (344 + 10 * (f : Int)) ∧ bArea (bxA (tr1 σ (f : Int)) 144 (344 + 10 * (f : Int))) < bArea (bxA (tr1 σ (f : Int)) 144 (340 + 10 * (f : Int))) then trS (tr1 σ (f : Int)) (f : Int) else trE (tr1 σ (f : Int)) (f : Int) (N : Int)) := by
    rw [tr1_a (Or.inl (by decide)), tr1_a (Or.inl (by decide)), tr1_bx, tr1_bx]
    rfl
  rw [e2, ← s_trims74 (g := g) (σ := tr1 σ (f : Int)) (by rw [tr1_a (Or.inl (by decide))]; exact hN) hfN hN2]
  by_cases c : σ 147 0 < σ 147 (121 + (f : Int))
  · rw [if_neg (fun e => lCmp_gt.mp e c), if_pos (by omega)]
    unfold tr1
    rw [if_pos c]
  · rw [if_pos (lCmp_gt.mpr c)]
    unfold tr1
    rw [if_neg c]
theorem trH_a {σ : zS} {f : Int} {a : Nat} {j : Int} (h : a ≠ 144 ∨ j < 340 + 10 * f ∨ 350 + 10 * f ≤ j) : trH σ f a j = σ a j := by
  unfold trH
  rw [zu_c (by omega)]
  rcases h with h | h
  · rw [zb_a h, zb_a h]
  · rw [zb_i (by omega), zb_i (by omega)]
theorem trS_a {σ : zS} {f : Int} {a : Nat} {j : Int} (h1 : a ≠ 144 ∨ j ≠ 5) (h2 : a ≠ 147 ∨ j ≠ 121 + f) : trS σ f a j = trH σ f a j := by
  unfold trS trW
  rw [zu_c h1, zu_c h2]
theorem trS_bx {σ : zS} {f j : Int} (h : 5 < j) : bxA (trS σ f) 144 j = bxA (trH σ f) 144 j := by
  unfold bxA
  rw [trS_a (by omega) (Or.inl (by decide)), trS_a (by omega) (Or.inl (by decide)), trS_a (by omega) (Or.inl (by decide)), trS_a (by omega) (Or.inl (by decide))]
theorem trH_bx {σ : zS} {f : Int} : bxA (trH σ f) 144 (340 + 10 * f) = bxA σ 144 (344 + 10 * f) ∧ bxA (trH σ f) 144 (344 + 10 * f) = (-5, -5, -5, -5) := by
  unfold trH
  constructor
  · rw [zu_bxi (by omega), zb_bxi (by omega), zb_bx rfl]
  · rw [zu_bxi (by omega), zb_bx rfl]
theorem trH_bxo {σ : zS} {f j : Int} (h : j + 4 ≤ 340 + 10 * f ∨ 350 + 10 * f ≤ j) : bxA (trH σ f) 144 j = bxA σ 144 j := by
  unfold bxA
  rw [trH_a (by omega), trH_a (by omega), trH_a (by omega), trH_a (by omega)]
theorem rgA_trE {σ : zS} {f N k : Int} (hi : 0 ≤ f) (hN : N ≤ 239) (hk : 0 ≤ k) (hkN : k < N - 1) : rgA (trE σ f N) k = if k < f then rgA σ k else rgA σ (k + 1) := by
  rw [← rgA_gS2 hi hN hk hkN]
  unfold trE rgA
  generalize zu (gS2 σ f N 0) 144 0 (N - 1) = S
  rw [zu_bxi (j := 340 + 10 * k) (by omega), zu_bxi (j := 344 + 10 * k) (by omega), zu_i (j := 348 + 10 * k) (by omega), zu_i (j := 349 + 10 * k) (by omega), zu_a (by decide)]
theorem trE_a {σ : zS} {f N : Int} {a : Nat} {j : Int} (hf : 0 ≤ f) (h1 : a ≠ 144 ∨ (j ≠ 0 ∧ j ≠ 4 ∧ j < 340)) (h2 : a ≠ 147 ∨ j < 121) : trE σ f N a j = σ a j := by
  unfold trE
  rw [zu_c (by omega), zu_c (by omega)]
  unfold gS2
  rw [if_neg (fun e => by omega), if_neg (fun e => by omega)]
/-- a turn of trimming: fewer regions, or as many with one HOT less -/
theorem trT_ok {σ : zS} {f N : Nat} (hR : RI σ N) (hf : f < N) (hN : σ 144 0 = (N : Int)) (hN2 : N ≤ 239) : ∃ N', N' ≤ N ∧ RI (trT σ (f : Int) (N : Int)) N' ∧ trT σ (f : Int) (N : Int) 144 0 = (N' : Int) ∧ frR σ (trT σ (f : Int) (N : Int)) ∧ N' + hotC (trT σ (f : Int) (N : Int)) N' < N + hotC σ N := by
  have h1R : RI (tr1 σ (f : Int)) N := RI_of hR (fun k hk => ⟨tr1_bx, tr1_bx⟩)
  have h1N : tr1 σ (f : Int) 144 0 = (N : Int) := by rw [tr1_a (Or.inl (by decide))]; exact hN
  have h1H : hotC (tr1 σ (f : Int)) N = hotC σ N := hotC_eq N (fun k hk => tr1_a (Or.inl (by decide)))
  have h1F : frR σ (tr1 σ (f : Int)) := fun a j k1 k2 => tr1_a (by omega)
  unfold trT
  by_cases c : σ 144 16 = 1 ∧ 0 ≤ σ 144 (344 + 10 * (f : Int)) ∧ bArea (bxA σ 144 (344 + 10 * (f : Int))) < bArea (bxA σ 144 (340 + 10 * (f : Int)))
  · rw [if_pos c]
    refine ⟨N, Nat.le_refl _, ?_, ?_, ?_, ?_⟩
    · have hot : (bOk (bxA σ 144 (344 + 10 * (f : Int))) ∧ bSub (bxA σ 144 (344 + 10 * (f : Int))) (bxA σ 144 (340 + 10 * (f : Int)))) := by
        rcases (hR.1 f hf).2 with h | h
        · have h : σ 144 (344 + 10 * (f : Int)) < 0 := h
          omega
        · exact h
      have bxf : (rgA (trS (tr1 σ (f : Int)) (f : Int)) (f : Int)).1 = bxA σ 144 (344 + 10 * (f : Int)) := by
        show bxA _ 144 _ = _
        rw [trS_bx (by omega), trH_bx.1, tr1_bx]
      have bxo : ∀ k : Nat, k ≠ f → rgA (trS (tr1 σ (f : Int)) (f : Int)) (k : Int) = rgA σ (k : Int) := by
        intro k hk
        unfold rgA
        rw [trS_bx (by omega), trS_bx (by omega), trH_bxo (by omega), trH_bxo (by omega), tr1_bx, tr1_bx, trS_a (by omega) (Or.inl (by decide)), trS_a (by omega) (Or.inl (by decide)), trS_a (Or.inl (by decide)) (by omega), trH_a (by omega), trH_a (by omega), trH_a (Or.inl (by decide)), tr1_a (Or.inl (by decide)), tr1_a (Or.inl (by decide)), tr1_a (by omega)]
      refine ⟨fun k hk => ?_, fun k1 k2 hk1 hk2 => ?_⟩
      · by_cases hkf : k = f
        · subst hkf
          refine ⟨by rw [bxf]; exact hot.1, Or.inl ?_⟩
          show (bxA _ 144 _).1 < 0
          rw [trS_bx (by omega), trH_bx.2]
          decide
        · rw [bxo k hkf]; exact hR.1 k hk
      · by_cases h1 : k1 = f
        · subst h1
          rw [bxf, bxo k2 (by omega)]
          intro hm
          exact hR.2 k1 k2 hk1 hk2 (bMt_sub hot.2 ⟨Int.le_refl _, Int.le_refl _, Int.le_refl _, Int.le_refl _⟩ hm)
        · by_cases h2 : k2 = f
          · subst h2
            rw [bxf, bxo k1 (by omega)]
            intro hm
            exact hR.2 k1 k2 hk1 hk2 (bMt_sub ⟨Int.le_refl _, Int.le_refl _, Int.le_refl _, Int.le_refl _⟩ hot.2 hm)
          · rw [bxo k1 h1, bxo k2 h2]
            exact hR.2 k1 k2 hk1 hk2
    · rw [trS_a (by omega) (Or.inl (by decide)), trH_a (by omega)]; exact h1N
    · refine h1F.trans (fun a j k1 k2 => ?_)
      rw [trS_a (by omega) (by omega), trH_a (by omega)]
    · have hd := hotC_drop (σ := tr1 σ (f : Int)) (s := trS (tr1 σ (f : Int)) (f : Int)) (f := f) (by rw [tr1_a (Or.inl (by decide))]; exact c.2.1) (by
        have : (bxA (trS (tr1 σ (f : Int)) (f : Int)) 144 (344 + 10 * (f : Int))).1 = -5 := by rw [trS_bx (by omega), trH_bx.2]
        have e : (bxA (trS (tr1 σ (f : Int)) (f : Int)) 144 (344 + 10 * (f : Int))).1 = trS (tr1 σ (f : Int)) (f : Int) 144 (344 + 10 * (f : Int)) := rfl
        omega) N hf (fun k hk hkf => by rw [trS_a (by omega) (Or.inl (by decide)), trH_a (by omega)])
      omega
  · rw [if_neg c]
    have e0 : ∀ k : Nat, k < N - 1 → rgA (trE (tr1 σ (f : Int)) (f : Int) (N : Int)) (k : Int) = if k < f then rgA (tr1 σ (f : Int)) (k : Int) else rgA (tr1 σ (f : Int)) ((k + 1 : Nat) : Int) := by
      intro k hk
      rw [rgA_trE (by omega) (by omega) (by omega) (by omega)]
      by_cases h : k < f
      · rw [if_pos h, if_pos (by omega)]
      · rw [if_neg h, if_neg (by omega), show (k : Int) + 1 = ((k + 1 : Nat) : Int) by omega]
    refine ⟨N - 1, by omega, ⟨fun k hk => ?_, fun k1 k2 hk1 hk2 => ?_⟩, ?_, ?_, ?_⟩
    · rw [e0 k hk]
      split
      · exact h1R.1 k (by omega)
      · exact h1R.1 (k + 1) (by omega)
    · rw [e0 k1 (by omega), e0 k2 hk2]
      by_cases a1 : k1 < f
      · rw [if_pos a1]
        by_cases a2 : k2 < f
        · rw [if_pos a2]; exact h1R.2 k1 k2 hk1 (by omega)
        · rw [if_neg a2]; exact h1R.2 k1 (k2 + 1) (by omega) (by omega)
      · rw [if_neg a1, if_neg (by omega)]
        exact h1R.2 (k1 + 1) (k2 + 1) (by omega) (by omega)
    · unfold trE
      rw [zu_i (by decide), zu_e rfl]
      omega
    · refine h1F.trans (fun a j k1 k2 => ?_)
      exact trE_a (by omega) (by omega) (by omega)
    · have hg := hotC_goes (σ := tr1 σ (f : Int)) (s := trE (tr1 σ (f : Int)) (f : Int) (N : Int)) (f := f) (N - 1) (fun k hk => by
        have e1 := congrArg (fun r : Rg => r.2.1.1) (e0 k hk)
        have e2 : (rgA (trE (tr1 σ (f : Int)) (f : Int) (N : Int)) (k : Int)).2.1.1 = trE (tr1 σ (f : Int)) (f : Int) (N : Int) 144 (344 + 10 * (k : Int)) := rfl
        rw [← e2, e1]
        by_cases h : k < f
        · rw [if_pos h, if_pos h]; rfl
        · rw [if_neg h, if_neg h, show (k : Int) + 1 = ((k + 1 : Nat) : Int) by omega]; rfl)
      rw [show N - 1 + 1 = N by omega] at hg
      omega
theorem s_trims0 : ∀ (d n : Nat) (σ : zS) (N : Nat), N + hotC σ N ≤ d → d < n → RI σ N → σ 144 0 = (N : Int) → N ≤ 239 → 1 ≤ σ 144 13 → 1 ≤ σ 144 12 → ∃ s N', g_m_trims_L0 n σ = some ((), s) ∧ N' ≤ N ∧ RI s N' ∧ s 144 0 = (N' : Int) ∧ frR σ s ∧ (N' : Int) ≤ σ 144 13
  | _, 0, _, _, _, h, _, _, _, _, _ => absurd h (Nat.not_lt_zero _)
  | d, n + 1, σ, N, hd, hn, hR, hN, hN2, h13, h12 => by
    have stop : g_m_trims_L0 (n + 1) σ = if σ 144 13 < (N : Int) ∨ σ 144 12 < sumC σ N then g_m_trims_L30 (g_m_trims_L0 n) σ else some ((), σ) := by
      conv => lhs; unfold g_m_trims_L0
      simp only [hN]
      by_cases c1 : σ 144 13 < (N : Int)
      · rw [if_pos c1, if_pos (Or.inl c1)]
      · rw [if_neg c1, s_sizes hN hN2]
        rw [Option.bind_some]
        try dsimp only
        by_cases c2 : σ 144 12 < sumC σ N
        · rw [if_neg (by omega), if_pos (Or.inr c2)]
        · rw [if_pos (by omega), if_neg (by omega)]
    rw [stop]
    by_cases c : σ 144 13 < (N : Int) ∨ σ 144 12 < sumC σ N
    · rw [if_pos c]
      have hN1 : 0 < N := by
        rcases Nat.eq_zero_or_pos N with h0 | h0
        · subst h0
          have : sumC σ 0 = 0 := rfl
          omega
        · exact h0
      obtain ⟨f, hf, e⟩ := s_trims30 (g := g_m_trims_L0 n) hN hN1 hN2
      rw [e]
      obtain ⟨N1, k1, k2, k3, k4, k5⟩ := trT_ok hR hf.1 hN hN2
      have e13 : trT σ (f : Int) (N : Int) 144 13 = σ 144 13 := k4 144 13 (by omega) (Or.inl (by decide))
      have e12 : trT σ (f : Int) (N : Int) 144 12 = σ 144 12 := k4 144 12 (by omega) (Or.inl (by decide))
      cases d with
      | zero => omega
      | succ d =>
        obtain ⟨s, N', m1, m2, m3, m4, m5, m6⟩ := s_trims0 d n (trT σ (f : Int) (N : Int)) N1 (by omega) (by omega) k2 k3 (by omega) (by omega) (by omega)
        exact ⟨s, N', m1, by omega, m3, m4, k4.trans m5, by omega⟩
    · rw [if_neg c]
      exact ⟨σ, N, rfl, Nat.le_refl _, hR, hN, frR.refl σ, by omega⟩
theorem s_trims {σ : zS} {N : Nat} (hR : RI σ N) (hN : σ 144 0 = (N : Int)) (hN2 : N ≤ 239) (h13 : 1 ≤ σ 144 13) (h12 : 1 ≤ σ 144 12) : ∃ s N', g_m_trims σ = some ((), s) ∧ N' ≤ N ∧ RI s N' ∧ s 144 0 = (N' : Int) ∧ frR σ s ∧ (N' : Int) ≤ σ 144 13 := by
  have := hotC_le σ N
  exact s_trims0 (N + hotC σ N) zK σ N (Nat.le_refl _) (by show _ < 1000000; omega) hR hN hN2 h13 h12
