/-! THE REFERENCE over the typed memory: what is written onto the paper -/
/-- at most so many bytes more on the paper, nothing else changed -/
def sO (σ s : zS) (n : Int) : Prop := (∀ a j, a ≠ 163 → (a ≠ 143 ∨ j ≠ 29) → s a j = σ a j) ∧ σ 143 29 ≤ s 143 29 ∧ s 143 29 ≤ σ 143 29 + n
theorem sO.trans {σ s t : zS} {n m : Int} (h1 : sO σ s n) (h2 : sO s t m) : sO σ t (n + m) := by
  refine ⟨fun a j k1 k2 => (h2.1 a j k1 k2).trans (h1.1 a j k1 k2), ?_, ?_⟩
  · have a := h1.2.1; have b := h2.2.1; omega
  · have a := h1.2.2; have b := h2.2.2; omega
theorem sO.up {σ s : zS} {n m : Int} (h1 : sO σ s n) (h : n ≤ m) : sO σ s m := ⟨h1.1, h1.2.1, by have a := h1.2.2; omega⟩
theorem sO.refl (σ : zS) : sO σ σ 0 := ⟨fun _ _ _ _ => rfl, by omega, by omega⟩
theorem s_says {c : Int} {σ : zS} (h : 0 ≤ σ 143 29) (h2 : σ 143 29 < 40000) : ∃ u s, g_m_says c σ = some (u, s) ∧ sO σ s 1 := by
  unfold g_m_says
  show ∃ u s, (if 0 ≤ σ 143 29 ∧ σ 143 29 < 40000 then _ else _) = _ ∧ _
  rw [if_pos ⟨h, h2⟩]
  dsimp only
  rw [show zu σ 163 (σ 143 29) c 143 29 = σ 143 29 from zu_a (by decide)]
  rw [w32_id (x := σ 143 29 + 1) (by omega) (by omega)]
  refine ⟨(), _, rfl, fun a j k1 k2 => by rw [zu_c (by omega), zu_a k1], ?_, ?_⟩
  · rw [zu_e rfl]; omega
  · rw [zu_e rfl]; omega
theorem s_word2 {a L : Nat} (hL : zLI (a + 18) = (L : Int)) (hl : iShr (zLI (a + 18)) 0 = zLI (a + 18)) (hL2 : L ≤ 100) : ∀ (d k n : Nat) (σ : zS), k + d = L → d < n → 0 ≤ σ 143 29 → σ 143 29 + d ≤ 40000 → ∃ u s, g_m_saysWord_L2 a n (k : Int) σ = some (u, s) ∧ sO σ s (d : Int)
  | _, _, 0, _, _, h => absurd h (Nat.not_lt_zero _)
  | 0, k, n + 1, σ, hk, _ => by
    intro h1 h2
    unfold g_m_saysWord_L2
    rw [s_length hl]
    rw [Option.bind_some]
    dsimp only
    rw [if_pos (by omega)]
    exact ⟨(), σ, rfl, sO.refl σ⟩
  | d + 1, k, n + 1, σ, hk, hn => by
    intro h1 h2
    unfold g_m_saysWord_L2
    rw [s_length hl]
    rw [Option.bind_some]
    dsimp only
    rw [if_neg (by omega), s_charAt (by omega)]
    rw [Option.bind_some]
    dsimp only
    obtain ⟨u, s, e1, e2⟩ := s_says (c := charC a (k : Int)) h1 (by omega)
    have e3 := e2.2.1
    have e4 := e2.2.2
    rw [e1]
    rw [Option.bind_some]
    dsimp only
    rw [w32_id (x := (k : Int) + 1) (by omega) (by omega)]
    obtain ⟨u', s', g1, g2⟩ := s_word2 hL hl hL2 d (k + 1) n s (by omega) (by omega) (by omega) (by omega)
    rw [show ((k + 1 : Nat) : Int) = (k : Int) + 1 by omega] at g1
    exact ⟨u', s', g1, (e2.trans g2).up (by omega)⟩
theorem s_saysW {a L : Nat} (hL : zLI (a + 18) = (L : Int)) (hl : iShr (zLI (a + 18)) 0 = zLI (a + 18)) (hL2 : L ≤ 100) {σ : zS} (h1 : 0 ≤ σ 143 29) (h2 : σ 143 29 + L ≤ 40000) : ∃ u s, g_m_saysWord a σ = some (u, s) ∧ sO σ s (L : Int) :=
  s_word2 hL hl hL2 L 0 zK σ (by omega) (by show _ < 1000000; omega) h1 h2
theorem s_w16 {σ : zS} (h1 : 0 ≤ σ 143 29) (h2 : σ 143 29 + 5 ≤ 40000) : ∃ u s, g_m_saysWord 16 σ = some (u, s) ∧ sO σ s 5 := s_saysW (a := 16) (L := 5) rfl (by decide +kernel) (by decide) h1 h2
theorem s_w17 {σ : zS} (h1 : 0 ≤ σ 143 29) (h2 : σ 143 29 + 4 ≤ 40000) : ∃ u s, g_m_saysWord 17 σ = some (u, s) ∧ sO σ s 4 := s_saysW (a := 17) (L := 4) rfl (by decide +kernel) (by decide) h1 h2
theorem s_w18 {σ : zS} (h1 : 0 ≤ σ 143 29) (h2 : σ 143 29 + 4 ≤ 40000) : ∃ u s, g_m_saysWord 18 σ = some (u, s) ∧ sO σ s 4 := s_saysW (a := 18) (L := 4) rfl (by decide +kernel) (by decide) h1 h2
theorem grp236_236 {n : Nat} : g_grp236 (n + 1) 236 = g_m_saysNumber (g_grp236 n) := by
  funext x σ
  show (if 236 = 236 then g_m_saysNumber (g_grp236 n) x σ else none) = _
  rw [if_pos rfl]
theorem s_num0 {rec : Nat → Int → zS → Option (Unit × zS)} {x : Int} {σ : zS} (h1 : 0 ≤ σ 143 29) (h2 : σ 143 29 < 40000) : ∃ u s, g_m_saysNumber_L14 rec x σ = some (u, s) ∧ sO σ s 1 := by
  obtain ⟨u, s, e1, e2⟩ := s_says (c := w32 (48 + (Int.tmod x 10))) h1 h2
  unfold g_m_saysNumber_L14
  rw [e1]
  rw [Option.bind_some]
  dsimp only
  exact ⟨(), s, rfl, e2⟩
theorem s_numA : ∀ (m n : Nat) (x p : Int) (σ : zS), (10 : Int) ^ (m + 1) = p → x < p → x ≤ 2147483647 → m < n → 0 ≤ σ 143 29 → σ 143 29 + m + 1 ≤ 40000 → ∃ u s, g_grp236 n 236 x σ = some (u, s) ∧ sO σ s ((m : Int) + 1)
  | _, 0, _, _, _, _, _, _, h => absurd h (Nat.not_lt_zero _)
  | 0, n + 1, x, p, σ, hp, hx, hx2, _ => by
    intro h1 h2
    rw [grp236_236]
    unfold g_m_saysNumber
    have : p = 10 := by rw [← hp]; rfl
    rw [if_pos (by omega)]
    obtain ⟨u, s, e1, e2⟩ := s_num0 (rec := g_grp236 n) (x := x) h1 (by omega)
    exact ⟨u, s, e1, e2.up (by omega)⟩
  | m + 1, n + 1, x, p, σ, hp, hx, hx2, hn => by
    intro h1 h2
    rw [grp236_236]
    unfold g_m_saysNumber
    by_cases c : x ≤ 9
    · rw [if_pos c]
      obtain ⟨u, s, e1, e2⟩ := s_num0 (rec := g_grp236 n) (x := x) h1 (by omega)
      exact ⟨u, s, e1, e2.up (by omega)⟩
    · rw [if_neg c]
      have ed : Int.tdiv x 10 = x / 10 := Int.tdiv_eq_ediv_of_nonneg (by omega)
      rw [ed, w32_id (x := x / 10) (by omega) (by omega)]
      rw [Int.pow_succ] at hp
      generalize hq : (10 : Int) ^ (m + 1) = q at hp
      obtain ⟨u, s, e1, e2⟩ := s_numA m n (x / 10) q σ hq (by omega) (by omega) (by omega) h1 (by omega)
      have e3 := e2.2.1
      have e4 := e2.2.2
      rw [e1]
      rw [Option.bind_some]
      dsimp only
      obtain ⟨u', s', g1, g2⟩ := s_num0 (rec := g_grp236 n) (x := x) (σ := s) (by omega) (by omega)
      exact ⟨u', s', g1, (e2.trans g2).up (by omega)⟩
theorem s_num {x : Int} {σ : zS} (h1 : 0 ≤ σ 143 29) (h2 : σ 143 29 + 11 ≤ 40000) : ∃ u s, g_grp236 zR 236 x σ = some (u, s) ∧ sO σ s 11 := by
  rw [show zR = 499 + 1 from rfl, grp236_236]
  unfold g_m_saysNumber
  by_cases c : x ≤ 9
  · rw [if_pos c]
    obtain ⟨u, s, e1, e2⟩ := s_num0 (rec := g_grp236 499) (x := x) h1 (by omega)
    exact ⟨u, s, e1, e2.up (by omega)⟩
  · rw [if_neg c]
    have hb := w32_bd (Int.tdiv x 10)
    have hp : (10 : Int) ^ (9 + 1) = 10000000000 := rfl
    obtain ⟨u, s, e1, e2⟩ := s_numA 9 499 (w32 (Int.tdiv x 10)) 10000000000 σ hp (by omega) (by omega) (by omega) h1 (by omega)
    have e3 := e2.2.1
    have e4 := e2.2.2
    rw [e1]
    rw [Option.bind_some]
    dsimp only
    obtain ⟨u', s', g1, g2⟩ := s_num0 (rec := g_grp236 499) (x := x) (σ := s) (by omega) (by omega)
    exact ⟨u', s', g1, (e2.trans g2).up (by omega)⟩
theorem s_sbox {a : Nat} {i : Int} {σ : zS} (hi : 0 ≤ i) (hi2 : i + 3 < zLI a) (hi3 : zLI a ≤ 100000) (h1 : 0 ≤ σ 143 29) (h2 : σ 143 29 + 47 ≤ 40000) : ∃ u s, g_m_saysBox a i σ = some (u, s) ∧ sO σ s 47 := by
  unfold g_m_saysBox
  rw [if_pos (by omega)]
  dsimp only
  obtain ⟨u1, s1, e1, f1⟩ := s_num (x := σ a i) h1 (by omega)
  have k1 := f1.2.1
  have l1 := f1.2.2
  rw [e1]
  rw [Option.bind_some]
  dsimp only
  obtain ⟨u2, s2, e2, f2⟩ := s_says (c := 45) (σ := s1) (by omega) (by omega)
  have k2 := f2.2.1
  have l2 := f2.2.2
  rw [e2]
  rw [Option.bind_some]
  dsimp only
  rw [w32_id (x := i + 1) (by omega) (by omega), if_pos (by omega)]
  obtain ⟨u3, s3, e3, f3⟩ := s_num (x := s2 a (i + 1)) (σ := s2) (by omega) (by omega)
  have k3 := f3.2.1
  have l3 := f3.2.2
  rw [e3]
  rw [Option.bind_some]
  dsimp only
  obtain ⟨u4, s4, e4, f4⟩ := s_says (c := 44) (σ := s3) (by omega) (by omega)
  have k4 := f4.2.1
  have l4 := f4.2.2
  rw [e4]
  rw [Option.bind_some]
  dsimp only
  rw [w32_id (x := i + 2) (by omega) (by omega), if_pos (by omega)]
  obtain ⟨u5, s5, e5, f5⟩ := s_num (x := s4 a (i + 2)) (σ := s4) (by omega) (by omega)
  have k5 := f5.2.1
  have l5 := f5.2.2
  rw [e5]
  rw [Option.bind_some]
  dsimp only
  obtain ⟨u6, s6, e6, f6⟩ := s_says (c := 45) (σ := s5) (by omega) (by omega)
  have k6 := f6.2.1
  have l6 := f6.2.2
  rw [e6]
  rw [Option.bind_some]
  dsimp only
  rw [w32_id (x := i + 3) (by omega) (by omega), if_pos (by omega)]
  obtain ⟨u7, s7, e7, f7⟩ := s_num (x := s6 a (i + 3)) (σ := s6) (by omega) (by omega)
  rw [e7]
  rw [Option.bind_some]
  dsimp only
  exact ⟨(), s7, rfl, ((((((f1.trans f2).trans f3).trans f4).trans f5).trans f6).trans f7).up (by omega)⟩
theorem s_spell7 {N : Nat} (hN2 : N ≤ 12) : ∀ (d k n : Nat) (s : zS), k + d = N → d < n → s 144 0 = (N : Int) → 0 ≤ s 143 29 → s 143 29 ≤ 48 * k → ∃ v s', g_m_spell_L7 n (k : Int) s = some (v, s') ∧ sO s s' (48 * d)
  | _, _, 0, _, _, h => absurd h (Nat.not_lt_zero _)
  | 0, k, n + 1, s, hk, _ => by
    intro h0 h1 h2
    unfold g_m_spell_L7
    show ∃ v s', (if s 144 0 ≤ (k : Int) then _ else _) = _ ∧ _
    rw [if_pos (by omega)]
    exact ⟨_, s, rfl, sO.refl s⟩
  | d + 1, k, n + 1, s, hk, hn => by
    intro h0 h1 h2
    unfold g_m_spell_L7
    show ∃ v s', (if s 144 0 ≤ (k : Int) then _ else _) = _ ∧ _
    rw [if_neg (by omega)]
    have e0 : w32 ((k : Int) + 1) = ((k + 1 : Nat) : Int) := by rw [w32_id (by omega) (by omega)]; omega
    have main : ∀ (s1 : zS) (m : Int), sO s s1 m → m ≤ 1 → ∃ v s', g_m_spell_L27 (g_m_spell_L7 n) (k : Int) s1 = some (v, s') ∧ sO s s' (48 * ((d + 1 : Nat) : Int)) := by
      intro s1 m f1 hm
      have k1 := f1.2.1
      have l1 := f1.2.2
      unfold g_m_spell_L27
      rw [s_region (by omega) (by omega)]
      rw [Option.bind_some]
      dsimp only
      obtain ⟨u2, s2, e2, f2⟩ := s_sbox (a := 144) (i := 340 + 10 * (k : Int)) (σ := s1) (by omega) (by rw [l144]; omega) (by rw [l144]; omega) (by omega) (by omega)
      have k2 := f2.2.1
      have l2 := f2.2.2
      rw [e2]
      rw [Option.bind_some]
      dsimp only
      rw [e0]
      obtain ⟨v, s', g1, g2⟩ := s_spell7 hN2 d (k + 1) n s2 (by omega) (by omega) (by rw [f2.1 144 0 (by decide) (by decide), f1.1 144 0 (by decide) (by decide)]; exact h0) (by omega) (by omega)
      exact ⟨v, s', g1, ((f1.trans f2).trans g2).up (by omega)⟩
    by_cases c : (k : Int) ≤ 0
    · rw [if_pos c]
      exact main s 0 (sO.refl s) (by omega)
    · rw [if_neg c]
      obtain ⟨u1, s1, e1, f1⟩ := s_says (c := 59) (σ := s) (by omega) (by omega)
      rw [e1]
      rw [Option.bind_some]
      dsimp only
      exact main s1 1 f1 (by omega)
theorem MI_sO {σ s : zS} (h : MI σ) (f : ∀ a j, a ≠ 163 → (a ≠ 143 ∨ j ≠ 29) → s a j = σ a j) (h1 : 0 ≤ s 143 29 ∧ s 143 29 ≤ 40000) : MI s ∧ frC σ s :=
  ⟨MI_pg h (fun a j hh => f a j (by omega) (by omega)) h1 (by rw [f 143 32 (by decide) (by decide)]; exact h.2.2.1.2.2.2.1), fun a j hh => f a j (by omega) (by omega)⟩
theorem m_spell {σ : zS} (h : MI σ) : ∃ v s, g_m_spell σ = some (v, s) ∧ MI s ∧ frC σ s := by
  obtain ⟨N, hN2, hN, -⟩ := h.1
  unfold g_m_spell
  dsimp only
  have q29 : zu σ 143 29 0 143 29 = 0 := zu_e rfl
  obtain ⟨v, s, e1, e2⟩ := s_spell7 hN2 N 0 zK (zu σ 143 29 0) (by omega) (by show _ < 1000000; omega) (by rw [zu_a (by decide)]; exact hN) (by omega) (by omega)
  have k1 := e2.2.1
  have l1 := e2.2.2
  obtain ⟨m1, m2⟩ := MI_sO h (s := s) (fun a j k1 k2 => by rw [e2.1 a j k1 k2, zu_c (by omega)]) (by omega)
  exact ⟨v, s, e1, m1, m2⟩
theorem s_exp152 {M : Nat} (hM : M ≤ 200) : ∀ (d k n : Nat) (s : zS) (x : Int), k + d = M → d < n → s 143 10 = (M : Int) → 0 ≤ s 143 29 → s 143 29 ≤ 2000 + 64 * k → ∃ v s', g_m_explain_L152 n x (k : Int) s = some (v, s') ∧ sO s s' (64 * d + 15)
  | _, _, 0, _, _, _, h => absurd h (Nat.not_lt_zero _)
  | 0, k, n + 1, s, x, hk, _ => by
    intro h10 h1 h2
    unfold g_m_explain_L152
    show ∃ v s', (if s 143 10 ≤ (k : Int) then _ else _) = _ ∧ _
    rw [if_pos (by omega)]
    obtain ⟨u1, s1, e1, f1⟩ := s_w18 (σ := s) (by omega) (by omega)
    have k1 := f1.2.1
    have l1 := f1.2.2
    rw [e1]
    rw [Option.bind_some]
    dsimp only
    obtain ⟨u2, s2, e2, f2⟩ := s_num (x := x) (σ := s1) (by omega) (by omega)
    rw [e2]
    rw [Option.bind_some]
    dsimp only
    exact ⟨_, s2, rfl, (f1.trans f2).up (by omega)⟩
  | d + 1, k, n + 1, s, x, hk, hn => by
    intro h10 h1 h2
    unfold g_m_explain_L152
    show ∃ v s', (if s 143 10 ≤ (k : Int) then _ else _) = _ ∧ _
    rw [if_neg (by omega)]
    obtain ⟨u1, s1, e1, f1⟩ := s_w17 (σ := s) (by omega) (by omega)
    have k1 := f1.2.1
    have l1 := f1.2.2
    rw [e1]
    rw [Option.bind_some]
    dsimp only
    rw [w32_id (x := 4 * (k : Int)) (by omega) (by omega)]
    obtain ⟨u2, s2, e2, f2⟩ := s_sbox (a := 150) (i := 4 * (k : Int)) (σ := s1) (by omega) (by rw [l150]; omega) (by rw [l150]; omega) (by omega) (by omega)
    have k2 := f2.2.1
    have l2 := f2.2.2
    rw [e2]
    rw [Option.bind_some]
    dsimp only
    obtain ⟨u3, s3, e3, f3⟩ := s_says (c := 32) (σ := s2) (by omega) (by omega)
    have k3 := f3.2.1
    have l3 := f3.2.2
    rw [e3]
    rw [Option.bind_some]
    dsimp only
    rw [s_cost (a := 150) (by omega) (by rw [l150]; omega) (by rw [l150]; omega)]
    rw [Option.bind_some]
    dsimp only
    obtain ⟨u4, s4, e4, f4⟩ := s_num (x := costN s3 (bxA s3 150 (4 * (k : Int)))) (σ := s3) (by omega) (by omega)
    have k4 := f4.2.1
    have l4 := f4.2.2
    rw [e4]
    rw [Option.bind_some]
    dsimp only
    rw [s_cost (a := 150) (by omega) (by rw [l150]; omega) (by rw [l150]; omega)]
    rw [Option.bind_some]
    dsimp only
    obtain ⟨u5, s5, e5, f5⟩ := s_says (c := 59) (σ := s4) (by omega) (by omega)
    have k5 := f5.2.1
    have l5 := f5.2.2
    rw [e5]
    rw [Option.bind_some]
    dsimp only
    rw [w32_id (x := (k : Int) + 1) (by omega) (by omega)]
    have f := (((f1.trans f2).trans f3).trans f4).trans f5
    obtain ⟨v, s', g1, g2⟩ := s_exp152 hM d (k + 1) n s5 _ (by omega) (by omega) (by rw [f.1 143 10 (by decide) (by decide)]; exact h10) (by omega) (by omega)
    rw [show ((k + 1 : Nat) : Int) = (k : Int) + 1 by omega] at g1
    exact ⟨v, s', g1, (f.trans g2).up (by omega)⟩
/-- as sO, the box that is common aside -/
def sP (σ s : zS) (n : Int) : Prop := (∀ a j, a ≠ 163 → a ≠ 153 → (a ≠ 143 ∨ j ≠ 29) → s a j = σ a j) ∧ σ 143 29 ≤ s 143 29 ∧ s 143 29 ≤ σ 143 29 + n
theorem sP.trans {σ s t : zS} {n m : Int} (h1 : sP σ s n) (h2 : sP s t m) : sP σ t (n + m) := by
  refine ⟨fun a j k1 k2 k3 => (h2.1 a j k1 k2 k3).trans (h1.1 a j k1 k2 k3), ?_, ?_⟩
  · have a := h1.2.1; have b := h2.2.1; omega
  · have a := h1.2.2; have b := h2.2.2; omega
theorem sP.up {σ s : zS} {n m : Int} (h1 : sP σ s n) (h : n ≤ m) : sP σ s m := ⟨h1.1, h1.2.1, by have a := h1.2.2; omega⟩
theorem sO.p {σ s : zS} {n : Int} (h : sO σ s n) : sP σ s n := ⟨fun a j k1 _ k3 => h.1 a j k1 k3, h.2⟩
theorem s_exp39 {M N : Nat} (hM : M ≤ 200) (hN2 : N ≤ 12) : ∀ (d k n : Nat) (s : zS), k + d = N → d < n → s 144 0 = (N : Int) → s 143 10 = (M : Int) → 0 ≤ s 143 29 → s 143 29 ≤ 70 * k → ∃ v s', g_m_explain_L39 n (k : Int) s = some (v, s') ∧ sP s s' (70 * d + 64 * M + 15)
  | _, _, 0, _, _, h => absurd h (Nat.not_lt_zero _)
  | 0, k, n + 1, s, hk, _ => by
    intro h0 h10 h1 h2
    unfold g_m_explain_L39
    show ∃ v s', (if s 144 0 ≤ (k : Int) then _ else _) = _ ∧ _
    rw [if_pos (by omega)]
    obtain ⟨v, s', g1, g2⟩ := s_exp152 hM M 0 zK s 0 (by omega) (by show _ < 1000000; omega) h10 h1 (by omega)
    exact ⟨v, s', g1, g2.p.up (by omega)⟩
  | d + 1, k, n + 1, s, hk, hn => by
    intro h0 h10 h1 h2
    unfold g_m_explain_L39
    show ∃ v s', (if s 144 0 ≤ (k : Int) then _ else _) = _ ∧ _
    rw [if_neg (by omega)]
    rw [s_region (by omega) (by omega)]
    rw [Option.bind_some]
    dsimp only
    rw [s_doMeet (by omega) (by rw [l144]; omega) (by rw [l144]; omega) (by omega) (by rw [l152]; omega) (by rw [l152]; omega)]
    rw [Option.bind_some]
    dsimp only
    unfold g_m_explain_L140
    have e0 : w32 ((k : Int) + 1) = ((k + 1 : Nat) : Int) := by rw [w32_id (by omega) (by omega)]; omega
    by_cases c : bMt (bxA s 144 (340 + 10 * (k : Int))) (bxA s 152 0)
    · rw [if_pos c, if_pos (by decide)]
      obtain ⟨u1, s1, e1, f1⟩ := s_w16 (σ := s) (by omega) (by omega)
      have k1 := f1.2.1
      have l1 := f1.2.2
      rw [e1]
      rw [Option.bind_some]
      dsimp only
      rw [s_region (by omega) (by omega)]
      rw [Option.bind_some]
      dsimp only
      rw [w32_id (x := 340 + 10 * (k : Int) + 8) (by omega) (by omega), if_pos (by omega)]
      obtain ⟨u2, s2, e2, f2⟩ := s_num (x := s1 144 (340 + 10 * (k : Int) + 8)) (σ := s1) (by omega) (by omega)
      have k2 := f2.2.1
      have l2 := f2.2.2
      rw [e2]
      rw [Option.bind_some]
      dsimp only
      obtain ⟨u3, s3, e3, f3⟩ := s_says (c := 32) (σ := s2) (by omega) (by omega)
      have k3 := f3.2.1
      have l3 := f3.2.2
      rw [e3]
      rw [Option.bind_some]
      dsimp only
      rw [s_region (by omega) (by omega)]
      rw [Option.bind_some]
      dsimp only
      rw [s_commons (by omega) (by rw [l144]; omega) (by rw [l144]; omega) (by omega) (by rw [l152]; omega) (by rw [l152]; omega) (by omega) (by rw [l153]; omega) (by rw [l153]; omega)]
      rw [Option.bind_some]
      dsimp only
      generalize hs4 : zb s3 153 0 (bCom (bxA s3 144 (340 + 10 * (k : Int))) (bxA s3 152 0)) = s4
      have f4 : sP s3 s4 0 := by
        refine ⟨fun a j _ k2 _ => by rw [← hs4, zb_a k2], ?_, ?_⟩
        · rw [← hs4, zb_a (by decide)]; omega
        · rw [← hs4, zb_a (by decide)]; omega
      have k4 := f4.2.1
      have l4 := f4.2.2
      obtain ⟨u5, s5, e5, f5⟩ := s_sbox (a := 153) (i := 0) (σ := s4) (by omega) (by rw [l153]; omega) (by rw [l153]; omega) (by omega) (by omega)
      have k5 := f5.2.1
      have l5 := f5.2.2
      rw [e5]
      rw [Option.bind_some]
      dsimp only
      obtain ⟨u6, s6, e6, f6⟩ := s_says (c := 59) (σ := s5) (by omega) (by omega)
      have k6 := f6.2.1
      have l6 := f6.2.2
      rw [e6]
      rw [Option.bind_some]
      dsimp only
      rw [e0]
      have f := (((((f1.trans f2).trans f3).p.trans f4).trans f5.p).trans f6.p)
      obtain ⟨v, s', g1, g2⟩ := s_exp39 hM hN2 d (k + 1) n s6 (by omega) (by omega) (by rw [f.1 144 0 (by decide) (by decide) (by decide)]; exact h0) (by rw [f.1 143 10 (by decide) (by decide) (by decide)]; exact h10) (by omega) (by omega)
      exact ⟨v, s', g1, (f.trans g2).up (by omega)⟩
    · rw [if_neg c, if_neg (by decide), e0]
      obtain ⟨v, s', g1, g2⟩ := s_exp39 hM hN2 d (k + 1) n s (by omega) (by omega) h0 h10 h1 (by omega)
      exact ⟨v, s', g1, g2.up (by omega)⟩
theorem m_explain {x0 x1 y0 y1 : Int} {σ : zS} (h : MI σ) : ∃ v s, g_m_explain x0 x1 y0 y1 σ = some (v, s) ∧ MI s ∧ frC σ s := by
  unfold g_m_explain
  by_cases c : bOk (x0, x1, y0, y1)
  · rw [s_isBox_t c]
    rw [Option.bind_some]
    dsimp only
    rw [if_pos (by decide), s_sets (by omega) (by rw [l152]; omega) (by rw [l152]; omega)]
    rw [Option.bind_some]
    dsimp only
    generalize hs0 : zb σ 152 0 (x0, x1, y0, y1) = s0'
    have q0 : ∀ a j, a ≠ 152 → s0' a j = σ a j := fun a j k1 => by rw [← hs0, zb_a k1]
    obtain ⟨s1, M, N, e1, e2, e3, e4, e5, e6⟩ := s_missM (σ := s0') c (by rw [← hs0]; exact zb_bx rfl) (NI_fr h.1 (fun j _ => q0 144 j (by decide)))
    rw [e1]
    rw [Option.bind_some]
    dsimp only
    have q1 : ∀ a j, a ≠ 150 → a ≠ 151 → (a ≠ 143 ∨ j ≠ 10) → a ≠ 152 → s1 a j = σ a j := fun a j k1 k2 k3 k4 => (e2 a j k1 k2 k3).trans (q0 a j k4)
    have q29 : zu s1 143 29 0 143 29 = 0 := zu_e rfl
    obtain ⟨v, s', g1, g2⟩ := s_exp39 (M := M) (N := N) (by omega) e6 N 0 zK (zu s1 143 29 0) (by omega) (by show _ < 1000000; omega) (by rw [zu_a (by decide), e2 144 0 (by decide) (by decide) (by decide)]; exact e5) (by rw [zu_i (by decide)]; exact e3) (by omega) (by omega)
    have k1 := g2.2.1
    have l1 := g2.2.2
    have q2 : ∀ a j, a ≠ 150 → a ≠ 151 → (a ≠ 143 ∨ (j ≠ 10 ∧ j ≠ 29)) → a ≠ 152 → a ≠ 163 → a ≠ 153 → s' a j = σ a j := fun a j k1 k2 k3 k4 k5 k6 => by
      rw [g2.1 a j k5 k6 (by omega), zu_c (by omega), q1 a j k1 k2 (by omega) k4]
    refine ⟨v, s', g1, MI_pg h (fun a j hh => q2 a j (by omega) (by omega) (by omega) (by omega) (by omega) (by omega)) (by omega) ?_, fun a j hh => q2 a j (by omega) (by omega) (by omega) (by omega) (by omega) (by omega)⟩
    rw [q2 143 32 (by decide) (by decide) (by omega) (by decide) (by decide) (by decide)]
    exact h.2.2.1.2.2.2.1
  · rw [s_isBox_f c]
    rw [Option.bind_some]
    dsimp only
    rw [if_neg (by decide)]
    exact MI_sam h _
theorem m_paper {x : Int} {σ : zS} (h : MI σ) : ∃ c, g_m_paper x σ = some (c, σ) := by
  have h29 := h.2.2.1.2.2.1
  unfold g_m_paper
  show ∃ c, (g_m_isIn x 0 (w32 (σ 143 29 - 1)) σ).bind _ = _
  rw [w32_id (x := σ 143 29 - 1) (by omega) (by omega)]
  by_cases c : 0 ≤ x ∧ x ≤ σ 143 29 - 1
  · rw [s_isIn_t c.1 c.2]
    rw [Option.bind_some]
    dsimp only
    rw [if_neg (by decide), if_pos (by omega)]
    exact ⟨_, rfl⟩
  · rw [s_isIn_f (by omega)]
    rw [Option.bind_some]
    dsimp only
    rw [if_pos rfl]
    exact ⟨_, rfl⟩
