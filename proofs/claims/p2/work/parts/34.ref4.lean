/-! THE REFERENCE over the typed memory: rows of a box, weights, a region more, a region less -/
def rowsC (σ : zS) (b : Bx) : Nat → Int
  | 0 => 0
  | n + 1 => rowsC σ b n + (if σ 144 (20 + 3 * (n : Int)) = 1 ∧ bIn b (σ 144 (21 + 3 * (n : Int))) (σ 144 (22 + 3 * (n : Int))) then 1 else 0)
def rowsN (σ : zS) (b : Bx) : Int := rowsC σ b 60
theorem rowsC_bd (σ : zS) (b : Bx) : ∀ n : Nat, 0 ≤ rowsC σ b n ∧ rowsC σ b n ≤ n
  | 0 => ⟨Int.le_refl _, Int.le_refl _⟩
  | n + 1 => by
    have ih := rowsC_bd σ b n
    show 0 ≤ rowsC σ b n + _ ∧ rowsC σ b n + _ ≤ ((n + 1 : Nat) : Int)
    split <;> omega
theorem rowsN_bd (σ : zS) (b : Bx) : 0 ≤ rowsN σ b ∧ rowsN σ b ≤ 60 := rowsC_bd σ b 60
theorem rowsC_fr {σ s : zS} (h : ∀ j : Int, 20 ≤ j → j < 200 → s 144 j = σ 144 j) (b : Bx) : ∀ n : Nat, n ≤ 60 → rowsC s b n = rowsC σ b n
  | 0, _ => rfl
  | n + 1, hn => by
    show rowsC s b n + _ = rowsC σ b n + _
    rw [rowsC_fr h b n (by omega), h _ (by omega) (by omega), h _ (by omega) (by omega), h _ (by omega) (by omega)]
theorem rowsN_fr {σ s : zS} (h : ∀ j : Int, 20 ≤ j → j < 200 → s 144 j = σ 144 j) (b : Bx) : rowsN s b = rowsN σ b := rowsC_fr h b 60 (Nat.le_refl _)
theorem s_rowsIn5 {a : Nat} {i : Int} {σ : zS} {b : Bx} {R : Int} (hR : R = rowsC σ b 60) (hb : bxA σ a i = b) (h1 : 0 ≤ i) (h2 : i + 3 < zLI a) (h3 : zLI a ≤ 100000) : ∀ (d k n : Nat), k + d = 60 → d < n → g_m_rowsIn_L5 a n i (rowsC σ b k) (k : Int) σ = some (R, σ) := by
  intro d
  induction d with
  | zero =>
    intro k n hk hn
    obtain ⟨n, rfl⟩ : ∃ t, n = t + 1 := ⟨n - 1, by omega⟩
    have e : k = 60 := by omega
    unfold g_m_rowsIn_L5
    rw [if_pos (by omega), e, hR]
  | succ d IH =>
    intro k n hk hn
    obtain ⟨n, rfl⟩ : ∃ t, n = t + 1 := ⟨n - 1, by omega⟩
    have ih := IH (k + 1) n (by omega) (by omega)
    have bd := rowsC_bd σ b k
    have ek : ((k + 1 : Nat) : Int) = (k : Int) + 1 := by omega
    have ew : w32 ((k : Int) + 1) = (k : Int) + 1 := w32_id (by omega) (by omega)
    have e0 : w32 (rowsC σ b k + 0) = rowsC σ b k + 0 := w32_id (by omega) (by omega)
    have e1 : w32 (rowsC σ b k + 1) = rowsC σ b k + 1 := w32_id (by omega) (by omega)
    have ex : rowsC σ b (k + 1) = rowsC σ b k + (if σ 144 (20 + 3 * (k : Int)) = 1 ∧ bIn b (σ 144 (21 + 3 * (k : Int))) (σ 144 (22 + 3 * (k : Int))) then 1 else 0) := rfl
    rw [ek, ex] at ih
    clear ex
    unfold g_m_rowsIn_L5
    have hA : w32 (20 + 3 * (k : Int) + 1) = 20 + 3 * (k : Int) + 1 := w32_id (by omega) (by omega)
    have hB : w32 (20 + 3 * (k : Int) + 2) = 20 + 3 * (k : Int) + 2 := w32_id (by omega) (by omega)
    have hC : 0 ≤ 20 + 3 * (k : Int) + 1 ∧ 20 + 3 * (k : Int) + 1 < 2740 := by omega
    have hD : 0 ≤ 20 + 3 * (k : Int) + 2 ∧ 20 + 3 * (k : Int) + 2 < 2740 := by omega
    have hE : g_m_rowAt (k : Int) σ = some (20 + 3 * (k : Int), σ) := s_rowAt (by omega) (by omega)
    have hF : 20 + 3 * (k : Int) + 1 = 21 + 3 * (k : Int) := by omega
    have hG : 20 + 3 * (k : Int) + 2 = 22 + 3 * (k : Int) := by omega
    have hH : 0 ≤ 20 + 3 * (k : Int) ∧ 20 + 3 * (k : Int) < 2740 := by omega
    rw [if_neg (by omega), hE, Option.bind_some, if_pos hH]
    dsimp only
    by_cases c : σ 144 (20 + 3 * (k : Int)) = 1
    · rw [if_neg (fun e => e c), hE, Option.bind_some]
      dsimp only
      rw [hA, if_pos hC, hE, Option.bind_some]
      dsimp only
      rw [hB, if_pos hD, s_has h1 h2 h3, Option.bind_some, hb, hF, hG]
      by_cases c2 : bIn b (σ 144 (21 + 3 * (k : Int))) (σ 144 (22 + 3 * (k : Int)))
      · rw [if_pos ⟨c, c2⟩] at ih
        rw [if_pos c2, if_neg (show ¬ ((1 : Int) = 0) by decide)]
        unfold g_m_rowsIn_L64
        rw [e1, ew]
        exact ih
      · rw [if_neg (fun e => c2 e.2)] at ih
        rw [if_neg c2, if_pos (show (0 : Int) = 0 from rfl)]
        unfold g_m_rowsIn_L63 g_m_rowsIn_L64
        rw [e0, ew]
        exact ih
    · rw [if_neg (fun e => c e.1)] at ih
      rw [if_pos c]
      unfold g_m_rowsIn_L63 g_m_rowsIn_L64
      rw [e0, ew]
      exact ih
theorem s_rowsIn {a : Nat} {i : Int} {σ : zS} (h1 : 0 ≤ i) (h2 : i + 3 < zLI a) (h3 : zLI a ≤ 100000) : g_m_rowsIn a i σ = some (rowsN σ (bxA σ a i), σ) := s_rowsIn5 rfl rfl h1 h2 h3 60 0 zK rfl (by show 60 < 1000000; omega)
theorem l144 : zLI 144 = 2740 := rfl
theorem l147 : zLI 147 = 361 := rfl
theorem s_size {k : Int} {σ : zS} (h1 : 0 ≤ k) (h2 : k ≤ 239) : g_m_size k σ = some (1 + rowsN σ (bxA σ 144 (340 + 10 * k)), σ) := by
  have l := l144
  have bd := rowsN_bd σ (bxA σ 144 (340 + 10 * k))
  unfold g_m_size
  rw [s_region (by omega) (by omega), Option.bind_some]
  show (g_m_rowsIn 144 (340 + 10 * k) σ).bind _ = _
  rw [s_rowsIn (by omega) (by omega) (by omega), Option.bind_some]
  show some (w32 (1 + rowsN σ (bxA σ 144 (340 + 10 * k))), σ) = _
  rw [w32_id (by omega) (by omega)]
def costN (σ : zS) (b : Bx) : Int := w32 (σ 144 11 + rowsN σ b)
theorem s_cost {a : Nat} {i : Int} {σ : zS} (h1 : 0 ≤ i) (h2 : i + 3 < zLI a) (h3 : zLI a ≤ 100000) : g_m_cost a i σ = some (costN σ (bxA σ a i), σ) := by
  unfold g_m_cost
  rw [s_rowsIn h1 h2 h3]
  rfl
def wgt (lev cost hits size : Int) : Int := w64 (lev + (w64 (Int.tdiv (w64 ((w64 (1000 * cost)) * (w32 (1 + hits)))) size)))
theorem s_weighs {k : Int} {σ : zS} (h1 : 0 ≤ k) (h2 : k ≤ 239) : g_m_weighs k σ = some ((), zu σ 147 (121 + k) (wgt (σ 147 0) (costN σ (bxA σ 144 (340 + 10 * k))) (σ 144 (349 + 10 * k)) (1 + rowsN σ (bxA σ 144 (340 + 10 * k))))) := by
  have l := l144
  have bd := rowsN_bd σ (bxA σ 144 (340 + 10 * k))
  unfold g_m_weighs
  rw [s_region (by omega) (by omega)]
  simp only [Option.bind_some]
  rw [s_cost (by omega) (by omega) (by omega)]
  simp only [Option.bind_some]
  rw [s_region (by omega) (by omega)]
  simp only [Option.bind_some]
  rw [w32_id (x := 340 + 10 * k + 9) (by omega) (by omega), if_pos (by omega), s_size h1 h2]
  simp only [Option.bind_some]
  rw [if_neg (by omega), w32_id (x := 121 + k) (by omega) (by omega), if_pos (by omega), show 340 + 10 * k + 9 = 349 + 10 * k by omega]
  rfl
/-- a region more -/
def addsS (σ : zS) (k : Int) (b : Bx) : zS := zu (zu (zu (zu (zb (zb σ 144 (340 + 10 * k) b) 144 (344 + 10 * k) (-5, -5, -5, -5)) 144 (348 + 10 * k) (σ 144 1)) 144 (349 + 10 * k) 0) 144 1 (w32 (σ 144 1 + 1))) 144 0 (w32 (k + 1))
theorem s_adds {a : Nat} {i k : Int} {σ : zS} (hN : σ 144 0 = k) (hk : 0 ≤ k) (hk2 : k ≤ 239) (h1 : 0 ≤ i) (h2 : i + 3 < zLI a) (h3 : zLI a ≤ 100000) : g_m_adds a i σ = some (k, addsS σ k (bxA σ a i)) := by
  have l := l144
  unfold g_m_adds
  simp only [hN]
  rw [s_region (by omega) (by omega)]
  simp only [Option.bind_some]
  rw [s_copies h1 h2 h3 (by omega) (by omega) (by omega)]
  simp only [Option.bind_some]
  rw [s_region (by omega) (by omega)]
  simp only [Option.bind_some]
  rw [w32_id (x := 340 + 10 * k + 4) (by omega) (by omega), s_sets (by omega) (by omega) (by omega)]
  simp only [Option.bind_some]
  rw [s_region (by omega) (by omega)]
  simp only [Option.bind_some]
  rw [w32_id (x := 340 + 10 * k + 8) (by omega) (by omega), if_pos (by omega), s_region (by omega) (by omega)]
  simp only [Option.bind_some]
  rw [w32_id (x := 340 + 10 * k + 9) (by omega) (by omega), if_pos (by omega)]
  have e1 : zb (zb σ 144 (340 + 10 * k) (bxA σ a i)) 144 (340 + 10 * k + 4) (-5, -5, -5, -5) 144 1 = σ 144 1 := by rw [zb_i (by omega), zb_i (by omega)]
  rw [e1, zu_i (by omega), zu_i (by omega), e1, zu_i (by omega), zu_i (by omega), zu_i (by omega)]
  have e2 : zb (zb σ 144 (340 + 10 * k) (bxA σ a i)) 144 (340 + 10 * k + 4) (-5, -5, -5, -5) 144 0 = k := by rw [zb_i (by omega), zb_i (by omega), hN]
  rw [e2]
  unfold addsS
  rw [show 340 + 10 * k + 4 = 344 + 10 * k by omega, show 340 + 10 * k + 8 = 348 + 10 * k by omega, show 340 + 10 * k + 9 = 349 + 10 * k by omega]
/-- the regions from i on come one place forward, up to the k-th; of the k-th, e places -/
def gS2 (σ : zS) (i k e : Int) : zS := fun a j => if a = 144 ∧ 340 + 10 * i ≤ j ∧ j < 330 + 10 * k + e then σ 144 (j + 10) else if a = 147 ∧ 121 + i ≤ j ∧ j < 120 + k then σ 147 (j + 1) else σ a j
theorem gS2_step {σ : zS} {i k e : Int} (h1 : i + 1 ≤ k) (he : 0 ≤ e) (he2 : e < 10) : zu (gS2 σ i k e) 144 (330 + 10 * k + e) (gS2 σ i k e 144 (340 + 10 * k + e)) = gS2 σ i k (e + 1) := by
  funext a j
  unfold zu gS2
  by_cases ha : a = 144
  · subst ha
    by_cases hj : j = 330 + 10 * k + e
    · rw [if_pos ⟨rfl, hj⟩, if_neg (fun e => by omega), if_neg (fun e => by omega), if_pos ⟨rfl, by omega, by omega⟩]
      congr 1
      omega
    · rw [if_neg (fun e => hj e.2)]
      by_cases hc : 340 + 10 * i ≤ j ∧ j < 330 + 10 * k + e
      · rw [if_pos ⟨rfl, hc⟩, if_pos ⟨rfl, by omega, by omega⟩]
      · rw [if_neg (fun e => hc e.2), if_neg (fun e => absurd e.1 (by decide)), if_neg (fun e => hc ⟨e.2.1, by omega⟩)]
  · rw [if_neg (fun e => ha e.1), if_neg (fun e => ha e.1)]
    by_cases h7 : a = 147 ∧ 121 + i ≤ j ∧ j < 120 + k
    · rw [if_pos h7, if_neg (fun e => ha e.1)]
    · rw [if_neg h7, if_neg (fun e => ha e.1)]
theorem gS2_w {σ : zS} {i k : Int} (h1 : i + 1 ≤ k) : zu (gS2 σ i k 10) 147 (120 + k) (gS2 σ i k 10 147 (121 + k)) = gS2 σ i (k + 1) 0 := by
  funext a j
  unfold zu gS2
  by_cases ha : a = 147
  · subst ha
    by_cases hj : j = 120 + k
    · rw [if_pos ⟨rfl, hj⟩, if_neg (fun e => by omega), if_neg (fun e => by omega), if_neg (fun e => by omega), if_pos ⟨rfl, by omega, by omega⟩]
      congr 1
      omega
    · rw [if_neg (fun e => hj e.2), if_neg (fun e => absurd e.1 (by decide))]
      by_cases hc : 121 + i ≤ j ∧ j < 120 + k
      · rw [if_pos ⟨rfl, hc⟩, if_neg (fun e => absurd e.1 (by decide)), if_pos ⟨rfl, by omega, by omega⟩]
      · rw [if_neg (fun e => hc e.2), if_neg (fun e => absurd e.1 (by decide)), if_neg (fun e => hc ⟨e.2.1, by omega⟩)]
  · rw [if_neg (fun e => ha e.1)]
    by_cases h4 : a = 144
    · subst h4
      by_cases hc : 340 + 10 * i ≤ j ∧ j < 330 + 10 * k + 10
      · rw [if_pos ⟨rfl, hc⟩, if_pos ⟨rfl, by omega, by omega⟩]
      · rw [if_neg (fun e => hc e.2), if_neg (fun e => ha e.1), if_neg (fun e => hc ⟨e.2.1, by omega⟩), if_neg (fun e => ha e.1)]
    · rw [if_neg (fun e => h4 e.1), if_neg (fun e => ha e.1), if_neg (fun e => h4 e.1), if_neg (fun e => ha e.1)]
theorem s_goes16 {g : Int → zS → Option (Unit × zS)} {σ : zS} {i k : Int} (hi : 0 ≤ i) (h1 : i + 1 ≤ k) (hk : k ≤ 239) : ∀ (d e n : Nat), e + d = 10 → d < n → g_m_goes_L16 g n k (e : Int) (gS2 σ i k (e : Int)) = g (k + 1) (gS2 σ i (k + 1) 0)
  | _, _, 0, _, h => absurd h (Nat.not_lt_zero _)
  | 0, e, n + 1, he, _ => by
    have : e = 10 := by omega
    subst this
    unfold g_m_goes_L16
    rw [if_pos (by omega), w32_id (x := 121 + k) (by omega) (by omega), w32_id (x := 121 + k - 1) (by omega) (by omega), if_pos (by omega), if_pos (by omega), w32_id (x := k + 1) (by omega) (by omega)]
    show g (k + 1) (zu (gS2 σ i k 10) 147 (121 + k - 1) (gS2 σ i k 10 147 (121 + k))) = _
    rw [show 121 + k - 1 = 120 + k by omega, gS2_w h1]
  | d + 1, e, n + 1, he, hn => by
    have ih := s_goes16 (g := g) (σ := σ) hi h1 hk d (e + 1) n (by omega) (by omega)
    unfold g_m_goes_L16
    rw [if_neg (by omega), w32_id (x := k - 1) (by omega) (by omega), s_region (by omega) (by omega)]
    simp only [Option.bind_some]
    rw [s_region (by omega) (by omega)]
    simp only [Option.bind_some]
    rw [w32_id (x := 340 + 10 * k + (e : Int)) (by omega) (by omega), w32_id (x := 340 + 10 * (k - 1) + (e : Int)) (by omega) (by omega), if_pos (by omega), if_pos (by omega), w32_id (x := (e : Int) + 1) (by omega) (by omega), show 340 + 10 * (k - 1) + (e : Int) = 330 + 10 * k + (e : Int) by omega, gS2_step h1 (by omega) (by omega)]
    exact ih
theorem s_goes4 {σ : zS} {i : Int} {N : Nat} (hi : 0 ≤ i) (hN : σ 144 0 = (N : Int)) (hN2 : N ≤ 239) : ∀ (d k n : Nat), k + d = N → i + 1 ≤ (k : Int) → d < n → g_m_goes_L4 n (k : Int) (gS2 σ i (k : Int) 0) = some ((), zu (gS2 σ i (N : Int) 0) 144 0 ((N : Int) - 1))
  | _, _, 0, _, _, h => absurd h (Nat.not_lt_zero _)
  | d, k, n + 1, hk, hik, hn => by
    have e0 : gS2 σ i (k : Int) 0 144 0 = (N : Int) := by
      unfold gS2
      rw [if_neg (fun e => by omega), if_neg (fun e => by omega), hN]
    unfold g_m_goes_L4
    simp only [e0]
    cases d with
    | zero =>
      have : k = N := by omega
      subst this
      rw [if_pos (Int.le_refl _), w32_id (x := (k : Int) - 1) (by omega) (by omega)]
    | succ d =>
      rw [if_neg (by omega)]
      have e := s_goes16 (g := g_m_goes_L4 n) (σ := σ) hi hik (by omega) 10 0 zK rfl (by show 10 < 1000000; omega)
      have ih := s_goes4 hi hN hN2 d (k + 1) n (by omega) (by omega) (by omega)
      rw [show ((k + 1 : Nat) : Int) = (k : Int) + 1 by omega] at ih
      exact e.trans ih
theorem s_goes {σ : zS} {i N : Nat} (hi : i < N) (hN : σ 144 0 = (N : Int)) (hN2 : N ≤ 239) : g_m_goes (i : Int) σ = some ((), zu (gS2 σ (i : Int) (N : Int) 0) 144 0 ((N : Int) - 1)) := by
  unfold g_m_goes
  rw [w32_id (x := (i : Int) + 1) (by omega) (by omega)]
  have e0 : gS2 σ (i : Int) ((i + 1 : Nat) : Int) 0 = σ := by
    funext a j
    unfold gS2
    rw [if_neg (fun e => by omega), if_neg (fun e => by omega)]
  have := s_goes4 (σ := σ) (i := (i : Int)) (by omega) hN hN2 (N - (i + 1)) (i + 1) zK (by omega) (by omega) (by show _ < 1000000; omega)
  rw [e0, show ((i + 1 : Nat) : Int) = (i : Int) + 1 by omega] at this
  exact this
/-- a region: its box, its HOT, its number, its hits, its weight -/
abbrev Rg : Type := Bx × Bx × Int × Int × Int
def rgA (σ : zS) (k : Int) : Rg := (bxA σ 144 (340 + 10 * k), bxA σ 144 (344 + 10 * k), σ 144 (348 + 10 * k), σ 144 (349 + 10 * k), σ 147 (121 + k))
def rgs (σ : zS) (n : Nat) : List Rg := (List.range n).map (fun k : Nat => rgA σ (k : Int))
theorem rgs_get {σ : zS} {n k : Nat} (h : k < n) : (rgs σ n)[k]? = some (rgA σ (k : Int)) := by
  unfold rgs
  rw [List.getElem?_map, List.getElem?_range h]
  rfl
theorem rgs_len {σ : zS} {n : Nat} : (rgs σ n).length = n := by unfold rgs; rw [List.length_map, List.length_range]
theorem rgs_ext {σ : zS} {l : List Rg} {n : Nat} (hn : l.length = n) (h : ∀ (k : Nat) (hk : k < l.length), rgA σ (k : Int) = l[k]) : rgs σ n = l := by
  subst hn
  apply List.ext_getElem?
  intro k
  by_cases hk : k < l.length
  · rw [rgs_get hk, h k hk, List.getElem?_eq_getElem hk]
  · rw [List.getElem?_eq_none (by rw [rgs_len]; omega), List.getElem?_eq_none (by omega)]
theorem rgs_rbx {σ : zS} {n : Nat} : rbx σ n = (rgs σ n).map (fun r => r.1) := by
  unfold rbx rgs
  rw [List.map_map]
  rfl
theorem rgA_gS2 {σ : zS} {i N k : Int} (hi : 0 ≤ i) (hN : N ≤ 239) (hk : 0 ≤ k) (hkN : k < N - 1) : rgA (zu (gS2 σ i N 0) 144 0 (N - 1)) k = if k < i then rgA σ k else rgA σ (k + 1) := by
  by_cases h : k < i
  · rw [if_pos h]
    unfold rgA
    rw [zu_bxi (by omega), zu_bxi (by omega), zu_i (by omega), zu_i (by omega), zu_i (by omega)]
    unfold bxA gS2
    rw [if_neg (fun e => by omega), if_neg (fun e => by omega), if_neg (fun e => by omega), if_neg (fun e => by omega), if_neg (fun e => by omega), if_neg (fun e => by omega), if_neg (fun e => by omega), if_neg (fun e => by omega), if_neg (fun e => by omega), if_neg (fun e => by omega), if_neg (fun e => by omega), if_neg (fun e => by omega), if_neg (fun e => by omega), if_neg (fun e => by omega), if_neg (fun e => by omega), if_neg (fun e => by omega), if_neg (fun e => by omega), if_neg (fun e => by omega), if_neg (fun e => by omega), if_neg (fun e => by omega), if_neg (fun e => by omega), if_neg (fun e => by omega)]
  · rw [if_neg h]
    unfold rgA
    rw [zu_bxi (by omega), zu_bxi (by omega), zu_i (by omega), zu_i (by omega), zu_a (by decide)]
    unfold bxA gS2
    rw [if_pos ⟨rfl, by omega, by omega⟩, if_pos ⟨rfl, by omega, by omega⟩, if_pos ⟨rfl, by omega, by omega⟩, if_pos ⟨rfl, by omega, by omega⟩, if_pos ⟨rfl, by omega, by omega⟩, if_pos ⟨rfl, by omega, by omega⟩, if_pos ⟨rfl, by omega, by omega⟩, if_pos ⟨rfl, by omega, by omega⟩, if_pos ⟨rfl, by omega, by omega⟩, if_pos ⟨rfl, by omega, by omega⟩, if_neg (fun e => by omega), if_pos ⟨rfl, by omega, by omega⟩]
    have e : ∀ (a : Nat) (x y : Int), x = y → σ a x = σ a y := fun a x y h => by rw [h]
    rw [e 144 (340 + 10 * k + 10) (340 + 10 * (k + 1)) (by omega), e 144 (340 + 10 * k + 1 + 10) (340 + 10 * (k + 1) + 1) (by omega), e 144 (340 + 10 * k + 2 + 10) (340 + 10 * (k + 1) + 2) (by omega), e 144 (340 + 10 * k + 3 + 10) (340 + 10 * (k + 1) + 3) (by omega), e 144 (344 + 10 * k + 10) (344 + 10 * (k + 1)) (by omega), e 144 (344 + 10 * k + 1 + 10) (344 + 10 * (k + 1) + 1) (by omega), e 144 (344 + 10 * k + 2 + 10) (344 + 10 * (k + 1) + 2) (by omega), e 144 (344 + 10 * k + 3 + 10) (344 + 10 * (k + 1) + 3) (by omega), e 144 (348 + 10 * k + 10) (348 + 10 * (k + 1)) (by omega), e 144 (349 + 10 * k + 10) (349 + 10 * (k + 1)) (by omega), e 147 (121 + k + 1) (121 + (k + 1)) (by omega)]
theorem rgs_goes {σ : zS} {i N : Nat} (hi : i < N) (hN2 : N ≤ 239) : rgs (zu (gS2 σ (i : Int) (N : Int) 0) 144 0 ((N : Int) - 1)) (N - 1) = (rgs σ N).eraseIdx i := by
  refine rgs_ext (by rw [List.length_eraseIdx, rgs_len, if_pos hi]) (fun k hk => ?_)
  have hk' : k < N - 1 := by rw [List.length_eraseIdx, rgs_len, if_pos hi] at hk; exact hk
  rw [rgA_gS2 (by omega) (by omega) (by omega) (by omega), List.getElem_eraseIdx]
  by_cases h : k < i
  · rw [if_pos (by omega), dif_pos h]
    have := rgs_get (σ := σ) (n := N) (k := k) (by omega)
    rw [List.getElem?_eq_getElem (by rw [rgs_len]; omega)] at this
    exact (Option.some.inj this).symm
  · rw [if_neg (by omega), dif_neg h]
    have := rgs_get (σ := σ) (n := N) (k := k + 1) (by omega)
    rw [List.getElem?_eq_getElem (by rw [rgs_len]; omega)] at this
    rw [show (k : Int) + 1 = ((k + 1 : Nat) : Int) by omega]
    exact (Option.some.inj this).symm
