/-! BOTH SIDES: the rows, how many boxes are traced and watched, the image of these -/
def inS (σ : zS) (m : Nat) (r : Nat) : Bool := decide (r < 60 ∧ σ m (20 + 3 * (r : Int)) = 1)
/-- the class's store at c tells the rows that m and mw tell -/
def RW (σ : zS) (c m mw : Nat) : Prop := ST σ c (inS σ m) ∧ ∀ r : Nat, r < 60 → (σ m (20 + 3 * (r : Int)) = 0 ∨ σ m (20 + 3 * (r : Int)) = 1) ∧ σ (c + 1) (r : Int) = σ m (21 + 3 * (r : Int)) ∧ σ (c + 2) (r : Int) = σ m (22 + 3 * (r : Int)) ∧ σ (c + 3) (r : Int) = σ mw (1 + (r : Int)) ∧ okL (σ mw (1 + (r : Int)))
/-- the boxes of the trace -/
def TR (σ : zS) (c m : Nat) : Prop := ∀ t : Nat, t < 10 → (t : Int) < σ m 9 → bOk (bxA σ m (260 + 4 * (t : Int))) ∧ σ (c + 23) (t : Int) = enc (bxA σ m (260 + 4 * (t : Int)))
/-- the watches -/
def WT (σ : zS) (c m : Nat) : Prop := ∀ k : Nat, k < 6 → (k : Int) < σ m 10 → bOk (bxA σ m (301 + 6 * (k : Int))) ∧ (0 ≤ σ m (300 + 6 * (k : Int)) ∧ σ m (300 + 6 * (k : Int)) ≤ 6) ∧ (-2147483648 ≤ σ m (305 + 6 * (k : Int)) ∧ σ m (305 + 6 * (k : Int)) < 2147483648) ∧ σ (c + 25) (k : Int) = σ m (300 + 6 * (k : Int)) ∧ σ (c + 26) (k : Int) = enc (bxA σ m (301 + 6 * (k : Int))) ∧ σ (c + 27) (k : Int) = σ m (305 + 6 * (k : Int))
def BK (σ : zS) (c m mw : Nat) : Prop := RW σ c m mw ∧ σ (c + 22) 1 = σ m 9 ∧ σ (c + 24) 5 = σ m 10 ∧ TR σ c m ∧ WT σ c m
theorem TR_mv {σ s : zS} {c c' m m' : Nat} (B : TR σ c m) (e : ∀ t : Nat, t < 10 → s (c' + 23) (t : Int) = σ (c + 23) (t : Int)) (em : ∀ j : Int, (j = 9 ∨ (260 ≤ j ∧ j < 300)) → s m' j = σ m j) : TR s c' m' := fun t ht h => by
  rw [em 9 (Or.inl rfl)] at h
  have hb : bxA s m' (260 + 4 * (t : Int)) = bxA σ m (260 + 4 * (t : Int)) := by
    unfold bxA
    rw [em _ (by omega), em _ (by omega), em _ (by omega), em _ (by omega)]
  rw [hb, e t ht]
  exact B t ht h
theorem WT_mv {σ s : zS} {c c' m m' : Nat} (B : WT σ c m) (e : ∀ k : Nat, 25 ≤ k → k ≤ 27 → ∀ j : Nat, j < 6 → s (c' + k) (j : Int) = σ (c + k) (j : Int)) (em : ∀ j : Int, (j = 10 ∨ (300 ≤ j ∧ j < 340)) → s m' j = σ m j) : WT s c' m' := fun k hk h => by
  rw [em 10 (Or.inl rfl)] at h
  have hb : bxA s m' (301 + 6 * (k : Int)) = bxA σ m (301 + 6 * (k : Int)) := by
    unfold bxA
    rw [em _ (by omega), em _ (by omega), em _ (by omega), em _ (by omega)]
  rw [hb, em _ (by omega), em _ (by omega), e 25 (by omega) (by omega) k hk, e 26 (by omega) (by omega) k hk, e 27 (by omega) (by omega) k hk]
  exact B k hk h
def Rel (σ : zS) : Prop := BK σ 41 144 147 ∧ (σ 39 2 ≠ 0 ↔ σ 143 6 ≠ 0) ∧ (σ 143 6 ≠ 0 → BK σ 74 145 148)
theorem RW_mv {σ s : zS} {c c' m m' mw mw' : Nat} (B : RW σ c m mw) (hc : 0 ≤ σ c 4 ∧ σ c 4 ≤ 60) (e4 : s c' 4 = σ c 4) (e : ∀ k : Nat, 1 ≤ k → k ≤ 4 → ∀ j : Nat, j < 60 → s (c' + k) (j : Int) = σ (c + k) (j : Int)) (e2 : ∀ k : Nat, 5 ≤ k → k ≤ 6 → ∀ j : Nat, j ≤ 32 → s (c' + k) (j : Int) = σ (c + k) (j : Int)) (em : ∀ j : Int, (20 ≤ j ∧ j < 200) → s m' j = σ m j) (ew : ∀ j : Int, 1 ≤ j → j < 61 → s mw' j = σ mw j) : RW s c' m' mw' := by
  obtain ⟨⟨b1, b2, b3, b5⟩, hr⟩ := B
  have eI : inS s m' = inS σ m := by
    funext r
    unfold inS
    by_cases c : r < 60
    · rw [em _ (by omega)]
    · rw [decide_eq_false (fun h => c h.1), decide_eq_false (fun h => c h.1)]
  have eo : ordL s c' = ordL σ c := by
    show sg (s (c' + 4)) 0 (s c' 4).toNat = sg (σ (c + 4)) 0 (σ c 4).toNat
    rw [e4]
    refine sg_ext _ 0 0 (fun j hj => ?_)
    rw [show (0 : Int) + (j : Int) = (j : Int) by omega]
    exact e 4 (by omega) (by omega) j (by omega)
  refine ⟨⟨?_, ?_, ?_, ?_⟩, fun r hr6 => ?_⟩
  · rw [eI]; exact b1
  · rw [eI]
    intro i q hi hq
    obtain ⟨g1, g2⟩ := b2 i q hi hq
    rw [e2 5 (by omega) (by omega) i hi, e2 6 (by omega) (by omega) i hi]
    by_cases cq : q < 60
    · rw [e 1 (by omega) (by omega) q cq, e 2 (by omega) (by omega) q cq]
      exact ⟨g1, g2⟩
    · have hI : inS σ m q = false := by
        unfold inS
        exact decide_eq_false (fun h => cq h.1)
      rw [hI, Bool.false_and] at g1 g2
      rw [g1, g2, hI, Bool.false_and, Bool.false_and]
      exact ⟨rfl, rfl⟩
  · rw [eo]
    have mem : ∀ a, a ∈ ordL σ c → ∃ r : Nat, a = (r : Int) ∧ r < 60 := fun a ha => by
      obtain ⟨r, h1, h2⟩ := (b5 a).mp ha
      exact ⟨r, h1, b1 r h2⟩
    refine List.Pairwise.imp_of_mem (fun {a b} ha hb h => ?_) b3
    obtain ⟨r1, rfl, q1⟩ := mem a ha
    obtain ⟨r2, rfl, q2⟩ := mem b hb
    show (s (c' + 1) (r1 : Int) * 32 + s (c' + 2) (r1 : Int)) * 60 + (r1 : Int) < (s (c' + 1) (r2 : Int) * 32 + s (c' + 2) (r2 : Int)) * 60 + (r2 : Int)
    rw [e 1 (by omega) (by omega) r1 q1, e 2 (by omega) (by omega) r1 q1, e 1 (by omega) (by omega) r2 q2, e 2 (by omega) (by omega) r2 q2]
    exact h
  · rw [eo, eI]; exact b5
  · obtain ⟨g1, g2, g3, g4, g5⟩ := hr r hr6
    rw [em _ (by omega), em _ (by omega), em _ (by omega), ew _ (by omega) (by omega), e 1 (by omega) (by omega) r hr6, e 2 (by omega) (by omega) r hr6, e 3 (by omega) (by omega) r hr6]
    exact ⟨g1, g2, g3, g4, g5⟩
/-- a measure of a box's rows is told alike -/
theorem val_eq {σ : zS} {c m mw : Nat} (R : RW σ c m mw) (B : Bx) (ms : Int) : valC σ c B ms = valR (σ m) (σ mw) B (fun _ => true) ms := by
  obtain ⟨⟨b1, b2, b3, b5⟩, hr⟩ := R
  have mem : ∀ a, a ∈ ordL σ c → ∃ q : Nat, a = (q : Int) ∧ q < 60 ∧ inS σ m q = true := fun a ha => by
    obtain ⟨q, h1, h2⟩ := (b5 a).mp ha
    exact ⟨q, h1, b1 q h2, h2⟩
  have hS : SL (KF (σ m)) (selF (σ m) B (fun _ => true)) (liC σ c B) := by
    refine ⟨?_, fun v => ?_⟩
    · refine List.Pairwise.imp_of_mem (fun {a b} ha hb h => ?_) (List.Pairwise.filter _ b3)
      obtain ⟨q1, rfl, h1, -⟩ := mem a (List.mem_filter.mp ha).1
      obtain ⟨q2, rfl, h2, -⟩ := mem b (List.mem_filter.mp hb).1
      obtain ⟨-, x1, y1, -⟩ := hr q1 h1
      obtain ⟨-, x2, y2, -⟩ := hr q2 h2
      unfold rkA at h
      rw [x1, y1, x2, y2] at h
      exact h
    · unfold liC
      rw [List.mem_filter]
      constructor
      · rintro ⟨h1, h2⟩
        obtain ⟨q, rfl, h3, h4⟩ := mem v h1
        obtain ⟨-, x1, y1, -⟩ := hr q h3
        have h2 := of_decide_eq_true h2
        rw [x1, y1] at h2
        have h5 := of_decide_eq_true h4
        exact ⟨q, h3, rfl, by omega, h2, rfl⟩
      · rintro ⟨q, h1, rfl, h2, h3, -⟩
        obtain ⟨z1, x1, y1, -⟩ := hr q h1
        refine ⟨(b5 _).mpr ⟨q, rfl, decide_eq_true ⟨h1, by omega⟩⟩, decide_eq_true ?_⟩
        rw [x1, y1]
        exact h3
  unfold valC valR
  rw [liR_eq hS]
  refine msF_ext (fun j hj => ?_)
  have hm := getD_mem hj
  obtain ⟨q, e, h3, -⟩ := mem _ (List.mem_filter.mp hm).1
  obtain ⟨-, -, -, w1, -⟩ := hr q h3
  rw [show ((j : Nat) : Int).toNat = j by omega, e, w1]
  exact (if_pos (by omega)).symm
theorem BK_mv {σ s : zS} {c c' m m' mw mw' : Nat} (B : BK σ c m mw) (hc : 0 ≤ σ c 4 ∧ σ c 4 ≤ 60) (e4 : s c' 4 = σ c 4) (e : ∀ k : Nat, 1 ≤ k → k ≤ 4 → ∀ j : Nat, j < 60 → s (c' + k) (j : Int) = σ (c + k) (j : Int)) (e2 : ∀ k : Nat, 5 ≤ k → k ≤ 6 → ∀ j : Nat, j ≤ 32 → s (c' + k) (j : Int) = σ (c + k) (j : Int)) (e22 : s (c' + 22) 1 = σ (c + 22) 1) (e24 : s (c' + 24) 5 = σ (c + 24) 5) (e23 : ∀ t : Nat, t < 10 → (t : Int) < σ (c + 22) 1 → s (c' + 23) (t : Int) = σ (c + 23) (t : Int)) (e25 : ∀ k : Nat, 25 ≤ k → k ≤ 27 → ∀ j : Nat, j < 6 → s (c' + k) (j : Int) = σ (c + k) (j : Int)) (em : ∀ j : Int, ((20 ≤ j ∧ j < 200) ∨ j = 9 ∨ j = 10 ∨ (260 ≤ j ∧ j < 340)) → s m' j = σ m j) (ew : ∀ j : Int, 1 ≤ j → j < 61 → s mw' j = σ mw j) : BK s c' m' mw' := by
  obtain ⟨b1, b2, b3, b4, b5⟩ := B
  refine ⟨RW_mv b1 hc e4 e e2 (fun j h => em j (Or.inl h)) ew, by rw [e22, em 9 (by omega)]; exact b2, by rw [e24, em 10 (by omega)]; exact b3, fun t ht h => ?_, WT_mv b5 e25 (fun j h => em j (by omega))⟩
  rw [em 9 (by omega)] at h
  have hb : bxA s m' (260 + 4 * (t : Int)) = bxA σ m (260 + 4 * (t : Int)) := by
    unfold bxA
    rw [em _ (by omega), em _ (by omega), em _ (by omega), em _ (by omega)]
  rw [hb, e23 t ht (by rw [b2]; exact h)]
  exact b4 t ht h
/-! what most calls keep -/
def rK (σ s : zS) : Prop := (∀ j : Int, ((20 ≤ j ∧ j < 200) ∨ j = 9 ∨ j = 10 ∨ (260 ≤ j ∧ j < 340)) → s 144 j = σ 144 j) ∧ (∀ j : Int, 1 ≤ j → j < 61 → s 147 j = σ 147 j) ∧ (∀ j : Int, s 145 j = σ 145 j ∧ s 148 j = σ 148 j) ∧ s 143 6 = σ 143 6
theorem rK.refl (σ : zS) : rK σ σ := ⟨fun _ _ => rfl, fun _ _ _ => rfl, fun _ => ⟨rfl, rfl⟩, rfl⟩
theorem rK.of {σ s : zS} (e : ∀ a j, ((a = 144 ∧ ((20 ≤ j ∧ j < 200) ∨ j = 9 ∨ j = 10 ∨ (260 ≤ j ∧ j < 340))) ∨ (a = 147 ∧ 1 ≤ j ∧ j < 61) ∨ a = 145 ∨ a = 148 ∨ (a = 143 ∧ j = 6)) → s a j = σ a j) : rK σ s := ⟨fun j h => e 144 j (by omega), fun j h1 h2 => e 147 j (by omega), fun j => ⟨e 145 j (by omega), e 148 j (by omega)⟩, e 143 6 (by omega)⟩
def cK (a : Nat) (j : Int) : Prop := stK a j ∨ (a = 63 ∧ j = 1) ∨ (a = 65 ∧ j = 5) ∨ (a = 39 ∧ j = 2) ∨ (75 ≤ a ∧ a ≤ 80) ∨ (a = 74 ∧ j = 4) ∨ (a = 96 ∧ j = 1) ∨ (a = 98 ∧ j = 5) ∨ (a = 64 ∨ a = 66 ∨ a = 67 ∨ a = 68 ∨ a = 97 ∨ a = 99 ∨ a = 100 ∨ a = 101)
def cE (σ s : zS) : Prop := ∀ a j, cK a j → s a j = σ a j
theorem cK_lt {a : Nat} {j : Int} (h : cK a j) : a < 143 := by
  unfold cK stK at h
  omega
/-- what a class's call changes, none of these -/
def cF (F : Nat → Int → Bool) : Prop := (∀ j, F 42 j = false ∧ F 43 j = false ∧ F 44 j = false ∧ F 45 j = false ∧ F 46 j = false ∧ F 47 j = false ∧ F 41 4 = false ∧ F 63 1 = false ∧ F 65 5 = false ∧ F 39 2 = false ∧ F 75 j = false ∧ F 76 j = false ∧ F 77 j = false ∧ F 78 j = false ∧ F 79 j = false ∧ F 80 j = false ∧ F 74 4 = false ∧ F 96 1 = false ∧ F 98 5 = false) ∧ ∀ j, F 64 j = false ∧ F 66 j = false ∧ F 67 j = false ∧ F 68 j = false ∧ F 97 j = false ∧ F 99 j = false ∧ F 100 j = false ∧ F 101 j = false
theorem cE.of {F : Nat → Int → Bool} {σ s : zS} (G : fr F σ s) (h : cF F) : cE σ s := fun a j k => by
  obtain ⟨h1, h2, h3, h4, h5, h6, h7, h8, h9, h10, h11, h12, h13, h14, h15, h16, h17, h18, h19⟩ := h.1 j
  obtain ⟨i1, i2, i3, i4, i5, i6, i7, i8⟩ := h.2 j
  rcases k with (rfl | rfl | rfl | rfl | rfl | rfl | ⟨rfl, rfl⟩) | ⟨rfl, rfl⟩ | ⟨rfl, rfl⟩ | ⟨rfl, rfl⟩ | k | ⟨rfl, rfl⟩ | ⟨rfl, rfl⟩ | ⟨rfl, rfl⟩ | rfl | rfl | rfl | rfl | rfl | rfl | rfl | rfl
  · exact G _ _ (Or.inr h1)
  · exact G _ _ (Or.inr h2)
  · exact G _ _ (Or.inr h3)
  · exact G _ _ (Or.inr h4)
  · exact G _ _ (Or.inr h5)
  · exact G _ _ (Or.inr h6)
  · exact G _ _ (Or.inr h7)
  · exact G _ _ (Or.inr h8)
  · exact G _ _ (Or.inr h9)
  · exact G _ _ (Or.inr h10)
  · have k6 : a = 75 ∨ a = 76 ∨ a = 77 ∨ a = 78 ∨ a = 79 ∨ a = 80 := by omega
    rcases k6 with rfl | rfl | rfl | rfl | rfl | rfl
    · exact G _ _ (Or.inr h11)
    · exact G _ _ (Or.inr h12)
    · exact G _ _ (Or.inr h13)
    · exact G _ _ (Or.inr h14)
    · exact G _ _ (Or.inr h15)
    · exact G _ _ (Or.inr h16)
  · exact G _ _ (Or.inr h17)
  · exact G _ _ (Or.inr h18)
  · exact G _ _ (Or.inr h19)
  · exact G _ _ (Or.inr i1)
  · exact G _ _ (Or.inr i2)
  · exact G _ _ (Or.inr i3)
  · exact G _ _ (Or.inr i4)
  · exact G _ _ (Or.inr i5)
  · exact G _ _ (Or.inr i6)
  · exact G _ _ (Or.inr i7)
  · exact G _ _ (Or.inr i8)
theorem rK.cls {F : Nat → Int → Bool} {σ s : zS} (G : fr F σ s) : rK σ s := rK.of (fun a j h => G a j (Or.inl (by omega)))
theorem Rel_E {σ s : zS} (H : CI σ) (R : Rel σ) (e : cE σ s) (k : rK σ s) : Rel s := by
  obtain ⟨B, h6, Bi⟩ := R
  obtain ⟨k1, k2, k3, k4⟩ := k
  have c4 := CI.c4 (a := 41) H (by omega)
  have c4' := CI.c4 (a := 74) H (by omega)
  refine ⟨BK_mv B c4 (e 41 4 (by unfold cK stK; omega)) (fun k h1 h2 j _ => e (41 + k) _ (by unfold cK stK; omega)) (fun k h1 h2 j _ => e (41 + k) _ (by unfold cK stK; omega)) (e 63 1 (by unfold cK stK; omega)) (e 65 5 (by unfold cK stK; omega)) (fun t _ _ => e 64 _ (by unfold cK stK; omega)) (fun k h1 h2 j _ => e (41 + k) _ (by unfold cK stK; omega)) k1 k2, ?_, fun h => ?_⟩
  · rw [e 39 2 (by unfold cK stK; omega), k4]; exact h6
  · rw [k4] at h
    exact BK_mv (Bi h) c4' (e 74 4 (by unfold cK stK; omega)) (fun k h1 h2 j _ => e (74 + k) _ (by unfold cK stK; omega)) (fun k h1 h2 j _ => e (74 + k) _ (by unfold cK stK; omega)) (e 96 1 (by unfold cK stK; omega)) (e 98 5 (by unfold cK stK; omega)) (fun t _ _ => e 97 _ (by unfold cK stK; omega)) (fun k h1 h2 j _ => e (74 + k) _ (by unfold cK stK; omega)) (fun j _ => (k3 j).1) (fun j _ _ => (k3 j).2)
/-! the reference's calls that keep them -/
theorem k_same {m : zS → Option (Int × zS)} (h : ∀ s, MI s → ∃ w, m s = some (w, s)) : ∀ s, MI s → zO (m s) (fun _ s2 => rK s s2) := fun s hs => by
  obtain ⟨w, e⟩ := h s hs
  exact ⟨w, s, e, rK.refl s⟩
theorem k_spell {σ : zS} (h : MI σ) : zO (g_m_spell σ) (fun _ s => rK σ s) := by
  obtain ⟨N, hN2, hN, -⟩ := h.1
  unfold g_m_spell
  try dsimp only
  have q29 : zu σ 143 29 0 143 29 = 0 := zu_e rfl
  obtain ⟨v, s, e1, e2⟩ := s_spell7 hN2 N 0 zK (zu σ 143 29 0) (by omega) (by show _ < 1000000; omega) (by rw [zu_a (by decide)]; exact hN) (by omega) (by omega)
  exact ⟨v, s, e1, rK.of (fun a j k => by rw [e2.1 a j (by omega) (by omega), zu_c (by omega)])⟩
theorem k_explain {x0 x1 y0 y1 : Int} {σ : zS} (h : MI σ) : zO (g_m_explain x0 x1 y0 y1 σ) (fun _ s => rK σ s) := by
  unfold g_m_explain
  by_cases c : bOk (x0, x1, y0, y1)
  · rw [s_isBox_t c]
    rw [Option.bind_some]
    try dsimp only
    rw [if_pos (by decide), s_sets (by omega) (by rw [l152]; omega) (by rw [l152]; omega)]
    rw [Option.bind_some]
    try dsimp only
    generalize hs0 : zb σ 152 0 (x0, x1, y0, y1) = s0'
    have q0 : ∀ a j, a ≠ 152 → s0' a j = σ a j := fun a j k1 => by rw [← hs0, zb_a k1]
    obtain ⟨s1, M, N, e1, e2, e3, e4, e5, e6⟩ := s_missM (σ := s0') c (by rw [← hs0]; exact zb_bx rfl) (NI_fr h.1 (fun j _ => q0 144 j (by decide)))
    rw [e1]
    rw [Option.bind_some]
    try dsimp only
    have q1 : ∀ a j, a ≠ 150 → a ≠ 151 → (a ≠ 143 ∨ j ≠ 10) → a ≠ 152 → s1 a j = σ a j := fun a j k1 k2 k3 k4 => (e2 a j k1 k2 k3).trans (q0 a j k4)
    have q29 : zu s1 143 29 0 143 29 = 0 := zu_e rfl
    obtain ⟨v, s', g1, g2⟩ := s_exp39 (M := M) (N := N) (by omega) e6 N 0 zK (zu s1 143 29 0) (by omega) (by show _ < 1000000; omega) (by rw [zu_a (by decide), e2 144 0 (by decide) (by decide) (by decide)]; exact e5) (by rw [zu_i (by decide)]; exact e3) (by omega) (by omega)
    exact ⟨v, s', g1, rK.of (fun a j k => by rw [g2.1 a j (by omega) (by omega) (by omega), zu_c (by omega), q1 a j (by omega) (by omega) (by omega) (by omega)])⟩
  · rw [s_isBox_f c]
    rw [Option.bind_some]
    try dsimp only
    rw [if_neg (by decide)]
    exact ⟨_, σ, rfl, rK.refl σ⟩
theorem k_probe {x0 x1 y0 y1 : Int} {σ : zS} (h : MI σ) : zO (g_m_probe x0 x1 y0 y1 σ) (fun _ s => rK σ s) := by
  unfold g_m_probe
  by_cases c : bOk (x0, x1, y0, y1)
  · rw [s_isBox_t c]
    rw [Option.bind_some]
    try dsimp only
    rw [if_pos (by decide), s_sets (by omega) (by rw [l152]; omega) (by rw [l152]; omega)]
    rw [Option.bind_some]
    try dsimp only
    generalize hs0 : zb σ 152 0 (x0, x1, y0, y1) = s0'
    have q0 : ∀ a j, a ≠ 152 → s0' a j = σ a j := fun a j k1 => by rw [← hs0, zb_a k1]
    obtain ⟨s1, M, N, e1, e2, e3, e4, e5, e6⟩ := s_missM (σ := s0') c (by rw [← hs0]; exact zb_bx rfl) (NI_fr h.1 (fun j _ => q0 144 j (by decide)))
    rw [e1]
    rw [Option.bind_some]
    try dsimp only
    have q1 : ∀ a j, a ≠ 150 → a ≠ 151 → (a ≠ 143 ∨ j ≠ 10) → a ≠ 152 → s1 a j = σ a j := fun a j k1 k2 k3 k4 => (e2 a j k1 k2 k3).trans (q0 a j k4)
    obtain ⟨v, s', g1, g2, g3⟩ := s_probe39 (M := M) (N := N) (by omega) e6 N 0 zK (zu s1 143 32 0) 0 (by omega) (by show _ < 1000000; omega) (by rw [zu_a (by decide), e2 144 0 (by decide) (by decide) (by decide)]; exact e5) (by rw [zu_i (by decide)]; exact e3) (zu_e rfl) (by omega)
    exact ⟨v, s', g1, rK.of (fun a j k => by rw [g3 a j (by omega) (by omega), zu_c (by omega), q1 a j (by omega) (by omega) (by omega) (by omega)])⟩
  · rw [s_isBox_f c]
    rw [Option.bind_some]
    try dsimp only
    rw [if_neg (by decide)]
    exact ⟨_, σ, rfl, rK.refl σ⟩
theorem k_query {x x0 x1 y0 y1 : Int} {σ : zS} (h : MI σ) : zO (g_m_query x x0 x1 y0 y1 σ) (fun _ s => rK σ s) := by
  obtain ⟨v, s, e1, -, -, e4⟩ := s_query (x := x) (x0 := x0) (x1 := x1) (y0 := y0) (y1 := y1) h.2.1 h.1
  exact ⟨v, s, e1, rK.of (fun a j k => e4 a j (by omega) (by omega) (by omega) (by omega) (by omega) (by omega) (by omega) (by omega) (by omega))⟩
theorem k_flush {σ : zS} (_h : MI σ) : zO (g_m_flush σ) (fun _ s => rK σ s) := ⟨_, _, rfl, rK.of (fun a j k => zu_c (by omega))⟩
theorem rK_in {σ s : zS} (e1 : sameIn σ s 144 144 2740) (e2 : sameIn σ s 147 147 361) (e3 : frD σ s) : rK σ s := ⟨fun j h => e1 j (by omega) (by omega), fun j h1 h2 => e2 j (by omega) (by omega), fun j => ⟨e3 145 j (by decide) (by decide) (by decide) (by decide) (by decide) (by decide) (by decide) (by decide) (Or.inl (by decide)), e3 148 j (by decide) (by decide) (by decide) (by decide) (by decide) (by decide) (by decide) (by decide) (Or.inl (by decide))⟩, e3 143 6 (by decide) (by decide) (by decide) (by decide) (by decide) (by decide) (by decide) (by decide) (Or.inr (by decide))⟩
theorem k_again {x y : Int} {σ : zS} (h : MI σ) : zO (g_m_again x y σ) (fun _ s => rK σ s) := by
  obtain ⟨v, s, e, e1, e2, e3⟩ := s_again (x := x) (y := y) h.2.1
  exact ⟨v, s, e, rK_in e1 e2 e3⟩
theorem k_least {x : Int} {σ : zS} (h : MI σ) : zO (g_m_least x σ) (fun _ s => rK σ s) := by
  obtain ⟨v, s, e, e1, e2, e3⟩ := s_least (x := x) h.2.1
  exact ⟨v, s, e, rK_in e1 e2 e3⟩
theorem k_value {x : Int} {σ : zS} (h : MI σ) : zO (g_m_value x σ) (fun _ s => rK σ s) := by
  obtain ⟨v, s, e, e1⟩ := s_value (k := x) h.2.1.2.2.2.2.1
  exact ⟨v, s, e, rK.of (fun a j k => e1 a j (by omega) (by omega) (by omega))⟩
theorem k_settings {σ : zS} (h : MI σ) : zO (g_m_settings σ) (fun _ s => rK σ s) := by
  obtain ⟨v, s, e, -, -, e3⟩ := m_settings2 h
  exact ⟨v, s, e, rK.of (fun a j k => e3 a j (by omega))⟩
theorem k_run {σ : zS} (h : MI σ) : zO (g_m_run σ) (fun _ s => rK σ s) := by
  obtain ⟨v, s, e, -, -, e3⟩ := m_run2 h
  exact ⟨v, s, e, rK.of (fun a j k => e3 a j (by omega))⟩
theorem k_load {σ : zS} (h : MI σ) : zO (g_m_load σ) (fun _ s => rK σ s) := by
  obtain ⟨v, s, e, -, -, e3⟩ := m_load2 h
  exact ⟨v, s, e, rK.of (fun a j k => e3 a j (by omega))⟩
theorem k_clear {σ : zS} (h : MI σ) : zO (g_m_clear σ) (fun _ s => rK σ s) := by
  obtain ⟨s, e, -, -, e3⟩ := m_clear h
  exact ⟨_, s, e, rK.of (fun a j k => e3 a j (by omega))⟩
theorem k_feed {x : Int} {σ : zS} (h : MI σ) : zO (g_m_feed x σ) (fun _ s => rK σ s) := by
  obtain ⟨s, e, -, -, e3⟩ := m_feed (x := x) h
  exact ⟨_, s, e, rK.of (fun a j k => e3 a j (by omega) (by omega))⟩
theorem k_list {l x : Int} {σ : zS} (h : MI σ) : zO (g_m_list l x σ) (fun _ s => rK σ s) := by
  obtain ⟨s, e, -, e3, -⟩ := m_list (l := l) (x := x) h
  exact ⟨_, s, e, rK.of (fun a j k => e3 a j (by omega))⟩
theorem k_set {l i v : Int} {σ : zS} (h : MI σ) : zO (g_m_set l i v σ) (fun _ s => rK σ s) := by
  obtain ⟨s, e, -, e3⟩ := m_set (l := l) (i := i) (v := v) h
  exact ⟨_, s, e, rK.of (fun a j k => e3 a j (by omega))⟩
theorem k_move {l i o j x : Int} {σ : zS} (hi : i < 2147483648) (hj : j < 2147483648) (h : MI σ) : zO (g_m_move l i o j x σ) (fun _ s => rK σ s) := by
  obtain ⟨s, e, -, e3⟩ := m_move (l := l) (o := o) (x := x) h hi hj
  exact ⟨_, s, e, rK.of (fun a j k => e3 a j (by omega))⟩
theorem k_lay {l i : Int} {σ : zS} (hi : -2147483648 ≤ i ∧ i < 2147483648) (h : MI σ) : zO (g_m_lay l i σ) (fun _ s => rK σ s) := by
  obtain ⟨v, s, e, -, e3⟩ := m_lay (l := l) h hi
  exact ⟨_, s, e, rK.of (fun a j k => e3 a j (by omega))⟩
/-! pairs of calls that keep the relation -/
def Inv2 (σ : zS) : Prop := Inv σ ∧ Rel σ
/-- the class's call leaves the reference as it was and the kept cells -/
theorem two_k {σ : zS} {c : Option (Int × zS)} {m : zS → Option (Int × zS)} {Q : Int → Int → zS → Prop} (R : Rel σ) (H : CI σ) (o : two c m (fun v w s => Inv s ∧ Q v w s)) (hc : zP' c (fun _ s1 => CI s1 ∧ cE σ s1 ∧ rK σ s1 ∧ MI s1)) (hm : ∀ s, MI s → zO (m s) (fun _ s2 => rK s s2 ∧ ∀ a j, (a < 143 ∨ 168 ≤ a) → s2 a j = s a j)) : two c m (fun v w s => Inv2 s ∧ Q v w s) := by
  obtain ⟨v, s1, e1, w, s2, e2, I2, q⟩ := o
  obtain ⟨H1, k1, k2, M1⟩ := hc v s1 e1
  have h := zP'.of (hm s1 M1) w s2 e2
  have R1 := Rel_E H R k1 k2
  exact ⟨v, s1, e1, w, s2, e2, ⟨I2, Rel_E H1 R1 (fun a j k => h.2 a j (Or.inl (cK_lt k))) h.1⟩, q⟩
theorem hc_i {F : Nat → Int → Bool} {σ : zS} {c : Option (Int × zS)} {P : Int → zS → Prop} (I : Inv σ) (hc : zO c (fun v s => CI s ∧ fr F σ s ∧ P v s)) (f : cF F) : zP' c (fun _ s1 => CI s1 ∧ cE σ s1 ∧ rK σ s1 ∧ MI s1) := (zP'.of hc).imp (fun v s p => ⟨p.1, cE.of p.2.1 f, rK.cls p.2.1, MI_cls I.2.1 (fun a j h1 h2 => p.2.1 a j (Or.inl ⟨h1, h2⟩))⟩)
theorem hc_p {σ : zS} {c : Option (Int × zS)} {P : Int → Prop} (I : Inv σ) (hc : zOp c σ P) : zP' c (fun _ s1 => CI s1 ∧ cE σ s1 ∧ rK σ s1 ∧ MI s1) := fun v s e => by
  obtain ⟨v0, e0, -⟩ := hc
  rw [e0] at e
  cases e
  exact ⟨I.1, fun _ _ _ => rfl, rK.refl σ, I.2.1⟩
theorem hm_k {m : zS → Option (Int × zS)} (h1 : ∀ s, MI s → ∃ w s2, m s = some (w, s2) ∧ MI s2 ∧ frI s s2) (h2 : ∀ s, MI s → zO (m s) (fun _ s2 => rK s s2)) : ∀ s, MI s → zO (m s) (fun _ s2 => rK s s2 ∧ ∀ a j, (a < 143 ∨ 168 ≤ a) → s2 a j = s a j) := fun s hs => by
  obtain ⟨w, s2, e, -, h⟩ := h1 s hs
  exact ⟨w, s2, e, zP'.of (h2 s hs) w s2 e, fun a j k => h a j (by omega)⟩
theorem tt {c : Option (Int × zS)} {m : zS → Option (Int × zS)} (o : two c m (fun _ _ s => Inv s)) : two c m (fun _ _ s => Inv s ∧ True) := by
  obtain ⟨v, s1, e1, w, s2, e2, h⟩ := o
  exact ⟨v, s1, e1, w, s2, e2, h, trivial⟩
theorem ft {c : Option (Int × zS)} {m : zS → Option (Int × zS)} (o : two c m (fun _ _ s => Inv2 s ∧ True)) : two c m (fun _ _ s => Inv2 s) := by
  obtain ⟨v, s1, e1, w, s2, e2, h, -⟩ := o
  exact ⟨v, s1, e1, w, s2, e2, h⟩
