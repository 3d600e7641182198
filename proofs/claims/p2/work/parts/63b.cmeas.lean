/-! MEASURES of the class -/
theorem zP'.binde {α β : Type} {x : Option (α × zS)} {f : α × zS → Option (β × zS)} {σ : zS} {w : α} {Q : β → zS → Prop} (h : zP' x (fun v s => s = σ ∧ v = w)) (k : zP' (f (w, σ)) Q) : zP' (x.bind f) Q := zP'.bind h (fun v s p => by
  rw [p.1, p.2]
  exact k)
theorem lCmp_gt0 {x y : Int} : 0 < lCmp x y ↔ y < x := by
  have h := lCmp_gt (x := x) (y := y)
  omega
def bI (b : Bool) : Int := if b = true then 1 else 0
theorem bI_t : bI true = 1 := rfl
theorem bI_f : bI false = 0 := rfl
theorem ovF_mono {f : Int → Int} {n : Nat} (h : ovF f n = true) : ∀ d : Nat, ovF f (n + d) = true
  | 0 => h
  | d + 1 => by
    show (ovF f (n + d) || !decide (okL (suF f (n + d) + f ((n + d : Nat) : Int)))) = true
    rw [ovF_mono h d]
    rfl
theorem neF_mono {f : Int → Int} {x : Int} {n : Nat} (h : neF f x n = false) : ∀ d : Nat, neF f x (n + d) = false
  | 0 => h
  | d + 1 => by
    show (neF f x (n + d) && !decide (f ((n + d : Nat) : Int) = x)) = false
    rw [neF_mono h d]
    rfl
theorem p_over4 {a M : Nat} {σ : zS} (hM : σ a 2 = (M : Int)) (hM2 : M ≤ 60) (hr : ∀ j : Nat, j < M → okL (σ (a + 2) (j : Int))) : ∀ (n k : Nat), k ≤ M → ovF (σ (a + 2)) k = false → zP' (g_fi_sumIsOver_L4 a n (suF (σ (a + 2)) k) (k : Int) σ) (fun v s => s = σ ∧ v = bI (ovF (σ (a + 2)) M))
  | 0, _, _, _ => zP'.no
  | n + 1, k, hk, h0 => by
    unfold g_fi_sumIsOver_L4
    try dsimp +instances only
    refine zP'.ite (fun c => zP'.ret ⟨rfl, ?_⟩) (fun c => zP'.gd (fun _ => zP'.gd (fun _ => ?_)))
    · rw [show M = k by omega, h0]
      rfl
    · have ho := hr k (by omega)
      have hs := suF_ok (f := σ (a + 2)) k
      have cs := w64_cs (x := suF (σ (a + 2)) k + σ (a + 2) (k : Int)) (by omega) (by omega)
      have go : okL (suF (σ (a + 2)) k + σ (a + 2) (k : Int)) → zP' (g_fi_sumIsOver_L60 a (g_fi_sumIsOver_L4 a n) (k : Int) (w64 (suF (σ (a + 2)) k + σ (a + 2) (k : Int))) 0 σ) (fun v s => s = σ ∧ v = bI (ovF (σ (a + 2)) M)) := fun ok => by
        have h := p_over4 hM hM2 hr n (k + 1) (by omega) (by
          show (ovF (σ (a + 2)) k || !decide (okL (suF (σ (a + 2)) k + σ (a + 2) (k : Int)))) = false
          rw [h0, decide_eq_true ok]
          rfl)
        unfold g_fi_sumIsOver_L60
        rw [if_pos rfl, w32_id (x := (k : Int) + 1) (by omega) (by omega), show (k : Int) + 1 = ((k + 1 : Nat) : Int) by omega]
        exact h
      have no : ¬ okL (suF (σ (a + 2)) k + σ (a + 2) (k : Int)) → zP' (g_fi_sumIsOver_L60 a (g_fi_sumIsOver_L4 a n) (k : Int) (w64 (suF (σ (a + 2)) k + σ (a + 2) (k : Int))) 1 σ) (fun v s => s = σ ∧ v = bI (ovF (σ (a + 2)) M)) := fun ok => by
        have h : ovF (σ (a + 2)) (k + 1) = true := by
          show (ovF (σ (a + 2)) k || !decide (okL (suF (σ (a + 2)) k + σ (a + 2) (k : Int)))) = true
          rw [h0, decide_eq_false ok]
          rfl
        have h2 := ovF_mono h (M - (k + 1))
        rw [show k + 1 + (M - (k + 1)) = M by omega] at h2
        unfold g_fi_sumIsOver_L60
        rw [if_neg (by decide)]
        refine zP'.ret ⟨rfl, ?_⟩
        rw [h2]
        rfl
      refine zP'.ite (fun c1 => zP'.ite (fun c2 => go ?_) (fun c2 => no ?_)) (fun c1 => zP'.ite (fun c2 => go ?_) (fun c2 => no ?_))
      · have c1 := lCmp_lt.mp c1
        have c2 := lCmp_gt.mp c2
        omega
      · have c1 := lCmp_lt.mp c1
        have c2 := mt lCmp_gt.mpr c2
        omega
      · have c1 := mt lCmp_lt.mpr c1
        have c2 := lCmp_ge0.mp c2
        omega
      · have c1 := mt lCmp_lt.mpr c1
        have c2 := mt lCmp_ge0.mpr c2
        omega
theorem p_over {a M : Nat} {σ : zS} (hM : σ a 2 = (M : Int)) (hM2 : M ≤ 60) (hr : ∀ j : Nat, j < M → okL (σ (a + 2) (j : Int))) : zP' (g_fi_sumIsOver a σ) (fun v s => s = σ ∧ v = bI (ovF (σ (a + 2)) M)) := p_over4 hM hM2 hr zK 0 (Nat.zero_le _) rfl
theorem p_sum15 {a M : Nat} {σ : zS} (hM : σ a 2 = (M : Int)) (hM2 : M ≤ 60) : ∀ (n k : Nat), k ≤ M → zP' (g_fi_sum_L15 a n (suF (σ (a + 2)) k) (k : Int) σ) (fun v s => s = σ ∧ v = suF (σ (a + 2)) M)
  | 0, _, _ => zP'.no
  | n + 1, k, hk => by
    unfold g_fi_sum_L15
    try dsimp +instances only
    refine zP'.ite (fun c => zP'.ret ⟨rfl, by rw [show M = k by omega]⟩) (fun c => zP'.gd (fun _ => ?_))
    have h := p_sum15 hM hM2 n (k + 1) (by omega)
    try dsimp +instances only
    rw [w32_id (x := (k : Int) + 1) (by omega) (by omega), show (k : Int) + 1 = ((k + 1 : Nat) : Int) by omega]
    exact h
theorem p_sum {a M : Nat} {σ : zS} (hM : σ a 2 = (M : Int)) (hM2 : M ≤ 60) (hr : ∀ j : Nat, j < M → okL (σ (a + 2) (j : Int))) : zP' (g_fi_sum a σ) (fun v s => s = σ ∧ v = if ovF (σ (a + 2)) M = true then -9223372036854775807 else suF (σ (a + 2)) M) := by
  unfold g_fi_sum
  refine zP'.binde (p_over hM hM2 hr) ?_
  try dsimp +instances only
  cases co : ovF (σ (a + 2)) M with
  | true =>
    rw [bI_t, if_neg (by decide)]
    exact zP'.ret ⟨rfl, (if_pos rfl).symm⟩
  | false =>
    rw [bI_f, if_pos rfl]
    refine (p_sum15 hM hM2 zK 0 (Nat.zero_le _)).imp (fun v s p => ⟨p.1, ?_⟩)
    rw [if_neg (by decide)]
    exact p.2
theorem p_floorDiv {s : Int} {n : Nat} {σ : zS} (hn : 0 < n) (hn2 : n ≤ 60) (hs : okL s) : zP' (g_jMath_floorDiv s (n : Int) σ) (fun v t => t = σ ∧ v = s / (n : Int)) := by
  have td := tmod_neg (s := s) hn
  have hd := ediv_ok hn hs
  have hx : lXor s (n : Int) < 0 ↔ s < 0 := by
    have h := lXor_neg (x := s) (y := (n : Int)) hs ⟨by omega, by omega⟩
    omega
  have dm := Int.mul_tdiv_add_tmod s (n : Int)
  unfold g_jMath_floorDiv
  rw [if_neg (by omega)]
  by_cases c : s < 0
  · have h0 : Int.tdiv s (n : Int) ≤ 0 := by
      by_cases ct : Int.tmod s (n : Int) < 0
      · have e := td.1 ct
        have h1 : s / (n : Int) < 0 := Int.ediv_neg_of_neg_of_pos c (by omega)
        omega
      · have e := td.2 ct
        have h1 : s / (n : Int) < 0 := Int.ediv_neg_of_neg_of_pos c (by omega)
        omega
    have hb : okL (Int.tdiv s (n : Int)) := by
      by_cases ct : Int.tmod s (n : Int) < 0
      · have e := td.1 ct
        omega
      · have e := td.2 ct
        omega
    have hm : Int.tmod s (n : Int) ≤ 0 := by
      have h1 := Int.tmod_nonneg (n : Int) (a := -s) (by omega)
      rw [Int.neg_tmod] at h1
      omega
    have hm2 : -(n : Int) < Int.tmod s (n : Int) := by
      have h1 := Int.tmod_lt_of_pos (-s) (b := (n : Int)) (by omega)
      rw [Int.neg_tmod] at h1
      omega
    rw [if_neg (fun h => lCmp_ge0.mp h (hx.mpr c)), w64_id hb.1 hb.2, Int.mul_comm, w64_id (x := (n : Int) * Int.tdiv s (n : Int)) (by omega) (by omega)]
    by_cases ct : Int.tmod s (n : Int) < 0
    · have e := td.1 ct
      rw [if_neg (fun h => by have := lCmp_eq.mp h; omega), e, w64_id hd.1 hd.2]
      exact zP'.ret ⟨rfl, rfl⟩
    · have e := td.2 ct
      rw [if_pos (lCmp_eq.mpr (by omega)), e]
      exact zP'.ret ⟨rfl, rfl⟩
  · have e : Int.tdiv s (n : Int) = s / (n : Int) := Int.tdiv_eq_ediv_of_nonneg (by omega)
    rw [if_pos (lCmp_ge0.mpr (fun h => c (hx.mp h))), e, w64_id hd.1 hd.2]
    exact zP'.ret ⟨rfl, rfl⟩
theorem p_mean {a M : Nat} {σ : zS} (hM : σ a 2 = (M : Int)) (hM0 : 0 < M) (hM2 : M ≤ 60) (hr : ∀ j : Nat, j < M → okL (σ (a + 2) (j : Int))) : zP' (g_fi_mean a σ) (fun v s => s = σ ∧ v = if ovF (σ (a + 2)) M = true then -9223372036854775807 else suF (σ (a + 2)) M / (M : Int)) := by
  unfold g_fi_mean
  try dsimp +instances only
  rw [if_pos (by omega)]
  refine zP'.binde (p_over hM hM2 hr) ?_
  try dsimp +instances only
  have ps := p_sum hM hM2 hr
  cases co : ovF (σ (a + 2)) M with
  | true =>
    rw [bI_t, if_neg (by decide)]
    exact zP'.ret ⟨rfl, (if_pos rfl).symm⟩
  | false =>
    rw [co, if_neg (by decide)] at ps
    rw [bI_f, if_pos rfl, if_neg (by decide)]
    refine zP'.binde ps ?_
    try dsimp +instances only
    rw [hM]
    refine zP'.binde (p_floorDiv hM0 hM2 (suF_ok M)) ?_
    exact zP'.ret ⟨rfl, rfl⟩
theorem p_least9 {a M : Nat} {σ : zS} (hM : σ a 2 = (M : Int)) (hM2 : M ≤ 60) : ∀ (n k : Nat), k < M → zP' (g_fi_leastWorth_L9 a n (leF (σ (a + 2)) k) ((k + 1 : Nat) : Int) σ) (fun v s => s = σ ∧ v = leF (σ (a + 2)) (M - 1))
  | 0, _, _ => zP'.no
  | n + 1, k, hk => by
    unfold g_fi_leastWorth_L9
    try dsimp +instances only
    refine zP'.ite (fun c => zP'.ret ⟨rfl, by rw [show M - 1 = k by omega]⟩) (fun c => zP'.gd (fun _ => ?_))
    have h := p_least9 hM hM2 n (k + 1) (by omega)
    have ew : w32 (((k + 1 : Nat) : Int) + 1) = ((k + 1 + 1 : Nat) : Int) := by
      rw [w32_id (by omega) (by omega)]
      omega
    try dsimp +instances only
    unfold g_jMath_min_292
    by_cases c2 : σ (a + 2) ((k + 1 : Nat) : Int) < leF (σ (a + 2)) k
    · have e : leF (σ (a + 2)) (k + 1) = σ (a + 2) ((k + 1 : Nat) : Int) := if_pos c2
      rw [if_pos (lCmp_gt0.mpr c2)]
      rw [Option.bind_some]
      try dsimp +instances only
      rw [ew, ← e]
      exact h
    · have e : leF (σ (a + 2)) (k + 1) = leF (σ (a + 2)) k := if_neg c2
      rw [if_neg (fun h => c2 (lCmp_gt0.mp h))]
      rw [Option.bind_some]
      try dsimp +instances only
      rw [ew, ← e]
      exact h
theorem p_least {a M : Nat} {σ : zS} (hM : σ a 2 = (M : Int)) (hM0 : 0 < M) (hM2 : M ≤ 60) : zP' (g_fi_leastWorth a σ) (fun v s => s = σ ∧ v = leF (σ (a + 2)) (M - 1)) := p_least9 hM hM2 zK 0 hM0
theorem p_most9 {a M : Nat} {σ : zS} (hM : σ a 2 = (M : Int)) (hM2 : M ≤ 60) : ∀ (n k : Nat), k < M → zP' (g_fi_mostWorth_L9 a n (moF (σ (a + 2)) k) ((k + 1 : Nat) : Int) σ) (fun v s => s = σ ∧ v = moF (σ (a + 2)) (M - 1))
  | 0, _, _ => zP'.no
  | n + 1, k, hk => by
    unfold g_fi_mostWorth_L9
    try dsimp +instances only
    refine zP'.ite (fun c => zP'.ret ⟨rfl, by rw [show M - 1 = k by omega]⟩) (fun c => zP'.gd (fun _ => ?_))
    have h := p_most9 hM hM2 n (k + 1) (by omega)
    have ew : w32 (((k + 1 : Nat) : Int) + 1) = ((k + 1 + 1 : Nat) : Int) := by
      rw [w32_id (by omega) (by omega)]
      omega
    try dsimp +instances only
    unfold g_jMath_max_290
    by_cases c2 : moF (σ (a + 2)) k < σ (a + 2) ((k + 1 : Nat) : Int)
    · have e : moF (σ (a + 2)) (k + 1) = σ (a + 2) ((k + 1 : Nat) : Int) := if_pos c2
      rw [if_pos (lCmp_lt.mpr c2)]
      rw [Option.bind_some]
      try dsimp +instances only
      rw [ew, ← e]
      exact h
    · have e : moF (σ (a + 2)) (k + 1) = moF (σ (a + 2)) k := if_neg c2
      rw [if_neg (fun h => c2 (lCmp_lt.mp h))]
      rw [Option.bind_some]
      try dsimp +instances only
      rw [ew, ← e]
      exact h
theorem p_most {a M : Nat} {σ : zS} (hM : σ a 2 = (M : Int)) (hM0 : 0 < M) (hM2 : M ≤ 60) : zP' (g_fi_mostWorth a σ) (fun v s => s = σ ∧ v = moF (σ (a + 2)) (M - 1)) := p_most9 hM hM2 zK 0 hM0
theorem p_kinds17 {a : Nat} {σ : zS} {g : Int → Int → zS → Option (Int × zS)} {Q : Int → zS → Prop} {k : Nat} {x1 : Int} (hk : k < 60) (hx : 0 ≤ x1 ∧ x1 ≤ 60) (hg : zP' (g (x1 + bI (neF (σ (a + 2)) (σ (a + 2) (k : Int)) k)) ((k + 1 : Nat) : Int) σ) Q) : ∀ (n j : Nat) (x3 : Int), j ≤ k → (x3 = 1 ∧ neF (σ (a + 2)) (σ (a + 2) (k : Int)) j = true) ∨ (x3 = 0 ∧ neF (σ (a + 2)) (σ (a + 2) (k : Int)) k = false) → zP' (g_fi_kinds_L17 a g n x1 (k : Int) x3 (j : Int) σ) Q
  | 0, _, _, _, _ => zP'.no
  | n + 1, j, x3, hj, hc => by
    have ew : w32 ((k : Int) + 1) = ((k + 1 : Nat) : Int) := by
      rw [w32_id (by omega) (by omega)]
      omega
    have fin : (x3 = 1 ∧ neF (σ (a + 2)) (σ (a + 2) (k : Int)) k = true) ∨ (x3 = 0 ∧ neF (σ (a + 2)) (σ (a + 2) (k : Int)) k = false) → zP' (g_fi_kinds_L56 a g x1 (k : Int) x3 σ) Q := fun h => by
      unfold g_fi_kinds_L56 g_fi_kinds_L63
      rw [ew]
      rcases h with ⟨h1, h2⟩ | ⟨h1, h2⟩
      · rw [h2, bI_t] at hg
        rw [if_neg (by omega), w32_id (x := x1 + 1) (by omega) (by omega)]
        exact hg
      · rw [h2, bI_f, show x1 + 0 = x1 by omega] at hg
        rw [if_pos h1]
        exact hg
    unfold g_fi_kinds_L17
    try dsimp +instances only
    refine zP'.ite (fun c => fin ?_) (fun c => zP'.ite (fun c2 => fin ?_) (fun c2 => zP'.gd (fun _ => zP'.gd (fun _ => ?_))))
    · rw [show j = k by omega] at hc
      exact hc
    · exact hc.imp (fun h => by omega) id
    · have hc1 := hc.resolve_right (fun h => c2 h.1)
      have ej : w32 ((j : Int) + 1) = ((j + 1 : Nat) : Int) := by
        rw [w32_id (by omega) (by omega)]
        omega
      have en : ∀ b : Bool, decide (σ (a + 2) (j : Int) = σ (a + 2) (k : Int)) = b → neF (σ (a + 2)) (σ (a + 2) (k : Int)) (j + 1) = !b := fun b hb => by
        show (neF (σ (a + 2)) (σ (a + 2) (k : Int)) j && !decide (σ (a + 2) (j : Int) = σ (a + 2) (k : Int))) = !b
        rw [hc1.2, hb]
        rfl
      try dsimp +instances only
      refine zP'.ite (fun c3 => ?_) (fun c3 => ?_)
      · have e := en true (decide_eq_true (lCmp_eq.mp c3))
        have e2 := neF_mono (f := σ (a + 2)) (n := j + 1) (x := σ (a + 2) (k : Int)) e (k - (j + 1))
        rw [show j + 1 + (k - (j + 1)) = k by omega] at e2
        unfold g_fi_kinds_L49
        rw [ej]
        exact p_kinds17 hk hx hg n (j + 1) 0 (by omega) (Or.inr ⟨rfl, e2⟩)
      · have e := en false (decide_eq_false (fun h => c3 (lCmp_eq.mpr h)))
        unfold g_fi_kinds_L49
        rw [ej]
        exact p_kinds17 hk hx hg n (j + 1) 1 (by omega) (Or.inl ⟨rfl, e⟩)
theorem kiF_bd {f : Int → Int} : ∀ n : Nat, 0 ≤ kiF f n ∧ kiF f n ≤ (n : Int)
  | 0 => by
    show (0 : Int) ≤ 0 ∧ (0 : Int) ≤ ((0 : Nat) : Int)
    omega
  | n + 1 => by
    have h := kiF_bd (f := f) n
    show 0 ≤ kiF f n + (if neF f (f (n : Int)) n = true then 1 else 0) ∧ kiF f n + (if neF f (f (n : Int)) n = true then 1 else 0) ≤ ((n + 1 : Nat) : Int)
    split <;> omega
theorem p_kinds4 {a M : Nat} {σ : zS} (hM : σ a 2 = (M : Int)) (hM2 : M ≤ 60) : ∀ (n k : Nat), k ≤ M → zP' (g_fi_kinds_L4 a n (kiF (σ (a + 2)) k) (k : Int) σ) (fun v s => s = σ ∧ v = kiF (σ (a + 2)) M)
  | 0, _, _ => zP'.no
  | n + 1, k, hk => by
    unfold g_fi_kinds_L4
    try dsimp +instances only
    refine zP'.ite (fun c => zP'.ret ⟨rfl, by rw [show M = k by omega]⟩) (fun c => ?_)
    have h := p_kinds4 hM hM2 n (k + 1) (by omega)
    have hb := kiF_bd (f := σ (a + 2)) k
    exact p_kinds17 (by omega) (by omega) h zK 0 1 (Nat.zero_le _) (Or.inl ⟨rfl, rfl⟩)
theorem p_measured {a M : Nat} {σ : zS} {m : Int} (hM : σ a 2 = (M : Int)) (hM2 : M ≤ 60) (hm : 0 ≤ m ∧ m ≤ 6) (hr : ∀ j : Nat, j < M → okL (σ (a + 2) (j : Int))) : zP' (g_fi_measured a m σ) (fun v s => s = σ ∧ v = msF (σ (a + 2)) M m) := by
  have f21 : ¬ (M = 0 ∧ 2 ≤ m ∧ m ≤ 5) → zP' (g_fi_measured_L21 a m σ) (fun v s => s = σ ∧ v = msF (σ (a + 2)) M m) := by
    intro hg
    have hM0 : (2 ≤ m ∧ m ≤ 5) → 0 < M := fun h => by
      rcases Nat.eq_zero_or_pos M with h0 | h0
      · exact absurd ⟨h0, h⟩ hg
      · exact h0
    unfold g_fi_measured_L21 msF
    rw [if_neg hg]
    by_cases c0 : m = 0
    · rw [if_pos c0, if_pos c0]
      exact zP'.ret ⟨rfl, hM⟩
    · rw [if_neg c0, if_neg c0]
      by_cases c1 : m = 1
      · rw [if_pos c1, if_pos c1]
        refine zP'.binde (p_sum hM hM2 hr) ?_
        exact zP'.ret ⟨rfl, rfl⟩
      · rw [if_neg c1, if_neg c1]
        by_cases c2 : m = 2
        · rw [if_pos c2, if_pos c2]
          refine zP'.binde (p_least hM (hM0 (by omega)) hM2) ?_
          exact zP'.ret ⟨rfl, rfl⟩
        · rw [if_neg c2, if_neg c2]
          by_cases c3 : m = 3
          · rw [if_pos c3, if_pos c3]
            refine zP'.binde (p_most hM (hM0 (by omega)) hM2) ?_
            exact zP'.ret ⟨rfl, rfl⟩
          · rw [if_neg c3, if_neg c3]
            by_cases c4 : m = 4
            · rw [if_pos c4, if_pos c4]
              refine zP'.binde (p_mean hM (hM0 (by omega)) hM2 hr) ?_
              exact zP'.ret ⟨rfl, rfl⟩
            · rw [if_neg c4, if_neg c4]
              by_cases c5 : m = 5
              · rw [if_pos c5, if_pos c5]
                refine zP'.binde (p_most hM (hM0 (by omega)) hM2) ?_
                try dsimp +instances only
                refine zP'.binde (p_least hM (hM0 (by omega)) hM2) ?_
                try dsimp +instances only
                unfold g_fi_difference
                by_cases cs : w64 (moF (σ (a + 2)) (M - 1) - leF (σ (a + 2)) (M - 1)) < 0
                · rw [if_neg (fun h => lCmp_ge0.mp h cs), if_pos cs]
                  rw [Option.bind_some]
                  exact zP'.ret ⟨rfl, rfl⟩
                · rw [if_pos (lCmp_ge0.mpr cs), if_neg cs]
                  rw [Option.bind_some]
                  exact zP'.ret ⟨rfl, rfl⟩
              · rw [if_neg c5, if_neg c5, if_pos (show m = 6 by omega)]
                refine zP'.binde (p_kinds4 hM hM2 zK 0 (Nat.zero_le _)) ?_
                exact zP'.ret ⟨rfl, rfl⟩
  unfold g_fi_measured
  try dsimp +instances only
  rw [hM]
  refine zP'.ite (fun c => f21 (fun h => by omega)) (fun c => zP'.ite (fun c1 => f21 (fun h => by omega)) (fun c1 => zP'.ite (fun c2 => f21 (fun h => by omega)) (fun c2 => zP'.ret ⟨rfl, ?_⟩)))
  unfold msF
  rw [if_pos (by omega)]
