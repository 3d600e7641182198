/-! MEASURES, once for both sides -/
abbrev okL (x : Int) : Prop := -9223372036854775808 ≤ x ∧ x < 9223372036854775808
theorem w64_ok (x : Int) : okL (w64 x) := by
  unfold w64 Int.bmod
  dsimp only
  split <;> omega
theorem w64_cs {x : Int} (h1 : -18446744073709551616 ≤ x) (h2 : x < 18446744073709551616) : (okL x ∧ w64 x = x) ∨ (9223372036854775808 ≤ x ∧ w64 x = x - 18446744073709551616) ∨ (x < -9223372036854775808 ∧ w64 x = x + 18446744073709551616) := by
  unfold w64 Int.bmod
  dsimp only
  split <;> omega
def leF (f : Int → Int) : Nat → Int
  | 0 => f 0
  | n + 1 => if f ((n + 1 : Nat) : Int) < leF f n then f ((n + 1 : Nat) : Int) else leF f n
def moF (f : Int → Int) : Nat → Int
  | 0 => f 0
  | n + 1 => if moF f n < f ((n + 1 : Nat) : Int) then f ((n + 1 : Nat) : Int) else moF f n
def suF (f : Int → Int) : Nat → Int
  | 0 => 0
  | n + 1 => w64 (suF f n + f (n : Int))
def ovF (f : Int → Int) : Nat → Bool
  | 0 => false
  | n + 1 => ovF f n || !decide (okL (suF f n + f (n : Int)))
def neF (f : Int → Int) (x : Int) : Nat → Bool
  | 0 => true
  | n + 1 => neF f x n && !decide (f (n : Int) = x)
def kiF (f : Int → Int) : Nat → Int
  | 0 => 0
  | n + 1 => kiF f n + (if neF f (f (n : Int)) n = true then 1 else 0)
def msF (f : Int → Int) (n : Nat) (m : Int) : Int :=
  if n = 0 ∧ 2 ≤ m ∧ m ≤ 5 then -9223372036854775808
  else if m = 0 then (n : Int)
  else if m = 1 then (if ovF f n = true then -9223372036854775807 else suF f n)
  else if m = 2 then leF f (n - 1)
  else if m = 3 then moF f (n - 1)
  else if m = 4 then (if ovF f n = true then -9223372036854775807 else suF f n / (n : Int))
  else if m = 5 then (if w64 (moF f (n - 1) - leF f (n - 1)) < 0 then -9223372036854775807 else w64 (moF f (n - 1) - leF f (n - 1)))
  else kiF f n
theorem leF_ext {f g : Int → Int} : ∀ n : Nat, (∀ j : Nat, j ≤ n → f (j : Int) = g (j : Int)) → leF f n = leF g n
  | 0, h => h 0 (Nat.le_refl _)
  | n + 1, h => by
    have ih := leF_ext n (fun j hj => h j (by omega))
    have e := h (n + 1) (Nat.le_refl _)
    show (if f ((n + 1 : Nat) : Int) < leF f n then f ((n + 1 : Nat) : Int) else leF f n) = (if g ((n + 1 : Nat) : Int) < leF g n then g ((n + 1 : Nat) : Int) else leF g n)
    rw [ih, e]
theorem moF_ext {f g : Int → Int} : ∀ n : Nat, (∀ j : Nat, j ≤ n → f (j : Int) = g (j : Int)) → moF f n = moF g n
  | 0, h => h 0 (Nat.le_refl _)
  | n + 1, h => by
    have ih := moF_ext n (fun j hj => h j (by omega))
    have e := h (n + 1) (Nat.le_refl _)
    show (if moF f n < f ((n + 1 : Nat) : Int) then f ((n + 1 : Nat) : Int) else moF f n) = (if moF g n < g ((n + 1 : Nat) : Int) then g ((n + 1 : Nat) : Int) else moF g n)
    rw [ih, e]
theorem suF_ext {f g : Int → Int} : ∀ n : Nat, (∀ j : Nat, j < n → f (j : Int) = g (j : Int)) → suF f n = suF g n
  | 0, _ => rfl
  | n + 1, h => by
    show w64 (suF f n + f (n : Int)) = w64 (suF g n + g (n : Int))
    rw [suF_ext n (fun j hj => h j (by omega)), h n (by omega)]
theorem ovF_ext {f g : Int → Int} : ∀ n : Nat, (∀ j : Nat, j < n → f (j : Int) = g (j : Int)) → ovF f n = ovF g n
  | 0, _ => rfl
  | n + 1, h => by
    show (ovF f n || !decide (okL (suF f n + f (n : Int)))) = (ovF g n || !decide (okL (suF g n + g (n : Int))))
    rw [ovF_ext n (fun j hj => h j (by omega)), suF_ext n (fun j hj => h j (by omega)), h n (by omega)]
theorem neF_ext {f g : Int → Int} (x : Int) : ∀ n : Nat, (∀ j : Nat, j < n → f (j : Int) = g (j : Int)) → neF f x n = neF g x n
  | 0, _ => rfl
  | n + 1, h => by
    show (neF f x n && !decide (f (n : Int) = x)) = (neF g x n && !decide (g (n : Int) = x))
    rw [neF_ext x n (fun j hj => h j (by omega)), h n (by omega)]
theorem kiF_ext {f g : Int → Int} : ∀ n : Nat, (∀ j : Nat, j < n → f (j : Int) = g (j : Int)) → kiF f n = kiF g n
  | 0, _ => rfl
  | n + 1, h => by
    show kiF f n + (if neF f (f (n : Int)) n = true then 1 else 0) = kiF g n + (if neF g (g (n : Int)) n = true then 1 else 0)
    rw [kiF_ext n (fun j hj => h j (by omega)), h n (by omega), neF_ext _ n (fun j hj => h j (by omega))]
theorem msF_ext {f g : Int → Int} {n : Nat} {m : Int} (h : ∀ j : Nat, j < n → f (j : Int) = g (j : Int)) : msF f n m = msF g n m := by
  unfold msF
  by_cases c : n = 0 ∧ 2 ≤ m ∧ m ≤ 5
  · rw [if_pos c, if_pos c]
  · rw [if_neg c, if_neg c, ovF_ext n h, suF_ext n h, kiF_ext n h]
    by_cases cn : n = 0
    · subst cn
      have c2 : ¬ m = 2 := fun e => c ⟨rfl, by omega, by omega⟩
      have c3 : ¬ m = 3 := fun e => c ⟨rfl, by omega, by omega⟩
      have c5 : ¬ m = 5 := fun e => c ⟨rfl, by omega, by omega⟩
      rw [if_neg c2, if_neg c2, if_neg c3, if_neg c3, if_neg c5, if_neg c5]
    · rw [leF_ext (n - 1) (fun j hj => h j (by omega)), moF_ext (n - 1) (fun j hj => h j (by omega))]
theorem leF_ok {f : Int → Int} : ∀ n : Nat, (∀ j : Nat, j ≤ n → okL (f (j : Int))) → okL (leF f n)
  | 0, h => h 0 (Nat.le_refl _)
  | n + 1, h => by
    have ih := leF_ok n (fun j hj => h j (by omega))
    have e := h (n + 1) (Nat.le_refl _)
    show okL (if f ((n + 1 : Nat) : Int) < leF f n then f ((n + 1 : Nat) : Int) else leF f n)
    split
    · exact e
    · exact ih
theorem moF_ok {f : Int → Int} : ∀ n : Nat, (∀ j : Nat, j ≤ n → okL (f (j : Int))) → okL (moF f n)
  | 0, h => h 0 (Nat.le_refl _)
  | n + 1, h => by
    have ih := moF_ok n (fun j hj => h j (by omega))
    have e := h (n + 1) (Nat.le_refl _)
    show okL (if moF f n < f ((n + 1 : Nat) : Int) then f ((n + 1 : Nat) : Int) else moF f n)
    split
    · exact e
    · exact ih
theorem suF_ok {f : Int → Int} : ∀ n : Nat, okL (suF f n)
  | 0 => by show okL 0; decide
  | n + 1 => w64_ok _
/-! the reference -/
theorem leC_F (σ : zS) : ∀ n : Nat, leC σ n = leF (σ 155) n
  | 0 => rfl
  | n + 1 => by
    show (if σ 155 ((n + 1 : Nat) : Int) < leC σ n then _ else leC σ n) = (if σ 155 ((n + 1 : Nat) : Int) < leF (σ 155) n then _ else leF (σ 155) n)
    rw [leC_F σ n]
theorem moC_F (σ : zS) : ∀ n : Nat, moC σ n = moF (σ 155) n
  | 0 => rfl
  | n + 1 => by
    show (if moC σ n < σ 155 ((n + 1 : Nat) : Int) then _ else moC σ n) = (if moF (σ 155) n < σ 155 ((n + 1 : Nat) : Int) then _ else moF (σ 155) n)
    rw [moC_F σ n]
theorem suC_F (σ : zS) : ∀ n : Nat, suC σ n = suF (σ 155) n
  | 0 => rfl
  | n + 1 => by
    show w64 (suC σ n + σ 155 (n : Int)) = w64 (suF (σ 155) n + σ 155 (n : Int))
    rw [suC_F σ n]
theorem toInt_ofInt64 {x : Int} (h : okL x) : (Int64.ofInt x).toInt = x := by
  have e : (Int64.ofInt x).toInt = w64 x := by
    show (Int64.ofInt x).toBitVec.toInt = _
    rw [Int64.toBitVec_ofInt, BitVec.toInt_ofInt]
    rfl
  rw [e]
  exact w64_id h.1 h.2
theorem lXor_neg {x y : Int} (hx : okL x) (hy : okL y) : lXor x y < 0 ↔ ¬ (x < 0 ↔ y < 0) := by
  have ti : ∀ z : Int64, z.toInt < 0 ↔ z.toBitVec.msb = true := fun z => by
    rw [BitVec.msb_eq_toInt]
    exact ⟨fun h => decide_eq_true h, fun h => of_decide_eq_true h⟩
  have a := ti (Int64.ofInt x)
  have b := ti (Int64.ofInt y)
  rw [toInt_ofInt64 hx] at a
  rw [toInt_ofInt64 hy] at b
  unfold lXor
  rw [ti, Int64.toBitVec_xor, BitVec.msb_xor, a, b]
  cases (Int64.ofInt x).toBitVec.msb <;> cases (Int64.ofInt y).toBitVec.msb <;> decide
theorem ovC_F (σ : zS) : ∀ n : Nat, (∀ j : Nat, j < n → okL (σ 155 (j : Int))) → ovC σ n = if ovF (σ 155) n = true then 1 else 0
  | 0, _ => rfl
  | n + 1, h => by
    have ih := ovC_F σ n (fun j hj => h j (by omega))
    have ho := h n (by omega)
    have hs := suF_ok (f := σ 155) n
    have hn := suF_ok (f := σ 155) (n + 1)
    have cs := w64_cs (x := suF (σ 155) n + σ 155 (n : Int)) (by omega) (by omega)
    show iOr (ovC σ n) (if lXor (suC σ n) (suC σ (n + 1)) < 0 ∧ lXor (σ 155 (n : Int)) (suC σ (n + 1)) < 0 then 1 else 0) = if (ovF (σ 155) n || !decide (okL (suF (σ 155) n + σ 155 (n : Int)))) = true then 1 else 0
    rw [suC_F, suC_F, ih]
    have e : (lXor (suF (σ 155) n) (suF (σ 155) (n + 1)) < 0 ∧ lXor (σ 155 (n : Int)) (suF (σ 155) (n + 1)) < 0) ↔ ¬ okL (suF (σ 155) n + σ 155 (n : Int)) := by
      rw [lXor_neg hs hn, lXor_neg ho hn]
      show (¬ (suF (σ 155) n < 0 ↔ w64 (suF (σ 155) n + σ 155 (n : Int)) < 0) ∧ ¬ (σ 155 (n : Int) < 0 ↔ w64 (suF (σ 155) n + σ 155 (n : Int)) < 0)) ↔ _
      generalize w64 (suF (σ 155) n + σ 155 (n : Int)) = w at cs
      omega
    by_cases c : okL (suF (σ 155) n + σ 155 (n : Int))
    · rw [if_neg (fun h => (e.mp h) c), decide_eq_true c]
      cases ovF (σ 155) n <;> decide +kernel
    · rw [if_pos (e.mpr c), decide_eq_false c]
      cases ovF (σ 155) n <;> decide +kernel
theorem kiI_F (σ : zS) (x : Int) : ∀ n : Nat, kiI σ x n = if neF (σ 155) x n = true then 1 else 0
  | 0 => rfl
  | n + 1 => by
    show iAnd (kiI σ x n) (if σ 155 (n : Int) = x then 0 else 1) = if (neF (σ 155) x n && !decide (σ 155 (n : Int) = x)) = true then 1 else 0
    rw [kiI_F σ x n]
    by_cases c : σ 155 (n : Int) = x
    · rw [if_pos c, decide_eq_true c]
      cases neF (σ 155) x n <;> decide +kernel
    · rw [if_neg c, decide_eq_false c]
      cases neF (σ 155) x n <;> decide +kernel
theorem kiC_F (σ : zS) : ∀ n : Nat, kiC σ n = kiF (σ 155) n
  | 0 => rfl
  | n + 1 => by
    show kiC σ n + kiI σ (σ 155 (n : Int)) n = kiF (σ 155) n + _
    rw [kiC_F σ n, kiI_F]
theorem lCmp_0 {x y : Int} : 0 ≤ lCmp x y ↔ ¬ x < y := lCmp_ge0
theorem tmod_neg {s : Int} {n : Nat} (hn : 0 < n) : (Int.tmod s (n : Int) < 0 → Int.tdiv s (n : Int) - 1 = s / (n : Int)) ∧ (¬ Int.tmod s (n : Int) < 0 → Int.tdiv s (n : Int) = s / (n : Int)) := by
  by_cases hs : 0 ≤ s
  · have e1 : Int.tdiv s (n : Int) = s / (n : Int) := Int.tdiv_eq_ediv_of_nonneg hs
    have e2 : 0 ≤ Int.tmod s (n : Int) := Int.tmod_nonneg _ hs
    exact ⟨fun h => by omega, fun _ => e1⟩
  · obtain ⟨z, rfl⟩ : ∃ z, s = -z := ⟨-s, by omega⟩
    have hz : 0 < z := by omega
    have d1 : Int.tdiv (-z) (n : Int) = -(z / (n : Int)) := by rw [Int.neg_tdiv, Int.tdiv_eq_ediv_of_nonneg (by omega)]
    have m1 : Int.tmod (-z) (n : Int) = -(z % (n : Int)) := by rw [Int.neg_tmod, Int.tmod_eq_emod_of_nonneg (by omega)]
    have h0 := Int.emod_nonneg z (show (n : Int) ≠ 0 by omega)
    have h1 := Int.emod_lt_of_pos z (show 0 < (n : Int) by omega)
    have h2 := Int.mul_ediv_add_emod z (n : Int)
    rw [d1, m1]
    generalize hq : z / (n : Int) = q at h2
    generalize hr : z % (n : Int) = r at h0 h1 h2
    constructor
    · intro h
      have e : -z = (n : Int) - r + (-q - 1) * (n : Int) := by
        rw [← h2, Int.sub_mul, Int.neg_mul, Int.one_mul, Int.mul_comm q]
        omega
      rw [e, Int.add_mul_ediv_right _ _ (by omega), Int.ediv_eq_zero_of_lt (by omega) (by omega)]
      omega
    · intro h
      have r0 : r = 0 := by omega
      have e : -z = 0 + (-q) * (n : Int) := by
        rw [← h2, Int.neg_mul, Int.mul_comm q]
        omega
      rw [e, Int.add_mul_ediv_right _ _ (by omega), Int.zero_ediv]
      omega
theorem ediv_ok {s : Int} {n : Nat} (hn : 0 < n) (h : okL s) : okL (s / (n : Int)) := by
  have h0 := Int.emod_nonneg s (show (n : Int) ≠ 0 by omega)
  have h1 := Int.emod_lt_of_pos s (show 0 < (n : Int) by omega)
  have h2 := Int.mul_ediv_add_emod s (n : Int)
  constructor
  · exact (Int.le_ediv_iff_mul_le (by omega)).mpr (by
      have : (-9223372036854775808 : Int) * (n : Int) ≤ -9223372036854775808 * 1 := Int.mul_le_mul_of_nonpos_left (by omega) (by omega)
      omega)
  · refine Int.ediv_lt_of_lt_mul (by omega) ?_
    have : (9223372036854775808 : Int) * 1 ≤ 9223372036854775808 * (n : Int) := Int.mul_le_mul_of_nonneg_left (by omega) (by omega)
    omega
theorem s_msF {σ : zS} {M : Nat} {m : Int} (hM : σ 143 14 = (M : Int)) (hM2 : M ≤ 60) (hm : 0 ≤ m ∧ m ≤ 6) (hr : ∀ j : Nat, j < M → okL (σ 155 (j : Int))) : ∃ o, g_m_measured m σ = some (msF (σ 155) M m, zu σ 143 15 o) := by
  have h0 : zu σ 143 15 0 143 14 = (M : Int) := by rw [zu_i (by decide)]; exact hM
  have z155 : ∀ v, zu σ 143 15 v 155 = σ 155 := fun v => by
    funext j
    exact zu_a (by decide)
  have zz : ∀ a b, zu (zu σ 143 15 a) 143 15 b = zu σ 143 15 b := by
    intro a b
    funext c j
    unfold zu
    by_cases h : c = 143 ∧ j = 15
    · rw [if_pos h, if_pos h]
    · rw [if_neg h, if_neg h, if_neg h]
  have f0 : ∀ y, g_m_measured_L102 y (zu σ 143 15 0) = some (y, zu σ 143 15 0) := by
    intro y
    unfold g_m_measured_L102
    show (if zu σ 143 15 0 143 15 = 0 then _ else _) = _
    rw [zu_e rfl, if_pos rfl]
  have f1 : ∀ y o, o = 1 → g_m_measured_L102 y (zu σ 143 15 o) = some (-9223372036854775807, zu σ 143 15 o) := by
    intro y o ho
    unfold g_m_measured_L102
    show (if zu σ 143 15 o 143 15 = 0 then _ else _) = _
    rw [zu_e rfl, if_neg (by omega)]
  have eov : ovC (zu σ 143 15 0) M = if ovF (σ 155) M = true then 1 else 0 := by
    have h := ovC_F (zu σ 143 15 0) M (fun j hj => by rw [z155]; exact hr j hj)
    rw [z155] at h
    exact h
  have esu : suC (zu σ 143 15 0) M = suF (σ 155) M := by rw [suC_F, z155]
  have f25 : ¬ (M = 0 ∧ 2 ≤ m ∧ m ≤ 5) → ∃ o, g_m_measured_L25 m (zu σ 143 15 0) = some (msF (σ 155) M m, zu σ 143 15 o) := by
    intro hg
    unfold g_m_measured_L25 msF
    rw [if_neg hg]
    by_cases c0 : m = 0
    · rw [if_neg (fun e => e c0), if_pos c0]
      dsimp only
      rw [f0, h0]; exact ⟨_, rfl⟩
    · rw [if_pos c0, if_neg c0]
      by_cases c1 : m = 1
      · rw [if_neg (fun e => e c1), if_pos c1, s_sumOf h0 hM2, Option.bind_some, zz, esu, eov]
        by_cases co : ovF (σ 155) M = true
        · rw [if_pos co, if_pos co, f1 _ 1 rfl]; exact ⟨_, rfl⟩
        · rw [if_neg co, if_neg co, f0]; exact ⟨_, rfl⟩
      · rw [if_pos c1, if_neg c1]
        by_cases c2 : m = 2
        · rw [if_neg (fun e => e c2), if_pos c2, s_leastOf h0 hM2, Option.bind_some, f0, leC_F, z155]; exact ⟨_, rfl⟩
        · rw [if_pos c2, if_neg c2]
          by_cases c3 : m = 3
          · rw [if_neg (fun e => e c3), if_pos c3, s_mostOf h0 hM2, Option.bind_some, f0, moC_F, z155]; exact ⟨_, rfl⟩
          · rw [if_pos c3, if_neg c3]
            by_cases c4 : m = 4
            · have hM0 : 0 < M := by
                rcases Nat.eq_zero_or_pos M with h | h
                · exact absurd ⟨h, by omega, by omega⟩ hg
                · exact h
              rw [if_neg (fun e => e c4), if_pos c4]
              unfold g_m_meanOf
              rw [s_sumOf h0 hM2, Option.bind_some, zz, esu, eov]
              have hq : zu σ 143 15 (if ovF (σ 155) M = true then 1 else 0) 143 14 = (M : Int) := by rw [zu_i (by decide)]; exact hM
              dsimp only
              rw [hq, if_neg (by omega), if_neg (by omega)]
              have td := tmod_neg (s := suF (σ 155) M) hM0
              have hd := ediv_ok hM0 (suF_ok (f := σ 155) M)
              have hval : (if 0 ≤ lCmp (Int.tmod (suF (σ 155) M) (M : Int)) 0 then some (w64 (Int.tdiv (suF (σ 155) M) (M : Int)), zu σ 143 15 (if ovF (σ 155) M = true then 1 else 0)) else some (w64 (w64 (Int.tdiv (suF (σ 155) M) (M : Int)) - 1), zu σ 143 15 (if ovF (σ 155) M = true then 1 else 0))) = some (suF (σ 155) M / (M : Int), zu σ 143 15 (if ovF (σ 155) M = true then 1 else 0)) := by
                by_cases ct : Int.tmod (suF (σ 155) M) (M : Int) < 0
                · have e := td.1 ct
                  rw [if_neg (fun h => lCmp_0.mp h ct)]
                  have hs := suF_ok (f := σ 155) M
                  rw [w64_id (x := Int.tdiv (suF (σ 155) M) (M : Int)) (by omega) (by
                    have : Int.tdiv (suF (σ 155) M) (M : Int) ≤ 0 := by
                      by_cases hs0 : 0 ≤ suF (σ 155) M
                      · have := Int.tmod_nonneg (M : Int) hs0
                        omega
                      · have h1 : suF (σ 155) M / (M : Int) < 0 := Int.ediv_neg_of_neg_of_pos (by omega) (by omega)
                        omega
                    omega), e, w64_id hd.1 hd.2]
                · have e := td.2 ct
                  rw [if_pos (lCmp_0.mpr ct), e, w64_id hd.1 hd.2]
              rw [hval, Option.bind_some]
              by_cases co : ovF (σ 155) M = true
              · rw [if_pos co, if_pos co, f1 _ 1 rfl]; exact ⟨_, rfl⟩
              · rw [if_neg co, if_neg co, f0]; exact ⟨_, rfl⟩
            · rw [if_pos c4, if_neg c4]
              by_cases c5 : m = 5
              · rw [if_neg (fun e => e c5), if_pos c5]
                unfold g_m_spanOf
                rw [s_mostOf h0 hM2, Option.bind_some]
                dsimp only
                rw [s_leastOf h0 hM2, Option.bind_some]
                dsimp only
                rw [moC_F, leC_F, z155]
                unfold g_m_spanOf_L28
                by_cases cs : w64 (moF (σ 155) (M - 1) - leF (σ 155) (M - 1)) < 0
                · rw [if_neg (fun h => lCmp_0.mp h cs), if_pos cs, if_pos (Or.inr rfl)]
                  rw [Option.bind_some]
                  dsimp only
                  rw [zz, f1 _ 1 rfl]; exact ⟨_, rfl⟩
                · rw [if_pos (lCmp_0.mpr cs), if_neg cs, if_pos (Or.inl rfl)]
                  rw [Option.bind_some]
                  dsimp only
                  rw [zz, f0]; exact ⟨_, rfl⟩
              · rw [if_pos c5, if_neg c5, s_kindsOf h0 hM2, Option.bind_some, f0, kiC_F, z155]; exact ⟨_, rfl⟩
  unfold g_m_measured
  show ∃ o, (if zu σ 143 15 0 143 14 ≠ 0 then _ else _) = _
  rw [h0]
  by_cases cM : M = 0
  · subst cM
    rw [if_neg (by decide)]
    by_cases cm : 2 ≤ m ∧ m ≤ 5
    · rw [s_isIn_t cm.1 cm.2]
      rw [Option.bind_some]
      try dsimp +instances only
      rw [if_neg (by decide)]
      unfold msF
      rw [if_pos ⟨rfl, cm⟩]
      exact ⟨_, rfl⟩
    · rw [s_isIn_f (by omega), Option.bind_some, if_pos rfl]
      exact f25 (fun h => cm h.2)
  · rw [if_pos (by omega)]
    exact f25 (fun h => cM h.1)
