/-! TRIMMING of the class -/
def szP (rn : Bx → Int) : List Rg → Int
  | [] => 0
  | r :: L => (1 + rn r.1) + szP rn L
def tooM (rn : Bx → Int) (st : Int → Int) (L : List Rg) : Prop := st 2 < (L.length : Int) ∨ st 1 < szP rn L
def isLt (L : List Rg) (l : Nat) : Prop := ∃ h : l < L.length, ∀ k (hk : k < L.length), L[l].2.2.2.2 < L[k].2.2.2.2 ∨ (L[l].2.2.2.2 = L[k].2.2.2.2 ∧ l ≤ k)
def rgD (L : List Rg) (l : Nat) : Rg := match L[l]? with
  | some r => r
  | none => (vdB, vdB, 0, 0, 0)
theorem rgD_eq {L : List Rg} {l : Nat} (h : l < L.length) : rgD L l = L[l] := by
  unfold rgD
  rw [List.getElem?_eq_getElem h]
def lvP (ct : Int → Int) (w : Int) : Int → Int := upC ct 9 (if ct 9 < w then w else ct 9)
abbrev canS (st : Int → Int) (r : Rg) : Prop := st 5 ≠ 0 ∧ 0 ≤ r.2.1.1 ∧ bArea r.2.1 < bArea r.1
def shR (rn : Bx → Int) (st : Int → Int) (lev : Int) (r : Rg) : Rg := reW rn st lev (r.2.1, vdB, r.2.2.1, w32 (Int.tdiv r.2.2.2.1 2), r.2.2.2.2)
def gvP (rn : Bx → Int) (st : Int → Int) (X : List Rg × (Int → Int)) (l : Nat) : List Rg × (Int → Int) :=
  if canS st (rgD X.1 l) then (X.1.set l (shR rn st (lvP X.2 (rgD X.1 l).2.2.2.2 9) (rgD X.1 l)), upC (lvP X.2 (rgD X.1 l).2.2.2.2) 13 (w32 (X.2 13 + 1)))
  else (X.1.eraseIdx l, upC (lvP X.2 (rgD X.1 l).2.2.2.2) 12 (w32 (X.2 12 + 1)))
def TMn (rn : Bx → Int) (st : Int → Int) : Nat → List Rg × (Int → Int) → List Rg × (Int → Int) → Prop
  | 0, X, Y => ¬ tooM rn st X.1 ∧ Y = X
  | m + 1, X, Y => tooM rn st X.1 ∧ ∃ l, isLt X.1 l ∧ TMn rn st m (gvP rn st X l) Y
theorem isLt.det {L : List Rg} {a b : Nat} (h1 : isLt L a) (h2 : isLt L b) : a = b := by
  obtain ⟨p, p2⟩ := h1
  obtain ⟨q, q2⟩ := h2
  have k1 := p2 b q
  have k2 := q2 a p
  omega
theorem TMn.det {rn : Bx → Int} {st : Int → Int} : ∀ (m1 m2 : Nat) {X Y1 Y2 : List Rg × (Int → Int)}, TMn rn st m1 X Y1 → TMn rn st m2 X Y2 → Y1 = Y2
  | 0, 0, _, _, _, h1, h2 => h1.2.trans h2.2.symm
  | 0, m + 1, _, _, _, h1, h2 => absurd h2.1 h1.1
  | m + 1, 0, _, _, _, h1, h2 => absurd h1.1 h2.1
  | m1 + 1, m2 + 1, _, _, _, h1, h2 => by
    obtain ⟨-, a, k, g⟩ := h1
    obtain ⟨-, b, k2, g2⟩ := h2
    obtain rfl := k.det k2
    exact TMn.det m1 m2 g g2
theorem szP_bd {rn : Bx → Int} (h : ∀ b, 0 ≤ rn b ∧ rn b ≤ 60) : ∀ L : List Rg, (L.length : Int) ≤ szP rn L ∧ szP rn L ≤ 61 * (L.length : Int)
  | [] => ⟨Int.le_refl _, Int.le_refl _⟩
  | r :: L => by
    have ih := szP_bd h L
    have hr := h r.1
    rw [List.length_cons]
    show _ ≤ (1 + rn r.1) + szP rn L ∧ (1 + rn r.1) + szP rn L ≤ _
    omega
theorem szP_take {rn : Bx → Int} : ∀ (L : List Rg) (k : Nat) (hk : k < L.length), szP rn (L.take (k + 1)) = szP rn (L.take k) + (1 + rn L[k].1)
  | r :: L, 0, _ => by
    show (1 + rn r.1) + szP rn (L.take 0) = 0 + (1 + rn r.1)
    rw [List.take_zero]
    show (1 + rn r.1) + 0 = _
    omega
  | r :: L, k + 1, hk => by
    have hk' : k < L.length := by rw [List.length_cons] at hk; omega
    have ih := szP_take (rn := rn) L k hk'
    show (1 + rn r.1) + szP rn (L.take (k + 1)) = (1 + rn r.1) + szP rn (L.take k) + (1 + rn L[k].1)
    rw [ih]
    omega
theorem k_sizes7 {a0 : Nat} {I : Nat → Bool} {rn : Bx → Int} {st : Int → Int} {L : List Rg} {ct : Int → Int} (hL : L.length ≤ 181) (hb : ∀ r ∈ L, bOk r.1) : ∀ (n k : Nat) (x : Int) (σ : zS), cSt σ a0 I rn st L ct → k ≤ L.length → x = (L.length : Int) + (szP rn (L.take k) - (k : Int)) → zP' (g_ca_sizes_L7 a0 n x (k : Int) σ) (fun v s => s = σ ∧ v = szP rn L)
  | 0, _, _, _, _, _, _ => zP'.no
  | n + 1, k, x, σ, h, hk, hx => by
    unfold g_ca_sizes_L7
    try dsimp +instances only
    rw [h.1.1]
    have rb : ∀ b, 0 ≤ rn b ∧ rn b ≤ 60 := fun b => by
      rw [← h.2.2.2.2.2 b]
      exact rnC_bd
    by_cases ck : (L.length : Int) ≤ (k : Int)
    · rw [if_pos ck]
      refine zP'.ret ⟨rfl, ?_⟩
      rw [hx, List.take_of_length_le (by omega)]
      omega
    · have hk' : k < L.length := by omega
      rw [if_neg ck, if_pos (by omega), (h.1.2 k hk').1]
      obtain ⟨v, e1, e2⟩ := p_rc (σ := σ) h.2.2.2.1 h.2.2.2.2.1 (hb _ (List.getElem_mem hk'))
      rw [e1]
      rw [Option.bind_some]
      try dsimp +instances only
      rw [e2]
      rw [Option.bind_some]
      try dsimp +instances only
      have t1 := szP_take (rn := rn) L k hk'
      have b1 := szP_bd rb (L.take k)
      have bk := rb L[k].1
      have lt : (L.take k).length = k := by rw [List.length_take]; omega
      rw [lt] at b1
      rw [h.2.2.2.2.2, w32_id (x := x + rn L[k].1) (by omega) (by omega), w32_id (x := (k : Int) + 1) (by omega) (by omega), show (k : Int) + 1 = ((k + 1 : Nat) : Int) by omega]
      exact k_sizes7 hL hb n (k + 1) _ σ h (by omega) (by rw [t1]; omega)
theorem k_tooMuch {a0 : Nat} {I : Nat → Bool} {rn : Bx → Int} {st : Int → Int} {L : List Rg} {ct : Int → Int} {σ : zS} (h : cSt σ a0 I rn st L ct) (hL : L.length ≤ 181) (hb : ∀ r ∈ L, bOk r.1) : zP' (g_ca_isTooMuch a0 σ) (fun v s => s = σ ∧ (v ≠ 0 ↔ tooM rn st L)) := by
  unfold g_ca_isTooMuch tooM
  try dsimp +instances only
  rw [p_seOf (by decide)]
  rw [Option.bind_some]
  try dsimp +instances only
  have e2 : σ (a0 + 1 + 1) 2 = st 2 := h.2.2.1 2 (by decide) (by decide)
  have e1 : σ (a0 + 1 + 1) 1 = st 1 := h.2.2.1 1 (by decide) (by decide)
  rw [e2, h.1.1]
  by_cases c : st 2 < (L.length : Int)
  · rw [if_pos c]
    exact zP'.ret ⟨rfl, ⟨fun _ => Or.inl c, fun _ => by decide⟩⟩
  · rw [if_neg c]
    unfold g_ca_sizes
    try dsimp +instances only
    rw [h.1.1]
    refine zP'.bind (k_sizes7 hL hb zK 0 _ σ h (Nat.zero_le _) (by
      rw [List.take_zero]
      show _ = (L.length : Int) + (0 - 0)
      omega)) (fun v s p => ?_)
    obtain ⟨rfl, rfl⟩ := p
    try dsimp +instances only
    rw [p_seOf (by decide)]
    rw [Option.bind_some]
    try dsimp +instances only
    rw [e1]
    by_cases c2 : szP rn L ≤ st 1
    · rw [if_pos c2]
      exact zP'.ret ⟨rfl, ⟨fun k => absurd rfl k, fun k => by omega⟩⟩
    · rw [if_neg c2]
      exact zP'.ret ⟨rfl, ⟨fun _ => Or.inr (by omega), fun _ => by decide⟩⟩
theorem k_light4 {a0 : Nat} {L : List Rg} (hL : L.length ≤ 181) : ∀ (n l k : Nat) (σ : zS), cRs σ a0 L → (hl : l < L.length) → l < k → k ≤ L.length → (∀ j (hj : j < L.length), j < k → L[l].2.2.2.2 < L[j].2.2.2.2 ∨ (L[l].2.2.2.2 = L[j].2.2.2.2 ∧ l ≤ j)) → zP' (g_ca_lightest_L4 a0 n (l : Int) (k : Int) σ) (fun v s => s = σ ∧ ∃ l' : Nat, v = (l' : Int) ∧ isLt L l')
  | 0, _, _, _, _, _, _, _, _ => zP'.no
  | n + 1, l, k, σ, h, hl, h1, h2, h3 => by
    unfold g_ca_lightest_L4
    try dsimp +instances only
    rw [h.1]
    by_cases ck : (L.length : Int) ≤ (k : Int)
    · rw [if_pos ck]
      exact zP'.ret ⟨rfl, l, rfl, hl, fun j hj => h3 j hj (by omega)⟩
    · have hk : k < L.length := by omega
      obtain ⟨-, -, -, -, w1⟩ := h.2 k hk
      obtain ⟨-, -, -, -, w2⟩ := h.2 l hl
      rw [if_neg ck, if_pos (by omega), if_pos (by omega), w1, w2]
      unfold g_ca_lightest_L30
      rw [w32_id (x := (k : Int) + 1) (by omega) (by omega), show (k : Int) + 1 = ((k + 1 : Nat) : Int) by omega]
      by_cases c : L[k].2.2.2.2 < L[l].2.2.2.2
      · rw [if_neg (fun hh => lCmp_0.mp hh c)]
        refine k_light4 hL n k (k + 1) σ h hk (by omega) (by omega) (fun j hj hjk => ?_)
        by_cases cj : j = k
        · subst cj
          exact Or.inr ⟨rfl, Nat.le_refl _⟩
        · have := h3 j hj (by omega)
          exact Or.inl (by omega)
      · rw [if_pos (lCmp_0.mpr c)]
        refine k_light4 hL n l (k + 1) σ h hl (by omega) (by omega) (fun j hj hjk => ?_)
        by_cases cj : j = k
        · subst cj
          by_cases ce : L[l].2.2.2.2 = L[j].2.2.2.2
          · exact Or.inr ⟨ce, by omega⟩
          · exact Or.inl (by omega)
        · exact h3 j hj (by omega)
