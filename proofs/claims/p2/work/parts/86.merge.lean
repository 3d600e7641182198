/-! MERGING of the class -/
def prF (L : List Rg) (i j : Nat) : Prop := ∃ (hi : i < L.length) (hj : j < L.length), i < j ∧ bOne L[i].1 L[j].1
def isF (L : List Rg) (i j : Nat) : Prop := prF L i j ∧ ∀ a b, prF L a b → i < a ∨ (i = a ∧ j ≤ b)
def jnL (L : List Rg) (i j : Nat) (r : Rg) : List Rg := (L.set i r).eraseIdx j
def jnR (L : List Rg) (i j : Nat) : Rg := match L[i]?, L[j]? with
  | some r, some s => mJoin r s
  | _, _ => (vdB, vdB, 0, 0, 0)
theorem jnR_eq {L : List Rg} {i j : Nat} (hi : i < L.length) (hj : j < L.length) : jnR L i j = mJoin L[i] L[j] := by
  unfold jnR
  rw [List.getElem?_eq_getElem hi, List.getElem?_eq_getElem hj]
/-- merging m times, the first pair each time, until there is none -/
def MGn : Nat → List Rg → List Rg → Prop
  | 0, L, L' => (∀ a b, ¬ prF L a b) ∧ L' = L
  | m + 1, L, L' => ∃ i j, isF L i j ∧ MGn m (jnL L i j (jnR L i j)) L'
theorem isF.det {L : List Rg} {i j a b : Nat} (h1 : isF L i j) (h2 : isF L a b) : i = a ∧ j = b := by
  have k1 := h1.2 a b h2.1
  have k2 := h2.2 i j h1.1
  omega
theorem MGn.det : ∀ (m1 m2 : Nat) {L L1 L2 : List Rg}, MGn m1 L L1 → MGn m2 L L2 → m1 = m2 ∧ L1 = L2
  | 0, 0, _, _, _, h1, h2 => ⟨rfl, h1.2.trans h2.2.symm⟩
  | 0, m + 1, _, _, _, h1, h2 => by
    obtain ⟨i, j, k, -⟩ := h2
    exact absurd k.1 (h1.1 i j)
  | m + 1, 0, _, _, _, h1, h2 => by
    obtain ⟨i, j, k, -⟩ := h1
    exact absurd k.1 (h2.1 i j)
  | m1 + 1, m2 + 1, L, L1, L2, h1, h2 => by
    obtain ⟨i, j, k, g⟩ := h1
    obtain ⟨a, b, k2, g2⟩ := h2
    obtain ⟨rfl, rfl⟩ := k.det k2
    obtain ⟨e1, e2⟩ := MGn.det m1 m2 g g2
    exact ⟨by omega, e2⟩
theorem jn_len {L : List Rg} {i j : Nat} {r : Rg} (hj : j < L.length) : (jnL L i j r).length = L.length - 1 := by
  unfold jnL
  rw [List.length_eraseIdx_of_lt (by rw [List.length_set]; exact hj), List.length_set]
theorem jn_get {L : List Rg} {i j : Nat} {r : Rg} (hij : i < j) (hj : j < L.length) {b : Nat} (hb : b < (jnL L i j r).length) : (jnL L i j r)[b] = if b = i then r else L[if b < j then b else b + 1]'(by rw [jn_len hj] at hb; split <;> omega) := by
  have hl := jn_len (i := i) (r := r) hj
  unfold jnL at *
  rw [List.getElem_eraseIdx]
  by_cases c : b < j
  · simp only [c, if_true, dite_true]
    rw [List.getElem_set]
    by_cases ci : i = b
    · rw [if_pos ci, if_pos ci.symm]
    · rw [if_neg ci, if_neg (fun h => ci h.symm)]
  · simp only [c, if_false, dite_false]
    rw [List.getElem_set, if_neg (by omega), if_neg (by omega)]
/-- behind a merging the next pair begins at the earliest that joins the merged one -/
theorem jn_first {L : List Rg} {i j e : Nat} {r : Rg} (hij : i < j) (hj : j < L.length) (hF : ∀ a b, prF L a b → i ≤ a) (he : e ≤ i) (hE : ∀ a, a < e → ∀ (h1 : a < (jnL L i j r).length) (h2 : i < (jnL L i j r).length), ¬ bOne (jnL L i j r)[a].1 (jnL L i j r)[i].1) : ∀ a b, prF (jnL L i j r) a b → e ≤ a := by
  intro a b h
  refine Classical.byContradiction (fun hn => ?_)
  obtain ⟨ha, hb, hab, ho⟩ := h
  have hl := jn_len (i := i) (r := r) hj
  by_cases cb : b = i
  · subst cb
    exact hE a (by omega) ha hb ho
  · rw [jn_get hij hj ha, if_neg (by omega), jn_get hij hj hb, if_neg cb] at ho
    have la : ¬ i ≤ a := by omega
    refine la (hF a (if b < j then b else b + 1) ⟨by omega, by split <;> omega, by split <;> omega, ?_⟩)
    simp only [show a < j by omega, if_true] at ho
    exact ho
theorem k_other {a0 : Nat} {L : List Rg} (hL : L.length ≤ 181) (hb : ∀ r ∈ L, bOk r.1) {f : Nat} (hf : f < L.length) : ∀ (n k : Nat) (σ : zS), cRs σ a0 L → f < k → k ≤ L.length → (∀ j (hj : j < L.length), f < j → j < k → ¬ bOne L[f].1 L[j].1) → zP' (g_ca_otherBehind_L4 a0 n (f : Int) (k : Int) σ) (fun v s => s = σ ∧ ((v = -1 ∧ ∀ j (hj : j < L.length), f < j → ¬ bOne L[f].1 L[j].1) ∨ ∃ j : Nat, v = (j : Int) ∧ ∃ hj : j < L.length, f < j ∧ bOne L[f].1 L[j].1 ∧ ∀ j' (hj' : j' < L.length), f < j' → j' < j → ¬ bOne L[f].1 L[j'].1))
  | 0, _, _, _, _, _, _ => zP'.no
  | n + 1, k, σ, hc, h1, h2, h3 => by
    unfold g_ca_otherBehind_L4
    try dsimp +instances only
    rw [hc.1]
    by_cases ck : (L.length : Int) ≤ (k : Int)
    · rw [if_pos ck]
      exact zP'.ret ⟨rfl, Or.inl ⟨rfl, fun j hj hfj => h3 j hj hfj (by omega)⟩⟩
    · have hk : k < L.length := by omega
      rw [if_neg ck, if_pos (by omega), (hc.2 f hf).1, if_pos (by omega), (hc.2 k hk).1, c_join (hb _ (List.getElem_mem hf)) (hb _ (List.getElem_mem hk))]
      rw [Option.bind_some]
      try dsimp +instances only
      by_cases cj : bOne L[f].1 L[k].1
      · rw [if_pos cj, if_neg (show ¬ (1 : Int) = 0 by decide)]
        exact zP'.ret ⟨rfl, Or.inr ⟨k, rfl, hk, h1, cj, fun j hj a b => h3 j hj a b⟩⟩
      · rw [if_neg cj, if_pos rfl, w32_id (x := (k : Int) + 1) (by omega) (by omega), show (k : Int) + 1 = ((k + 1 : Nat) : Int) by omega]
        refine k_other hL hb hf n (k + 1) σ hc (by omega) (by omega) (fun j hj a b => ?_)
        by_cases c : j = k
        · subst c
          exact cj
        · exact h3 j hj a (by omega)
theorem k_early {a0 : Nat} {L : List Rg} (hL : L.length ≤ 181) (hb : ∀ r ∈ L, bOk r.1) {f : Nat} (hf : f < L.length) : ∀ (n k : Nat) (σ : zS), cRs σ a0 L → k ≤ f → (∀ j (hj : j < L.length), j < k → ¬ bOne L[j].1 L[f].1) → zP' (g_ca_earliestFor_L2 a0 n (f : Int) (k : Int) σ) (fun v s => s = σ ∧ ∃ e : Nat, v = (e : Int) ∧ e ≤ f ∧ ∀ j (hj : j < L.length), j < e → ¬ bOne L[j].1 L[f].1)
  | 0, _, _, _, _, _ => zP'.no
  | n + 1, k, σ, hc, h1, h3 => by
    unfold g_ca_earliestFor_L2
    try dsimp +instances only
    by_cases ck : (f : Int) ≤ (k : Int)
    · have ek : k = f := by omega
      subst ek
      rw [if_pos ck]
      exact zP'.ret ⟨rfl, k, rfl, Nat.le_refl _, h3⟩
    · have hk : k < L.length := by omega
      rw [if_neg ck, if_pos (by omega), if_pos (by omega), (hc.2 f hf).1, (hc.2 k hk).1, c_join (hb _ (List.getElem_mem hk)) (hb _ (List.getElem_mem hf))]
      rw [Option.bind_some]
      try dsimp +instances only
      by_cases cj : bOne L[k].1 L[f].1
      · rw [if_pos cj, if_neg (show ¬ (1 : Int) = 0 by decide)]
        exact zP'.ret ⟨rfl, k, rfl, h1, h3⟩
      · rw [if_neg cj, if_pos rfl, w32_id (x := (k : Int) + 1) (by omega) (by omega), show (k : Int) + 1 = ((k + 1 : Nat) : Int) by omega]
        refine k_early hL hb hf n (k + 1) σ hc (by omega) (fun j hj a => ?_)
        by_cases c : j = k
        · subst c
          exact cj
        · exact h3 j hj (by omega)
def hOk (r : Rg) : Prop := bOk r.1 ∧ (r.2.1.1 < 0 ∨ bOk r.2.1)
theorem mJoinH {r s : Rg} (h1 : hOk r) (h2 : hOk s) : hOk (mJoin r s) := by
  refine ⟨(bAro_ok h1.1 h2.1).1, ?_⟩
  show (if s.2.1.1 < 0 then r.2.1 else bAro r.2.1 s.2.1).1 < 0 ∨ bOk (if s.2.1.1 < 0 then r.2.1 else bAro r.2.1 s.2.1)
  by_cases c : s.2.1.1 < 0
  · rw [if_pos c]
    exact h1.2
  · rw [if_neg c]
    have k2 := h2.2.resolve_left c
    by_cases c1 : r.2.1.1 < 0
    · rw [bAro_neg (by omega)]
      exact Or.inr k2
    · exact Or.inr (bAro_ok (h1.2.resolve_left c1) k2).1
theorem k_into {a0 i j : Nat} {I : Nat → Bool} {rn : Bx → Int} {st : Int → Int} {L : List Rg} {ct : Int → Int} {σ : zS} (ha : a0 = 48 ∨ a0 = 106) (h : cSt σ a0 I rn st L ct) (hL : L.length ≤ 181) (hij : i < j) (hj : j < L.length) (hk : ∀ r ∈ L, hOk r) : zP' (g_ca_mergeInto a0 (i : Int) (j : Int) σ) (fun _ s => cSt s a0 I rn st (jnL L i j (jnR L i j)) (upC ct 14 (w32 (ct 14 + 1))) ∧ ∀ x y, (x < a0 + 3 ∨ a0 + 7 < x) → (x ≠ a0 ∨ (y ≠ 2 ∧ y ≠ 14)) → s x y = σ x y) := by
  have hi : i < L.length := by omega
  have gi : 0 ≤ (i : Int) ∧ (i : Int) < 181 := by omega
  have gj : 0 ≤ (j : Int) ∧ (j : Int) < 181 := by omega
  obtain ⟨p1, p2, p3, p4, p5⟩ := h.1.2 i hi
  obtain ⟨q1, q2, q3, q4, q5⟩ := h.1.2 j hj
  have oi := hk _ (List.getElem_mem hi)
  have oj := hk _ (List.getElem_mem hj)
  have hne : ¬ (j : Int) = (i : Int) := by omega
  unfold g_ca_mergeInto
  rw [if_pos gi, if_pos gj, p1, q1]
  try dsimp +instances only
  have ea := c_around (σ := σ) (Or.inr oi.1) (Or.inr oj.1)
  rw [encH_ok oi.1, encH_ok oj.1, if_neg oj.1.n, encH_ok (bAro_ok oi.1 oj.1).1] at ea
  rw [ea]
  rw [Option.bind_some]
  try dsimp +instances only
  generalize hs1 : zu σ (a0 + 4) (i : Int) (enc (bAro L[i].1 L[j].1)) = s1
  have o1 : ∀ c y, (c ≠ a0 + 4 ∨ y ≠ (i : Int)) → s1 c y = σ c y := fun c y k => by rw [← hs1]; exact zu_c k
  rw [if_pos gi]
  rw [if_pos gi]
  rw [if_pos gj, o1 (a0 + 5) (i : Int) (by omega), o1 (a0 + 5) (j : Int) (by omega), p4, q4, p_min]
  rw [Option.bind_some]
  try dsimp +instances only
  generalize hs2 : zu s1 (a0 + 5) (i : Int) (zmn 9999 (w32 (L[i].2.2.2.1 + L[j].2.2.2.1))) = s2
  have o2 : ∀ c y, (c ≠ a0 + 4 ∨ y ≠ (i : Int)) → (c ≠ a0 + 5 ∨ y ≠ (i : Int)) → s2 c y = σ c y := fun c y k k2 => by rw [← hs2]; exact (zu_c k2).trans (o1 c y k)
  rw [if_pos gi]
  rw [if_pos gi]
  rw [if_pos gj, o2 (a0 + 6) (i : Int) (by omega) (by omega), o2 (a0 + 6) (j : Int) (by omega) (by omega), p2, q2, c_around oi.2 oj.2]
  rw [Option.bind_some]
  try dsimp +instances only
  generalize hs3 : zu s2 (a0 + 6) (i : Int) (encH (if L[j].2.1.1 < 0 then L[i].2.1 else bAro L[i].2.1 L[j].2.1)) = s3
  have o3 : ∀ c y, (c ≠ a0 + 4 ∨ y ≠ (i : Int)) → (c ≠ a0 + 5 ∨ y ≠ (i : Int)) → (c ≠ a0 + 6 ∨ y ≠ (i : Int)) → s3 c y = σ c y := fun c y k k2 k3 => by rw [← hs3]; exact (zu_c k3).trans (o2 c y k k2)
  rw [if_pos gi]
  rw [if_pos gi]
  rw [if_pos gj, o3 (a0 + 7) (i : Int) (by omega) (by omega) (by omega), o3 (a0 + 7) (j : Int) (by omega) (by omega) (by omega), p5, q5, p_maxL]
  rw [Option.bind_some]
  try dsimp +instances only
  rw [if_pos gi]
  generalize hs4 : zu s3 (a0 + 7) (i : Int) (if L[i].2.2.2.2 < L[j].2.2.2.2 then L[j].2.2.2.2 else L[i].2.2.2.2) = s4
  have o4 : ∀ c y, (c < a0 + 4 ∨ a0 + 7 < c ∨ y ≠ (i : Int)) → s4 c y = σ c y := fun c y k => by rw [← hs4]; exact (zu_c (by omega)).trans (o3 c y (by omega) (by omega) (by omega))
  have h4 : cSt s4 a0 I rn st (L.set i (jnR L i j)) ct := by
    refine cSt.set ha h (fun c y k => o4 c y (by omega)) ?_
    rw [jnR_eq hi hj]
    refine ⟨?_, ?_, ?_, ?_, ?_⟩
    · rw [← hs4, zu_a (by omega), ← hs3, zu_a (by omega), ← hs2, zu_a (by omega), ← hs1]
      exact zu_e rfl
    · rw [← hs4, zu_a (by omega), ← hs3]
      exact zu_e rfl
    · rw [o4 (a0 + 3) (i : Int) (by omega)]
      exact p3
    · rw [← hs4, zu_a (by omega), ← hs3, zu_a (by omega), ← hs2]
      exact zu_e rfl
    · rw [← hs4]
      exact zu_e rfl
  refine zP'.bind (c_remove h4.1 (by rw [List.length_set]; exact hL) (show j < (L.set i (jnR L i j)).length by rw [List.length_set]; exact hj)) (fun _ s5 p => ?_)
  obtain ⟨r1, r2⟩ := p
  try dsimp +instances only
  have h5 : cSt s5 a0 I rn st (jnL L i j (jnR L i j)) ct := by
    obtain ⟨-, k2, k3, k4, k5, k6⟩ := h4
    refine ⟨r1, fun y y1 y2 => (r2 a0 y (by omega) (by omega)).trans (k2 y y1 y2), fun y y1 y2 => (r2 (a0 + 2) y (by omega) (by omega)).trans (k3 y y1 y2), STb_mv k4 (fun c y k1 k2 => r2 c y (by omega) (by omega)), k5, fun b => ?_⟩
    rw [rnC_mv (fun c y k1 k2 => r2 c y (by omega) (by omega))]
    exact k6 b
  have h6 := cSt.ct (i := 14) (v := w32 (s5 a0 14 + 1)) ha h5 (by decide)
  rw [h5.2.1 14 (by decide) (by decide)] at h6 ⊢
  exact zP'.ret ⟨h6, fun x y k1 k2 => by rw [zu_c (by omega), r2 x y k1 (by omega), o4 x y (by omega)]⟩
/-- so many times one more -/
def bmp : Nat → Int → Int
  | 0, x => x
  | m + 1, x => bmp m (w32 (x + 1))
theorem k_merge17 {a0 : Nat} {I : Nat → Bool} {rn : Bx → Int} {st : Int → Int} (ha : a0 = 48 ∨ a0 = 106) : ∀ (n f : Nat) (t : Int) (L : List Rg) (ct : Int → Int) (σ : zS), cSt σ a0 I rn st L ct → L.length ≤ 181 → (∀ r ∈ L, hOk r) → f ≤ L.length → (∀ a b, prF L a b → f ≤ a) → (L.length : Int) * 182 + ((L.length : Int) - (f : Int)) < t → t < 2147483648 → zP' (g_ca_merge_L17 a0 n (f : Int) t σ) (fun _ s => ∃ m L', MGn m L L' ∧ (∀ r ∈ L', hOk r) ∧ L'.length ≤ L.length ∧ cSt s a0 I rn st L' (upC ct 14 (bmp m (ct 14))) ∧ ∀ x y, (x < a0 + 3 ∨ a0 + 7 < x) → (x ≠ a0 ∨ (y ≠ 2 ∧ y ≠ 14)) → s x y = σ x y)
  | 0, _, _, _, _, _, _, _, _, _, _, _, _ => zP'.no
  | n + 1, f, t, L, ct, σ, h, hL, hk, hf, hF, ht, ht2 => by
    unfold g_ca_merge_L17
    have up0 : ∀ x : Int, upC ct 14 (bmp 0 (ct 14)) x = ct x := fun x => by
      unfold upC bmp
      by_cases c : x = 14
      · rw [if_pos c, c]
      · rw [if_neg c]
    rw [if_neg (by omega)]
    try dsimp +instances only
    rw [h.1.1]
    by_cases cf : (L.length : Int) ≤ (f : Int)
    · rw [if_pos cf]
      refine zP'.ret ⟨0, L, ⟨fun a b hp => ?_, rfl⟩, hk, Nat.le_refl _, ?_, fun _ _ _ _ => rfl⟩
      · have := hF a b hp
        obtain ⟨h1, -⟩ := hp
        omega
      · rw [show upC ct 14 (bmp 0 (ct 14)) = ct from funext up0]
        exact h
    · have hfl : f < L.length := by omega
      rw [if_neg cf]
      unfold g_ca_otherBehind
      rw [w32_id (x := (f : Int) + 1) (by omega) (by omega), show (f : Int) + 1 = ((f + 1 : Nat) : Int) by omega]
      refine zP'.bind (k_other hL (fun r hr => (hk r hr).1) hfl zK (f + 1) σ h.1 (by omega) (by omega) (fun j hj a b => absurd b (by omega))) (fun v s p => ?_)
      obtain ⟨rfl, p⟩ := p
      try dsimp +instances only
      unfold g_ca_merge_L57
      rw [w32_id (x := t - 1) (by omega) (by omega)]
      rcases p with ⟨rfl, p⟩ | ⟨j, rfl, hj, hfj, hb, hlo⟩
      · rw [if_neg (by decide)]
        try rw [w32_id (x := ((f + 1 : Nat) : Int)) (by omega) (by omega)]
        refine k_merge17 ha n (f + 1) (t - 1) L ct s h hL hk (by omega) (fun a b hp => ?_) (by omega) (by omega)
        have h1 := hF a b hp
        by_cases ca : a = f
        · subst ca
          obtain ⟨k1, k2, k3, k4⟩ := hp
          exact absurd k4 (p b k2 k3)
        · omega
      · rw [if_pos (by omega)]
        have first : isF L f j := ⟨⟨hfl, hj, hfj, hb⟩, fun a b hp => by
          have h1 := hF a b hp
          by_cases ca : f = a
          · subst ca
            obtain ⟨k1, k2, k3, k4⟩ := hp
            refine Or.inr ⟨rfl, Classical.byContradiction (fun hn => hlo b k2 k3 (by omega) k4)⟩
          · exact Or.inl (by omega)⟩
        refine zP'.bind (k_into ha h hL hfj hj hk) (fun _ s1 p1 => ?_)
        obtain ⟨h1, o1⟩ := p1
        try dsimp +instances only
        have hl := jn_len (i := f) (r := jnR L f j) hj
        have hk1 : ∀ r ∈ jnL L f j (jnR L f j), hOk r := fun r hr => by
          unfold jnL at hr
          rcases List.mem_or_eq_of_mem_set (List.mem_of_mem_eraseIdx hr) with h | h
          · exact hk r h
          · rw [h, jnR_eq hfl hj]
            exact mJoinH (hk _ (List.getElem_mem hfl)) (hk _ (List.getElem_mem hj))
        have hf1 : f < (jnL L f j (jnR L f j)).length := by omega
        unfold g_ca_earliestFor
        refine zP'.bind (k_early (by omega) (fun r hr => (hk1 r hr).1) hf1 zK 0 s1 h1.1 (Nat.zero_le _) (fun j hj a => absurd a (Nat.not_lt_zero _))) (fun v s2 p2 => ?_)
        obtain ⟨rfl, e, rfl, he, hE⟩ := p2
        try dsimp +instances only
        refine (k_merge17 ha n e (t - 1) _ _ s2 h1 (by omega) hk1 (by omega) (jn_first hfj hj hF he (fun a h1 h2 _ => hE a h2 h1)) (by omega) (by omega)).imp (fun _ s3 p3 => ?_)
        obtain ⟨m, L', g1, g2, g3, g4, g5⟩ := p3
        refine ⟨m + 1, L', ⟨f, j, first, g1⟩, g2, by omega, ?_, fun x y k1 k2 => (g5 x y k1 k2).trans (o1 x y k1 k2)⟩
        have e14 : upC (upC ct 14 (w32 (ct 14 + 1))) 14 (bmp m (upC ct 14 (w32 (ct 14 + 1)) 14)) = upC ct 14 (bmp (m + 1) (ct 14)) := by
          funext x
          unfold upC
          by_cases c : x = 14
          · rw [if_pos c, if_pos c, if_pos rfl]
            rfl
          · rw [if_neg c, if_neg c, if_neg c]
        rw [← e14]
        exact g4
