/-! THE REFERENCE'S REGIONS: told by the same list, counters, settings and rows as the class's -/
def mRs (σ : zS) (L : List Rg) : Prop := σ 144 0 = (L.length : Int) ∧ ∀ (k : Nat) (hk : k < L.length), rgA σ (k : Int) = L[k]
def mCt (σ : zS) (ct : Int → Int) : Prop := σ 144 1 = ct 8 ∧ σ 147 0 = ct 9 ∧ ∀ i : Int, 10 ≤ i → i ≤ 15 → σ 144 (i - 8) = ct i
def mKp (σ : zS) (rn : Bx → Int) (st : Int → Int) : Prop := (∀ i : Int, 0 ≤ i → i < 7 → σ 144 (11 + i) = st i) ∧ ∀ b, rowsN σ b = rn b
def mSt (σ : zS) (rn : Bx → Int) (st : Int → Int) (L : List Rg) (ct : Int → Int) : Prop := mRs σ L ∧ mCt σ ct ∧ mKp σ rn st
theorem mKp.mv {σ s : zS} {rn : Bx → Int} {st : Int → Int} (h : mKp σ rn st) (e : ∀ j : Int, 11 ≤ j → j < 200 → s 144 j = σ 144 j) : mKp s rn st := ⟨fun i i1 i2 => (e _ (by omega) (by omega)).trans (h.1 i i1 i2), fun b => (rowsN_fr (fun j j1 j2 => e j (by omega) j2) b).trans (h.2 b)⟩
theorem mCt.mv {σ s : zS} {ct : Int → Int} (h : mCt σ ct) (e : ∀ j : Int, 1 ≤ j → j ≤ 7 → s 144 j = σ 144 j) (e0 : s 147 0 = σ 147 0) : mCt s ct := ⟨(e 1 (by decide) (by decide)).trans h.1, e0.trans h.2.1, fun i i1 i2 => (e _ (by omega) (by omega)).trans (h.2.2 i i1 i2)⟩
theorem rgA_mv {σ s : zS} {k : Int} (e : ∀ j : Int, 340 + 10 * k ≤ j → j < 350 + 10 * k → s 144 j = σ 144 j) (e0 : s 147 (121 + k) = σ 147 (121 + k)) : rgA s k = rgA σ k := by
  unfold rgA bxA
  rw [e _ (by omega) (by omega), e _ (by omega) (by omega), e _ (by omega) (by omega), e _ (by omega) (by omega), e _ (by omega) (by omega), e _ (by omega) (by omega), e _ (by omega) (by omega), e _ (by omega) (by omega), e _ (by omega) (by omega), e _ (by omega) (by omega), e0]
theorem mRs.mv {σ s : zS} {L : List Rg} (h : mRs σ L) (e : ∀ j : Int, (j = 0 ∨ (340 ≤ j ∧ j < 2740)) → s 144 j = σ 144 j) (e0 : ∀ j : Int, 121 ≤ j → j < 361 → s 147 j = σ 147 j) (hN : L.length ≤ 240) : mRs s L := ⟨(e 0 (by omega)).trans h.1, fun k hk => (rgA_mv (fun j j1 j2 => e j (by omega)) (e0 _ (by omega) (by omega))).trans (h.2 k hk)⟩
theorem mCt.up {σ : zS} {ct : Int → Int} {i j v : Int} (h : mCt σ ct) (hi : 10 ≤ i ∧ i ≤ 15) (hj : j = i - 8) : mCt (zu σ 144 j v) (upC ct i v) := by
  subst hj
  refine ⟨?_, ?_, fun k k1 k2 => ?_⟩
  · rw [zu_i (by omega), h.1]
    unfold upC
    rw [if_neg (by omega)]
  · rw [zu_a (by decide), h.2.1]
    unfold upC
    rw [if_neg (by omega)]
  · unfold upC
    by_cases c : k = i
    · rw [if_pos c, zu_e (by omega)]
    · rw [if_neg c, zu_i (by omega)]
      exact h.2.2 k k1 k2
/-- numbers grow along the list and lie below the next one -/
def asc (L : List Rg) (m : Int) : Prop := (L.map (fun r => r.2.2.1)).Pairwise (fun a b => a < b) ∧ ∀ r ∈ L, r.2.2.1 < m
theorem asc.get {L : List Rg} {m : Int} (h : asc L m) {a b : Nat} (ha : a < L.length) (hb : b < L.length) (hab : a < b) : L[a].2.2.1 < L[b].2.2.1 := by
  have g := (List.pairwise_iff_getElem.mp h.1) a b (by rw [List.length_map]; exact ha) (by rw [List.length_map]; exact hb) hab
  rw [List.getElem_map, List.getElem_map] at g
  exact g
theorem asc.er {L : List Rg} {m : Int} (h : asc L m) (k : Nat) : asc (L.eraseIdx k) m := ⟨List.Pairwise.sublist ((List.eraseIdx_sublist L k).map _) h.1, fun r hr => h.2 r (List.mem_of_mem_eraseIdx hr)⟩
theorem asc.set {L : List Rg} {m : Int} (h : asc L m) {k : Nat} {r : Rg} (hk : k < L.length) (e : r.2.2.1 = L[k].2.2.1) : asc (L.set k r) m := by
  have e2 : (L.set k r).map (fun r => r.2.2.1) = L.map (fun r => r.2.2.1) := by
    refine List.ext_getElem (by rw [List.length_map, List.length_map, List.length_set]) (fun i h1 h2 => ?_)
    rw [List.getElem_map, List.getElem_map, List.getElem_set]
    by_cases c : k = i
    · subst c
      rw [if_pos rfl, e]
    · rw [if_neg c]
  refine ⟨by rw [e2]; exact h.1, fun x hx => ?_⟩
  rcases List.mem_or_eq_of_mem_set hx with g | g
  · exact h.2 x g
  · rw [g, e]
    exact h.2 _ (List.getElem_mem hk)
theorem asc.add {L : List Rg} {m : Int} (h : asc L m) {r : Rg} (e : r.2.2.1 = m) : asc (L ++ [r]) (m + 1) := by
  refine ⟨?_, fun x hx => ?_⟩
  · rw [List.map_append, List.pairwise_append]
    refine ⟨h.1, List.pairwise_singleton _ _, fun a ha b hb => ?_⟩
    have hb : b ∈ [r.2.2.1] := hb
    rw [List.mem_singleton] at hb
    rw [hb, e]
    obtain ⟨y, hy, rfl⟩ := List.mem_map.mp ha
    exact h.2 y hy
  · rcases List.mem_append.mp hx with g | g
    · have := h.2 x g
      omega
    · rw [List.mem_singleton] at g
      rw [g, e]
      omega
theorem asc.map {L : List Rg} {m : Int} (h : asc L m) {f : Rg → Rg} (e : ∀ r, (f r).2.2.1 = r.2.2.1) : asc (L.map f) m := by
  refine ⟨?_, fun x hx => ?_⟩
  · rw [List.map_map, show ((fun r : Rg => r.2.2.1) ∘ f) = (fun r : Rg => r.2.2.1) from funext (fun r => e r)]
    exact h.1
  · obtain ⟨y, hy, rfl⟩ := List.mem_map.mp hx
    rw [e y]
    exact h.2 y hy
theorem asc.mono {L : List Rg} {m n : Int} (h : asc L m) (e : m ≤ n) : asc L n := ⟨h.1, fun r hr => by
  have := h.2 r hr
  omega⟩
theorem t_light {σ : zS} {L : List Rg} {m : Int} {f : Nat} (h : mRs σ L) (ha : asc L m) (l : isLight σ L.length f) : isLt L f := by
  obtain ⟨hf, l⟩ := l
  have w : ∀ (k : Nat) (hk : k < L.length), σ 147 (121 + (k : Int)) = L[k].2.2.2.2 ∧ σ 144 (348 + 10 * (k : Int)) = L[k].2.2.1 := fun k hk => by
    rw [← h.2 k hk]
    exact ⟨rfl, rfl⟩
  refine ⟨hf, fun k hk => ?_⟩
  obtain ⟨a1, a2⟩ := w f hf
  obtain ⟨b1, b2⟩ := w k hk
  have g := l k hk
  rw [a1, a2, b1, b2] at g
  rcases g with g | ⟨g1, g2⟩
  · exact Or.inl g
  · refine Or.inr ⟨g1, Classical.byContradiction (fun hn => ?_)⟩
    have := ha.get hk hf (by omega)
    omega
/-- the sizes together -/
theorem t_sum {σ : zS} {rn : Bx → Int} {st : Int → Int} {L : List Rg} (h : mRs σ L) (hk : mKp σ rn st) : ∀ k : Nat, k ≤ L.length → sumC σ k = szP rn (L.take k)
  | 0, _ => by
    rw [List.take_zero]
    rfl
  | k + 1, hl => by
    rw [szP_take L k (by omega), ← t_sum h hk k (by omega)]
    show sumC σ k + (1 + rowsN σ (rgA σ (k : Int)).1) = _
    rw [h.2 k (by omega), hk.2]
/-- what a region weighs -/
theorem t_wgt {s : zS} {rn : Bx → Int} {st : Int → Int} {b : Bx} {hits : Int} (h : mKp s rn st) : wgt (s 147 0) (costN s b) hits (1 + rowsN s b) = wtP rn st (s 147 0) b hits := by
  unfold wtP csP costN
  have e : s 144 11 = st 0 := h.1 0 (by decide) (by decide)
  rw [h.2 b, e]
theorem mRs.set {σ s : zS} {L : List Rg} {f : Nat} {r : Rg} (h : mRs σ L) (e0 : s 144 0 = σ 144 0) (e1 : rgA s (f : Int) = r) (e2 : ∀ k : Nat, k < L.length → k ≠ f → rgA s (k : Int) = rgA σ (k : Int)) : mRs s (L.set f r) := by
  refine ⟨by rw [List.length_set, e0]; exact h.1, fun k hk => ?_⟩
  rw [List.length_set] at hk
  rw [List.getElem_set]
  by_cases c : f = k
  · subst c
    rw [if_pos rfl]
    exact e1
  · rw [if_neg c, e2 k hk (fun x => c x.symm)]
    exact h.2 k hk
theorem mRs.er {σ s : zS} {L : List Rg} {f : Nat} (h : mRs σ L) (hf : f < L.length) (e0 : s 144 0 = (L.length : Int) - 1) (e1 : ∀ k : Nat, k < L.length - 1 → rgA s (k : Int) = if (k : Int) < (f : Int) then rgA σ (k : Int) else rgA σ ((k : Int) + 1)) : mRs s (L.eraseIdx f) := by
  have hl : (L.eraseIdx f).length = L.length - 1 := List.length_eraseIdx_of_lt hf
  refine ⟨by rw [e0, hl]; omega, fun k hk => ?_⟩
  rw [hl] at hk
  rw [e1 k hk, List.getElem_eraseIdx]
  by_cases c : k < f
  · rw [if_pos (by omega), h.2 k (by omega)]
    simp only [c, if_true, dite_true]
  · rw [if_neg (by omega), show (k : Int) + 1 = ((k + 1 : Nat) : Int) by omega, h.2 (k + 1) (by omega)]
    simp only [c, if_false, dite_false]
theorem t_tr1 {σ : zS} {rn : Bx → Int} {st : Int → Int} {L : List Rg} {ct : Int → Int} {f : Nat} (h : mSt σ rn st L ct) (hf : f < L.length) : mSt (tr1 σ (f : Int)) rn st L (lvP ct (rgD L f).2.2.2.2) := by
  obtain ⟨h1, h2, h3⟩ := h
  have ew : σ 147 (121 + (f : Int)) = (rgD L f).2.2.2.2 := by
    rw [rgD_eq hf, ← h1.2 f hf]
    rfl
  refine ⟨⟨(tr1_a (by omega)).trans h1.1, fun k hk => ?_⟩, ⟨?_, ?_, fun i i1 i2 => ?_⟩, h3.mv (fun j _ _ => tr1_a (by omega))⟩
  · rw [rgA_mv (fun j _ _ => tr1_a (by omega)) (tr1_a (by omega))]
    exact h1.2 k hk
  · rw [tr1_a (by omega), h2.1]
    rfl
  · show tr1 σ (f : Int) 147 0 = (if ct 9 < (rgD L f).2.2.2.2 then (rgD L f).2.2.2.2 else ct 9)
    unfold tr1
    rw [ew, h2.2.1]
    by_cases c : ct 9 < (rgD L f).2.2.2.2
    · rw [if_pos c, if_pos c, zu_e rfl]
    · rw [if_neg c, if_neg c]
      exact h2.2.1
  · rw [tr1_a (by omega), h2.2.2 i i1 i2]
    unfold lvP upC
    rw [if_neg (by omega)]
theorem t_trE {σ : zS} {rn : Bx → Int} {st : Int → Int} {L : List Rg} {ct : Int → Int} {f : Nat} (h : mSt σ rn st L ct) (hf : f < L.length) (hN : L.length ≤ 239) : mSt (trE σ (f : Int) (L.length : Int)) rn st (L.eraseIdx f) (upC ct 12 (w32 (ct 12 + 1))) := by
  obtain ⟨h1, h2, h3⟩ := h
  have o : ∀ a j, (a ≠ 144 ∨ (j ≠ 0 ∧ j ≠ 4 ∧ j < 340)) → (a ≠ 147 ∨ j < 121) → trE σ (f : Int) (L.length : Int) a j = σ a j := fun a j k1 k2 => trE_a (by omega) k1 k2
  refine ⟨mRs.er h1 hf ?_ (fun k hk => rgA_trE (by omega) (by omega) (by omega) (by omega)), ⟨?_, ?_, fun i i1 i2 => ?_⟩, h3.mv (fun j _ _ => o 144 j (by omega) (by omega))⟩
  · unfold trE
    rw [zu_i (by decide), zu_e rfl]
  · rw [o 144 1 (by omega) (by omega), h2.1]
    rfl
  · rw [o 147 0 (by omega) (by omega), h2.2.1]
    rfl
  · unfold upC
    by_cases c : i = 12
    · subst c
      rw [if_pos rfl]
      unfold trE
      rw [zu_e (by decide)]
      have e : σ 144 4 = ct 12 := h2.2.2 12 (by decide) (by decide)
      rw [e]
    · rw [if_neg c, o 144 _ (by omega) (by omega)]
      exact h2.2.2 i i1 i2
theorem t_trS {σ : zS} {rn : Bx → Int} {st : Int → Int} {L : List Rg} {ct : Int → Int} {f : Nat} (h : mSt σ rn st L ct) (hf : f < L.length) (hN : L.length ≤ 239) : mSt (trS σ (f : Int)) rn st (L.set f (shR rn st (ct 9) (rgD L f))) (upC ct 13 (w32 (ct 13 + 1))) := by
  obtain ⟨h1, h2, h3⟩ := h
  have g := h1.2 f hf
  rw [← rgD_eq hf] at g
  have o : ∀ a j, (a ≠ 144 ∨ (j ≠ 5 ∧ (j < 340 + 10 * (f : Int) ∨ 350 + 10 * (f : Int) ≤ j))) → (a ≠ 147 ∨ j ≠ 121 + (f : Int)) → trS σ (f : Int) a j = σ a j := fun a j k1 k2 => by rw [trS_a (by omega) k2, trH_a (by omega)]
  have kH : mKp (trH σ (f : Int)) rn st := h3.mv (fun j _ _ => trH_a (by omega))
  refine ⟨mRs.set h1 (o 144 0 (by omega) (by omega)) ?_ (fun k hk hne => rgA_mv (fun j _ _ => o 144 j (by omega) (by omega)) (o 147 _ (by omega) (by omega))), ⟨?_, ?_, fun i i1 i2 => ?_⟩, h3.mv (fun j _ _ => o 144 j (by omega) (by omega))⟩
  · have gh : bxA σ 144 (344 + 10 * (f : Int)) = (rgD L f).2.1 := by rw [← g]; rfl
    have gn : σ 144 (348 + 10 * (f : Int)) = (rgD L f).2.2.1 := by rw [← g]; rfl
    have gt : σ 144 (349 + 10 * (f : Int)) = (rgD L f).2.2.2.1 := by rw [← g]; rfl
    have b1 : bxA (trS σ (f : Int)) 144 (340 + 10 * (f : Int)) = (rgD L f).2.1 := by rw [trS_bx (by omega), trH_bx.1, gh]
    have b2 : bxA (trS σ (f : Int)) 144 (344 + 10 * (f : Int)) = vdB := by
      rw [trS_bx (by omega), trH_bx.2]
      rfl
    have bH : bxA (trH σ (f : Int)) 144 (340 + 10 * (f : Int)) = (rgD L f).2.1 := by rw [trH_bx.1, gh]
    have n1 : trS σ (f : Int) 144 (348 + 10 * (f : Int)) = (rgD L f).2.2.1 := by
      rw [trS_a (by omega) (by omega)]
      unfold trH
      rw [zu_i (by omega), zb_i (by omega), zb_i (by omega), gn]
    have tH : trH σ (f : Int) 144 (349 + 10 * (f : Int)) = w32 (Int.tdiv (rgD L f).2.2.2.1 2) := by
      unfold trH
      rw [zu_e rfl, gt]
    have t1 : trS σ (f : Int) 144 (349 + 10 * (f : Int)) = w32 (Int.tdiv (rgD L f).2.2.2.1 2) := by rw [trS_a (by omega) (by omega), tH]
    have lH : trH σ (f : Int) 147 0 = ct 9 := (trH_a (by omega)).trans h2.2.1
    have w1 : trS σ (f : Int) 147 (121 + (f : Int)) = wtP rn st (ct 9) (rgD L f).2.1 (w32 (Int.tdiv (rgD L f).2.2.2.1 2)) := by
      unfold trS
      rw [zu_a (by decide)]
      unfold trW
      rw [zu_e rfl, bH, tH, t_wgt kH, lH]
    unfold rgA
    rw [b1, b2, n1, t1, w1]
    rfl
  · rw [o 144 1 (by omega) (by omega), h2.1]
    rfl
  · rw [o 147 0 (by omega) (by omega), h2.2.1]
    rfl
  · unfold upC
    by_cases c : i = 13
    · subst c
      rw [if_pos rfl]
      unfold trS
      rw [zu_e (by decide)]
      have e : σ 144 5 = ct 13 := h2.2.2 13 (by decide) (by decide)
      rw [e]
    · rw [if_neg c, o 144 _ (by omega) (by omega)]
      exact h2.2.2 i i1 i2
theorem t_trT {σ : zS} {rn : Bx → Int} {st : Int → Int} {L : List Rg} {ct : Int → Int} {f : Nat} (h : mSt σ rn st L ct) (hf : f < L.length) (hN : L.length ≤ 239) (s5 : st 5 = 0 ∨ st 5 = 1) : mSt (trT σ (f : Int) (L.length : Int)) rn st (gvP rn st (L, ct) f).1 (gvP rn st (L, ct) f).2 := by
  have h1 := t_tr1 h hf
  have g := h.1.2 f hf
  rw [← rgD_eq hf] at g
  have e5 : σ 144 16 = st 5 := h.2.2.1 5 (by decide) (by decide)
  have gb : bxA σ 144 (340 + 10 * (f : Int)) = (rgD L f).1 := by rw [← g]; rfl
  have gh : bxA σ 144 (344 + 10 * (f : Int)) = (rgD L f).2.1 := by rw [← g]; rfl
  have g0 : σ 144 (344 + 10 * (f : Int)) = (rgD L f).2.1.1 := by rw [← g]; rfl
  unfold trT gvP
  rw [e5, g0, gb, gh]
  by_cases c : canS st (rgD L f)
  · have c1 : st 5 = 1 ∧ 0 ≤ (rgD L f).2.1.1 ∧ bArea (rgD L f).2.1 < bArea (rgD L f).1 := ⟨s5.resolve_left c.1, c.2⟩
    have c2 : canS st (rgD (L, ct).1 f) := c
    rw [if_pos c1, if_pos c2]
    exact t_trS h1 hf hN
  · have c1 : ¬ (st 5 = 1 ∧ 0 ≤ (rgD L f).2.1.1 ∧ bArea (rgD L f).2.1 < bArea (rgD L f).1) := fun k => c ⟨by omega, k.2⟩
    have c2 : ¬ canS st (rgD (L, ct).1 f) := c
    rw [if_neg c1, if_neg c2]
    exact t_trE h1 hf hN
theorem gv_asc {rn : Bx → Int} {st : Int → Int} {L : List Rg} {ct : Int → Int} {f : Nat} (hf : f < L.length) (h : asc L (ct 8)) : asc (gvP rn st (L, ct) f).1 ((gvP rn st (L, ct) f).2 8) ∧ (gvP rn st (L, ct) f).2 8 = ct 8 := by
  unfold gvP
  by_cases c : canS st (rgD (L, ct).1 f)
  · rw [if_pos c]
    refine ⟨asc.set h hf ?_, rfl⟩
    show (rgD L f).2.2.1 = _
    rw [rgD_eq hf]
  · rw [if_neg c]
    exact ⟨asc.er h f, rfl⟩
/-- TRIMMING of the reference -/
theorem t_trims0 {rn : Bx → Int} {st : Int → Int} (s1 : 0 ≤ st 1) (s2 : 0 ≤ st 2) (s5 : st 5 = 0 ∨ st 5 = 1) : ∀ (n : Nat) (L : List Rg) (ct : Int → Int) (σ : zS), mSt σ rn st L ct → L.length ≤ 239 → (∀ r ∈ L, hOk r) → asc L (ct 8) → zP' (g_m_trims_L0 n σ) (fun _ s => ∃ m L' ct', TMn rn st m (L, ct) (L', ct') ∧ (∀ r ∈ L', hOk r) ∧ L'.length ≤ L.length ∧ asc L' (ct' 8) ∧ ct' 8 = ct 8 ∧ mSt s rn st L' ct')
  | 0, _, _, _, _, _, _, _ => zP'.no
  | n + 1, L, ct, σ, h, hN2, hk, ha => by
    have hN := h.1.1
    have e13 : σ 144 13 = st 2 := h.2.2.1 2 (by decide) (by decide)
    have e12 : σ 144 12 = st 1 := h.2.2.1 1 (by decide) (by decide)
    have es : sumC σ L.length = szP rn L := by rw [t_sum h.1 h.2.2 L.length (Nat.le_refl _), List.take_length]
    have stop : g_m_trims_L0 (n + 1) σ = if st 2 < (L.length : Int) ∨ st 1 < szP rn L then g_m_trims_L30 (g_m_trims_L0 n) σ else some ((), σ) := by
      conv => lhs; unfold g_m_trims_L0
      simp only [hN, e13]
      by_cases c1 : st 2 < (L.length : Int)
      · rw [if_pos c1, if_pos (Or.inl c1)]
      · rw [if_neg c1, s_sizes hN hN2, es]
        rw [Option.bind_some]
        try dsimp only
        by_cases c2 : st 1 < szP rn L
        · rw [if_neg (by omega), if_pos (Or.inr c2)]
        · rw [if_pos (by omega), if_neg (by omega)]
    rw [stop]
    by_cases c : st 2 < (L.length : Int) ∨ st 1 < szP rn L
    · rw [if_pos c]
      have hN1 : 0 < L.length := by
        rcases Nat.eq_zero_or_pos L.length with h0 | h0
        · have e0 : L = [] := List.eq_nil_of_length_eq_zero h0
          subst e0
          have c : st 2 < (0 : Int) ∨ st 1 < (0 : Int) := c
          omega
        · exact h0
      obtain ⟨f, hf, e⟩ := s_trims30 (g := g_m_trims_L0 n) hN hN1 hN2
      have lt := t_light h.1 ha hf
      have hfl := lt.1
      rw [e]
      obtain ⟨o1, o2, o3⟩ := gv_ok (rn := rn) (st := st) (ct := ct) hfl hk
      obtain ⟨a1, a2⟩ := gv_asc (rn := rn) (st := st) hfl ha
      refine (t_trims0 s1 s2 s5 n _ _ _ (t_trT h hfl hN2 s5) (by omega) o1 a1).imp (fun _ s p => ?_)
      obtain ⟨m, L', ct', p1, p2, p3, p4, p5, p6⟩ := p
      exact ⟨m + 1, L', ct', ⟨c, f, lt, p1⟩, p2, by omega, p4, p5.trans a2, p6⟩
    · rw [if_neg c]
      exact zP'.ret ⟨0, L, ct, ⟨c, rfl⟩, hk, Nat.le_refl _, ha, rfl, h⟩
theorem t_trims {rn : Bx → Int} {st : Int → Int} {L : List Rg} {ct : Int → Int} {σ : zS} (s1 : 0 ≤ st 1) (s2 : 0 ≤ st 2) (s5 : st 5 = 0 ∨ st 5 = 1) (h : mSt σ rn st L ct) (hN : L.length ≤ 239) (hk : ∀ r ∈ L, hOk r) (ha : asc L (ct 8)) : zP' (g_m_trims σ) (fun _ s => ∃ m L' ct', TMn rn st m (L, ct) (L', ct') ∧ (∀ r ∈ L', hOk r) ∧ L'.length ≤ L.length ∧ asc L' (ct' 8) ∧ ct' 8 = ct 8 ∧ mSt s rn st L' ct') := t_trims0 s1 s2 s5 zK L ct σ h hN hk ha
