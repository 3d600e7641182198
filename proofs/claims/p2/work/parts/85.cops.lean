/-! THE CACHE OF THE CLASS: its state told by a list of regions and counters; asking, weighing, hitting, a new region -/
def upC (ct : Int → Int) (i v : Int) : Int → Int := fun j => if j = i then v else ct j
def cSt (σ : zS) (a0 : Nat) (I : Nat → Bool) (rn : Bx → Int) (st : Int → Int) (L : List Rg) (ct : Int → Int) : Prop := cRs σ a0 L ∧ (∀ i : Int, 8 ≤ i → i ≤ 15 → σ a0 i = ct i) ∧ (∀ i : Int, 0 ≤ i → i < 7 → σ (a0 + 2) i = st i) ∧ STb σ 41 I ∧ (∀ r, I r = true → r < 60) ∧ ∀ b, rnC σ I b = rn b
theorem STb_mv {σ s : zS} {I : Nat → Bool} (h : STb σ 41 I) (e : ∀ c j, 41 ≤ c → c ≤ 47 → s c j = σ c j) : STb s 41 I := fun i r hi hr => by
  have g := h i r hi hr
  show bq (s 46 (i : Int)) r = (I r && decide (s 42 (r : Int) < (i : Int))) ∧ bq (s 47 (i : Int)) r = (I r && decide (s 43 (r : Int) < (i : Int)))
  rw [e 46 _ (by decide) (by decide), e 47 _ (by decide) (by decide), e 42 _ (by decide) (by decide), e 43 _ (by decide) (by decide)]
  exact g
theorem rnC_mv {σ s : zS} {I : Nat → Bool} {b : Bx} (e : ∀ c j, 41 ≤ c → c ≤ 47 → s c j = σ c j) : rnC s I b = rnC σ I b := by
  unfold rnC
  rw [show s 42 = σ 42 from funext (fun j => e 42 j (by decide) (by decide)), show s 43 = σ 43 from funext (fun j => e 43 j (by decide) (by decide))]
theorem cRs_mv {σ s : zS} {a0 : Nat} {L : List Rg} (h : cRs σ a0 L) (e : ∀ c j, ((c = a0 ∧ j = 2) ∨ (a0 + 3 ≤ c ∧ c ≤ a0 + 7)) → s c j = σ c j) : cRs s a0 L := ⟨(e a0 2 (by omega)).trans h.1, fun i hi => by
  have g := h.2 i hi
  unfold cRg at *
  rw [e _ _ (by omega), e _ _ (by omega), e _ _ (by omega), e _ _ (by omega), e _ _ (by omega)]
  exact g⟩
theorem cSt.mv {σ s : zS} {a0 : Nat} {I : Nat → Bool} {rn : Bx → Int} {st : Int → Int} {L : List Rg} {ct : Int → Int} (h : cSt σ a0 I rn st L ct) (e : ∀ c j, ((41 ≤ c ∧ c ≤ 47) ∨ (c = a0 ∧ (j = 2 ∨ (8 ≤ j ∧ j ≤ 15))) ∨ (a0 + 2 ≤ c ∧ c ≤ a0 + 7)) → s c j = σ c j) : cSt s a0 I rn st L ct := by
  obtain ⟨h1, h2, h3, h4, h5, h6⟩ := h
  refine ⟨cRs_mv h1 (fun c j k => e c j (by omega)), fun i i1 i2 => (e a0 i (by omega)).trans (h2 i i1 i2), fun i i1 i2 => (e (a0 + 2) i (by omega)).trans (h3 i i1 i2), STb_mv h4 (fun c j k1 k2 => e c j (by omega)), h5, fun b => ?_⟩
  rw [rnC_mv (fun c j k1 k2 => e c j (by omega))]
  exact h6 b
/-- one region's cells are others -/
theorem cSt.set {σ s : zS} {a0 k : Nat} {I : Nat → Bool} {rn : Bx → Int} {st : Int → Int} {L : List Rg} {ct : Int → Int} {r : Rg} (ha : a0 = 48 ∨ a0 = 106) (h : cSt σ a0 I rn st L ct) (e : ∀ c j, ((41 ≤ c ∧ c ≤ 47) ∨ (c = a0 ∧ (j = 2 ∨ (8 ≤ j ∧ j ≤ 15))) ∨ c = a0 + 2 ∨ (a0 + 3 ≤ c ∧ c ≤ a0 + 7 ∧ j ≠ (k : Int))) → s c j = σ c j) (g : cRg s a0 (k : Int) r) : cSt s a0 I rn st (L.set k r) ct := by
  obtain ⟨h1, h2, h3, h4, h5, h6⟩ := h
  refine ⟨⟨?_, fun i hi => ?_⟩, fun i i1 i2 => (e a0 i (by omega)).trans (h2 i i1 i2), fun i i1 i2 => (e (a0 + 2) i (by omega)).trans (h3 i i1 i2), STb_mv h4 (fun c j k1 k2 => e c j (by omega)), h5, fun b => ?_⟩
  · rw [List.length_set]
    exact (e a0 2 (by omega)).trans h1.1
  · rw [List.length_set] at hi
    rw [List.getElem_set]
    by_cases ci : k = i
    · subst ci
      rw [if_pos rfl]
      exact g
    · rw [if_neg ci]
      have g := h1.2 i hi
      unfold cRg at *
      rw [e _ _ (by omega), e _ _ (by omega), e _ _ (by omega), e _ _ (by omega), e _ _ (by omega)]
      exact g
  · rw [rnC_mv (fun c j k1 k2 => e c j (by omega))]
    exact h6 b
/-- a counter is another -/
theorem cSt.ct {σ : zS} {a0 : Nat} {I : Nat → Bool} {rn : Bx → Int} {st : Int → Int} {L : List Rg} {ct : Int → Int} {i v : Int} (ha : a0 = 48 ∨ a0 = 106) (h : cSt σ a0 I rn st L ct) (hi : 8 ≤ i ∧ i ≤ 15) : cSt (zu σ a0 i v) a0 I rn st L (upC ct i v) := by
  obtain ⟨h1, h2, h3, h4, h5, h6⟩ := h
  refine ⟨cRs_mv h1 (fun c j k => zu_c (by omega)), fun j j1 j2 => ?_, fun j i1 i2 => (zu_a (by omega)).trans (h3 j i1 i2), STb_mv h4 (fun c j k1 k2 => zu_a (by omega)), h5, fun b => ?_⟩
  · unfold upC
    by_cases cj : j = i
    · rw [if_pos cj, zu_e cj]
    · rw [if_neg cj, zu_i cj]
      exact h2 j j1 j2
  · rw [rnC_mv (fun c j k1 k2 => zu_a (by omega))]
    exact h6 b
def csP (rn : Bx → Int) (st : Int → Int) (b : Bx) : Int := w32 (st 0 + rn b)
def wtP (rn : Bx → Int) (st : Int → Int) (lev : Int) (b : Bx) (hits : Int) : Int := wgt lev (csP rn st b) hits (1 + rn b)
def reW (rn : Bx → Int) (st : Int → Int) (lev : Int) (r : Rg) : Rg := (r.1, r.2.1, r.2.2.1, r.2.2.2.1, wtP rn st lev r.1 r.2.2.2.1)
theorem k_weigh {a0 k : Nat} {I : Nat → Bool} {rn : Bx → Int} {st : Int → Int} {L : List Rg} {ct : Int → Int} {σ : zS} (ha : a0 = 48 ∨ a0 = 106) (h : cSt σ a0 I rn st L ct) (hL : L.length ≤ 181) (hk : k < L.length) (hb : bOk L[k].1) : ∃ s, g_ca_weigh a0 (k : Int) σ = some ((), s) ∧ cSt s a0 I rn st (L.set k (reW rn st (ct 9) L[k])) ct ∧ ∀ c j, (c ≠ a0 + 7 ∨ j ≠ (k : Int)) → s c j = σ c j := by
  have g := h.1.2 k hk
  have e := c_weigh (a0 := a0) (k := (k : Int)) (σ := σ) (by omega) g.1 hb h.2.2.2.1 h.2.2.2.2.1
  rw [h.2.2.2.2.2, h.2.1 9 (by decide) (by decide), h.2.2.1 0 (by decide) (by decide), g.2.2.2.1] at e
  refine ⟨_, e, cSt.set ha h (fun c j k => zu_c (by omega)) ?_, fun c j k => zu_c k⟩
  obtain ⟨g1, g2, g3, g4, -⟩ := g
  exact ⟨(zu_a (by omega)).trans g1, (zu_a (by omega)).trans g2, (zu_a (by omega)).trans g3, (zu_a (by omega)).trans g4, zu_e rfl⟩
/-- a box is asked for -/
def askP (rn : Bx → Int) (st : Int → Int) (ct : Int → Int) (b : Bx) : Int → Int := upC (upC ct 10 (w32 (ct 10 + 1))) 11 (w32 (ct 11 + csP rn st b))
theorem k_ask {a0 : Nat} {I : Nat → Bool} {rn : Bx → Int} {st : Int → Int} {L : List Rg} {ct : Int → Int} {σ : zS} {b : Bx} (ha : a0 = 48 ∨ a0 = 106) (h : cSt σ a0 I rn st L ct) (hb : bOk b) : ∃ s, g_ca_ask a0 (enc b) σ = some ((), s) ∧ cSt s a0 I rn st L (askP rn st ct b) ∧ ∀ c j, (c ≠ a0 ∨ (j ≠ 10 ∧ j ≠ 11)) → s c j = σ c j := by
  unfold g_ca_ask
  try dsimp +instances only
  have h1 := cSt.ct (i := 10) (v := w32 (σ a0 10 + 1)) ha h (by decide)
  have e := c_costOf (a0 := a0) (b := b) hb h1.2.2.2.1 h1.2.2.2.2.1
  rw [e]
  rw [Option.bind_some]
  try dsimp +instances only
  have h2 := cSt.ct (i := 11) (v := w32 (zu σ a0 10 (w32 (σ a0 10 + 1)) a0 11 + w32 (zu σ a0 10 (w32 (σ a0 10 + 1)) (a0 + 2) 0 + rnC (zu σ a0 10 (w32 (σ a0 10 + 1))) I b))) ha h1 (by decide)
  refine ⟨_, rfl, ?_, fun c j k => by rw [zu_c (by omega), zu_c (by omega)]⟩
  have q : w32 (zu σ a0 10 (w32 (σ a0 10 + 1)) a0 11 + w32 (zu σ a0 10 (w32 (σ a0 10 + 1)) (a0 + 2) 0 + rnC (zu σ a0 10 (w32 (σ a0 10 + 1))) I b)) = w32 (ct 11 + csP rn st b) := by
    rw [h1.2.2.2.2.2, h1.2.2.1 0 (by decide) (by decide), zu_i (by decide), h.2.1 11 (by decide) (by decide)]
    rfl
  unfold askP
  rw [← h.2.1 10 (by decide) (by decide), ← q]
  exact h2
def vdB : Bx := (-5, -5, -5, -5)
def newR (rn : Bx → Int) (st : Int → Int) (ct : Int → Int) (b : Bx) : Rg := reW rn st (ct 9) (b, vdB, ct 8, 0, 0)
theorem k_addNew {a0 : Nat} {I : Nat → Bool} {rn : Bx → Int} {st : Int → Int} {L : List Rg} {ct : Int → Int} {σ : zS} {b : Bx} (ha : a0 = 48 ∨ a0 = 106) (h : cSt σ a0 I rn st L ct) (hL : L.length < 181) (hb : bOk b) : zP' (g_ca_addNew a0 (enc b) σ) (fun _ s => cSt s a0 I rn st (L ++ [newR rn st ct b]) (upC ct 8 (w32 (ct 8 + 1))) ∧ ∀ c j, (c < a0 + 3 ∨ a0 + 7 < c) → (c ≠ a0 ∨ (j ≠ 2 ∧ j ≠ 8)) → s c j = σ c j) := by
  unfold g_ca_addNew
  have P := c_addLast (b := b) (h := vdB) (hits := 0) (w := 0) h.1 hL
  have P : zP' (g_ca_addLast a0 (enc b) 0 (-1) 0 σ) _ := P
  refine zP'.bind P (fun v s p => ?_)
  obtain ⟨rfl, p1, p2, p3⟩ := p
  try dsimp +instances only
  rw [if_neg (show ¬ (1 : Int) = 0 by decide), h.2.1 8 (by decide) (by decide)] at *
  have hs : cSt s a0 I rn st (L ++ [(b, vdB, ct 8, 0, 0)]) (upC ct 8 (w32 (ct 8 + 1))) := by
    obtain ⟨-, h2, h3, h4, h5, h6⟩ := h
    refine ⟨p1, fun i i1 i2 => ?_, fun i i1 i2 => (p3 (a0 + 2) i (by omega) (by omega)).trans (h3 i i1 i2), STb_mv h4 (fun c j k1 k2 => p3 c j (by omega) (by omega)), h5, fun b => ?_⟩
    · unfold upC
      by_cases c8 : i = 8
      · rw [if_pos c8, c8]
        exact p2
      · rw [if_neg c8, p3 a0 i (by omega) (by omega)]
        exact h2 i i1 i2
    · rw [rnC_mv (fun c j k1 k2 => p3 c j (by omega) (by omega))]
      exact h6 b
  have hl : (L ++ [((b, vdB, ct 8, 0, 0) : Rg)]).length = L.length + 1 := by
    rw [List.length_append]
    rfl
  have hn : s a0 2 = (L.length : Int) + 1 := by
    rw [p1.1, hl]
    omega
  rw [hn, w32_id (x := (L.length : Int) + 1 - 1) (by omega) (by omega), show (L.length : Int) + 1 - 1 = (L.length : Int) by omega]
  have el : (L ++ [((b, vdB, ct 8, 0, 0) : Rg)])[L.length]'(by rw [hl]; omega) = (b, vdB, ct 8, 0, 0) := by
    rw [List.getElem_append_right (Nat.le_refl _)]
    simp
  obtain ⟨t, e1, e2, e3⟩ := k_weigh (k := L.length) ha hs (by rw [hl]; omega) (by rw [hl]; omega) (by rw [el]; exact hb)
  rw [e1]
  rw [Option.bind_some]
  try dsimp +instances only
  refine zP'.ret ⟨?_, fun c j k1 k2 => by rw [e3 c j (by omega), p3 c j k1 k2]⟩
  rw [el] at e2
  have eq : (L ++ [((b, vdB, ct 8, 0, 0) : Rg)]).set L.length (reW rn st (upC ct 8 (w32 (ct 8 + 1)) 9) (b, vdB, ct 8, 0, 0)) = L ++ [newR rn st ct b] := by
    rw [List.set_append_right _ _ (Nat.le_refl _), Nat.sub_self]
    rfl
  rw [eq] at e2
  exact e2
/-- a region is hit -/
def hitR (rn : Bx → Int) (st : Int → Int) (lev : Int) (c : Bx) (r : Rg) : Rg := reW rn st lev (r.1, bAro r.2.1 c, r.2.2.1, zmn 9999 (w32 (r.2.2.2.1 + 1)), r.2.2.2.2)
theorem k_hit {a0 k : Nat} {I : Nat → Bool} {rn : Bx → Int} {st : Int → Int} {L : List Rg} {ct : Int → Int} {σ : zS} {c : Bx} (ha : a0 = 48 ∨ a0 = 106) (h : cSt σ a0 I rn st L ct) (hL : L.length ≤ 181) (hk : k < L.length) (hb : bOk L[k].1) (hh : L[k].2.1.1 < 0 ∨ bOk L[k].2.1) (hc : bOk c) : zP' (g_ca_hit a0 (k : Int) (enc c) σ) (fun _ s => cSt s a0 I rn st (L.set k (hitR rn st (ct 9) c L[k])) ct ∧ ∀ x j, (x < a0 + 3 ∨ a0 + 7 < x) → s x j = σ x j) := by
  have g := h.1.2 k hk
  have gk : 0 ≤ (k : Int) ∧ (k : Int) < 181 := by omega
  obtain ⟨g1, g2, g3, g4, g5⟩ := g
  unfold g_ca_hit
  rw [if_pos gk, g4]
  try dsimp +instances only
  rw [p_min]
  rw [Option.bind_some]
  try dsimp +instances only
  rw [if_pos gk]
  rw [if_pos gk]
  generalize hv : zmn 9999 (w32 (L[k].2.2.2.1 + 1)) = hv'
  have e6 : zu σ (a0 + 5) (k : Int) hv' (a0 + 6) (k : Int) = encH L[k].2.1 := (zu_a (by omega)).trans g2
  rw [e6, ← encH_ok hc, c_around hh (Or.inr hc), if_neg hc.n]
  rw [Option.bind_some]
  try dsimp +instances only
  rw [if_pos gk]
  have hs : cSt (zu (zu σ (a0 + 5) (k : Int) hv') (a0 + 6) (k : Int) (encH (bAro L[k].2.1 c))) a0 I rn st (L.set k (L[k].1, bAro L[k].2.1 c, L[k].2.2.1, hv', L[k].2.2.2.2)) ct := by
    refine cSt.set ha h (fun x j q => by rw [zu_c (by omega), zu_c (by omega)]) ⟨?_, ?_, ?_, ?_, ?_⟩
    · rw [zu_a (by omega), zu_a (by omega)]; exact g1
    · exact zu_e rfl
    · rw [zu_a (by omega), zu_a (by omega)]; exact g3
    · rw [zu_a (by omega)]; exact zu_e rfl
    · rw [zu_a (by omega), zu_a (by omega)]; exact g5
  have hk2 : k < (L.set k (L[k].1, bAro L[k].2.1 c, L[k].2.2.1, hv', L[k].2.2.2.2)).length := by
    rw [List.length_set]
    exact hk
  have el : (L.set k (L[k].1, bAro L[k].2.1 c, L[k].2.2.1, hv', L[k].2.2.2.2))[k]'hk2 = (L[k].1, bAro L[k].2.1 c, L[k].2.2.1, hv', L[k].2.2.2.2) := by
    rw [List.getElem_set_self]
  obtain ⟨t, e1, e2, e3⟩ := k_weigh ha hs (by rw [List.length_set]; exact hL) hk2 (by rw [el]; exact hb)
  rw [e1]
  rw [Option.bind_some]
  try dsimp +instances only
  refine zP'.ret ⟨?_, fun x j q => by rw [e3 x j (by omega), zu_c (by omega), zu_c (by omega)]⟩
  rw [el, List.set_set] at e2
  unfold hitR
  rw [hv]
  exact e2
