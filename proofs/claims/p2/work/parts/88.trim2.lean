/-! TRIMMING of the class: the lightest region gives way, until it is not too much -/
theorem cSt.rem {σ s : zS} {a0 k : Nat} {I : Nat → Bool} {rn : Bx → Int} {st : Int → Int} {L : List Rg} {ct : Int → Int} (ha : a0 = 48 ∨ a0 = 106) (h : cSt σ a0 I rn st L ct) (p : cRs s a0 (L.eraseIdx k) ∧ ∀ b j, (b < a0 + 3 ∨ a0 + 7 < b) → (b ≠ a0 ∨ j ≠ 2) → s b j = σ b j) : cSt s a0 I rn st (L.eraseIdx k) ct := by
  obtain ⟨r1, r2⟩ := p
  obtain ⟨-, k2, k3, k4, k5, k6⟩ := h
  refine ⟨r1, fun y y1 y2 => (r2 a0 y (by omega) (by omega)).trans (k2 y y1 y2), fun y y1 y2 => (r2 (a0 + 2) y (by omega) (by omega)).trans (k3 y y1 y2), STb_mv k4 (fun c y k1 k2 => r2 c y (by omega) (by omega)), k5, fun b => ?_⟩
  rw [rnC_mv (fun c y k1 k2 => r2 c y (by omega) (by omega))]
  exact k6 b
def frCa (a0 : Nat) (σ s : zS) : Prop := ∀ x y, (x < a0 ∨ a0 + 11 < x ∨ (x = a0 ∧ y ≠ 2 ∧ (y < 8 ∨ 15 < y)) ∨ x = a0 + 1 ∨ x = a0 + 2) → s x y = σ x y
theorem frCa.refl (a0 : Nat) (σ : zS) : frCa a0 σ σ := fun _ _ _ => rfl
theorem frCa.trans {a0 : Nat} {σ s t : zS} (h1 : frCa a0 σ s) (h2 : frCa a0 s t) : frCa a0 σ t := fun x y k => (h2 x y k).trans (h1 x y k)
theorem k_give69 {a0 l : Nat} {I : Nat → Bool} {rn : Bx → Int} {st : Int → Int} {L : List Rg} {ct : Int → Int} {σ : zS} (ha : a0 = 48 ∨ a0 = 106) (h : cSt σ a0 I rn st L ct) (hL : L.length ≤ 181) (hl : l < L.length) : zP' (g_ca_giveUp_L69 a0 (l : Int) σ) (fun _ s => cSt s a0 I rn st (L.eraseIdx l) (upC ct 12 (w32 (ct 12 + 1))) ∧ frCa a0 σ s) := by
  unfold g_ca_giveUp_L69
  refine zP'.bind (c_remove h.1 hL hl) (fun _ s p => ?_)
  try dsimp +instances only
  have h5 := cSt.rem ha h p
  have h6 := cSt.ct (i := 12) (v := w32 (s a0 12 + 1)) ha h5 (by decide)
  rw [h5.2.1 12 (by decide) (by decide)] at h6 ⊢
  exact zP'.ret ⟨h6, fun x y k => by rw [zu_c (by omega), p.2 x y (by omega) (by omega)]⟩
theorem k_giveUp {a0 l : Nat} {I : Nat → Bool} {rn : Bx → Int} {st : Int → Int} {L : List Rg} {ct : Int → Int} {σ : zS} (ha : a0 = 48 ∨ a0 = 106) (h : cSt σ a0 I rn st L ct) (hL : L.length ≤ 181) (hl : l < L.length) (ok : hOk L[l]) : zP' (g_ca_giveUp a0 (l : Int) σ) (fun _ s => cSt s a0 I rn st (gvP rn st (L, ct) l).1 (gvP rn st (L, ct) l).2 ∧ frCa a0 σ s) := by
  obtain ⟨g1, g2, g3, g4, g5⟩ := h.1.2 l hl
  have gl : 0 ≤ (l : Int) ∧ (l : Int) < 181 := by omega
  unfold g_ca_giveUp
  try dsimp +instances only
  rw [if_pos gl, h.2.1 9 (by decide) (by decide), g5, p_maxL]
  rw [Option.bind_some]
  try dsimp +instances only
  have h1 := cSt.ct (i := 9) (v := if ct 9 < L[l].2.2.2.2 then L[l].2.2.2.2 else ct 9) ha h (by decide)
  have f1 : frCa a0 σ (zu σ a0 9 (if ct 9 < L[l].2.2.2.2 then L[l].2.2.2.2 else ct 9)) := fun x y k => zu_c (by omega)
  have elv : upC ct 9 (if ct 9 < L[l].2.2.2.2 then L[l].2.2.2.2 else ct 9) = lvP ct L[l].2.2.2.2 := rfl
  rw [elv] at h1
  generalize zu σ a0 9 (if ct 9 < L[l].2.2.2.2 then L[l].2.2.2.2 else ct 9) = s1 at h1 f1
  obtain ⟨q1, q2, q3, q4, q5⟩ := h1.1.2 l hl
  have es : s1 (a0 + 1 + 1) 5 = st 5 := h1.2.2.1 5 (by decide) (by decide)
  have gone : ¬ canS st L[l] → zP' (g_ca_giveUp_L69 a0 (l : Int) s1) (fun _ s => cSt s a0 I rn st (gvP rn st (L, ct) l).1 (gvP rn st (L, ct) l).2 ∧ frCa a0 σ s) := fun hn => by
    have e12 : lvP ct L[l].2.2.2.2 12 = ct 12 := rfl
    refine (k_give69 ha h1 hL hl).imp (fun _ s p => ⟨?_, f1.trans p.2⟩)
    unfold gvP
    rw [rgD_eq (L := (L, ct).1) hl, if_neg hn]
    rw [e12] at p
    exact p.1
  have r53 : ∀ x : Int, (x ≠ 0 ↔ (0 ≤ L[l].2.1.1 ∧ bArea L[l].2.1 < bArea L[l].1)) → zP' (g_ca_giveUp_L53 a0 (l : Int) x s1) (fun _ s => cSt s a0 I rn st (gvP rn st (L, ct) l).1 (gvP rn st (L, ct) l).2 ∧ frCa a0 σ s) := fun x hx => by
    unfold g_ca_giveUp_L53
    rw [p_seOf (by decide)]
    rw [Option.bind_some]
    try dsimp +instances only
    rw [es]
    by_cases c5 : st 5 = 0
    · rw [if_pos c5]
      exact gone (fun k => k.1 c5)
    · rw [if_neg c5]
      by_cases cx : x ≠ 0
      · have hx := hx.mp cx
        have hot := ok.2.resolve_left (by omega)
        rw [if_pos cx]
        rw [if_pos gl]
        rw [if_pos gl]
        rw [if_pos gl]
        rw [if_pos gl]
        rw [if_pos gl]
        rw [q2, encH_ok hot]
        generalize hs2 : zu s1 (a0 + 4) (l : Int) (enc L[l].2.1) = s2
        generalize hs3 : zu s2 (a0 + 6) (l : Int) (-1) = s3
        have o3 : ∀ c y, (c ≠ a0 + 4 ∨ y ≠ (l : Int)) → (c ≠ a0 + 6 ∨ y ≠ (l : Int)) → s3 c y = s1 c y := fun c y k k2 => by rw [← hs3, zu_c k2, ← hs2, zu_c k]
        rw [o3 (a0 + 5) (l : Int) (by omega) (by omega), q4]
        generalize hs4 : zu s3 (a0 + 5) (l : Int) (w32 (Int.tdiv L[l].2.2.2.1 2)) = s4
        have o4 : ∀ c y, (c < a0 + 4 ∨ a0 + 6 < c ∨ y ≠ (l : Int)) → s4 c y = s1 c y := fun c y k => by rw [← hs4, zu_c (by omega), o3 c y (by omega) (by omega)]
        have h4 : cSt s4 a0 I rn st (L.set l (L[l].2.1, vdB, L[l].2.2.1, w32 (Int.tdiv L[l].2.2.2.1 2), L[l].2.2.2.2)) (lvP ct L[l].2.2.2.2) := by
          refine cSt.set ha h1 (fun c y k => o4 c y (by omega)) ⟨?_, ?_, ?_, ?_, ?_⟩
          · rw [← hs4, zu_a (by omega), ← hs3, zu_a (by omega), ← hs2]
            exact zu_e rfl
          · rw [← hs4, zu_a (by omega), ← hs3]
            exact zu_e rfl
          · rw [o4 (a0 + 3) (l : Int) (by omega)]
            exact q3
          · rw [← hs4]
            exact zu_e rfl
          · rw [o4 (a0 + 7) (l : Int) (by omega)]
            exact q5
        have hl2 : l < (L.set l (L[l].2.1, vdB, L[l].2.2.1, w32 (Int.tdiv L[l].2.2.2.1 2), L[l].2.2.2.2)).length := by
          rw [List.length_set]
          exact hl
        have el : (L.set l (L[l].2.1, vdB, L[l].2.2.1, w32 (Int.tdiv L[l].2.2.2.1 2), L[l].2.2.2.2))[l]'hl2 = (L[l].2.1, vdB, L[l].2.2.1, w32 (Int.tdiv L[l].2.2.2.1 2), L[l].2.2.2.2) := by
          rw [List.getElem_set_self]
        obtain ⟨t, e1, e2, e3⟩ := k_weigh ha h4 (by rw [List.length_set]; exact hL) hl2 (by rw [el]; exact hot)
        rw [e1]
        rw [Option.bind_some]
        try dsimp +instances only
        rw [el, List.set_set] at e2
        have h6 := cSt.ct (i := 13) (v := w32 (t a0 13 + 1)) ha e2 (by decide)
        rw [e2.2.1 13 (by decide) (by decide)] at h6 ⊢
        refine zP'.ret ⟨?_, fun x y k => by rw [zu_c (by omega), e3 x y (by omega), o4 x y (by omega), f1 x y k]⟩
        unfold gvP
        rw [rgD_eq (L := (L, ct).1) hl, if_pos (show canS st L[l] from ⟨c5, hx⟩)]
        exact h6
      · rw [if_neg cx]
        exact gone (fun k => cx (hx.mpr k.2))
  rw [if_pos gl, q2]
  by_cases cv : L[l].2.1.1 < 0
  · have e : encH L[l].2.1 = -1 := if_pos cv
    rw [e, if_pos rfl]
    unfold g_ca_giveUp_L52
    exact r53 0 ⟨fun k => absurd rfl k, fun k => by omega⟩
  · have hot := ok.2.resolve_left cv
    rw [encH_ok hot, if_neg (enc_ne hot), if_pos gl, c_area hot]
    rw [Option.bind_some]
    try dsimp +instances only
    rw [if_pos gl, q1, c_area ok.1]
    rw [Option.bind_some]
    try dsimp +instances only
    by_cases c : bArea L[l].1 ≤ bArea L[l].2.1
    · rw [if_pos c]
      unfold g_ca_giveUp_L52
      exact r53 0 ⟨fun k => absurd rfl k, fun k => by omega⟩
    · rw [if_neg c]
      exact r53 1 ⟨fun _ => by omega, fun _ => by decide⟩
def hv1 (r : Rg) : Int := if r.2.1.1 < 0 then 0 else 1
theorem hv1_bd (r : Rg) : 0 ≤ hv1 r ∧ hv1 r ≤ 1 := by
  unfold hv1
  by_cases c : r.2.1.1 < 0
  · rw [if_pos c]; decide
  · rw [if_neg c]; decide
def hotN : List Rg → Int
  | [] => 0
  | r :: L => hv1 r + hotN L
theorem hotN_bd : ∀ L : List Rg, 0 ≤ hotN L ∧ hotN L ≤ (L.length : Int)
  | [] => ⟨Int.le_refl _, Int.le_refl _⟩
  | r :: L => by
    have ih := hotN_bd L
    have hr := hv1_bd r
    rw [List.length_cons]
    show 0 ≤ hv1 r + hotN L ∧ hv1 r + hotN L ≤ _
    omega
theorem hotN_c (x : Rg) (L : List Rg) : hotN (x :: L) = hv1 x + hotN L := rfl
theorem hotN_z (x r : Rg) (L : List Rg) : hotN (r :: L) = hotN (x :: L) + hv1 r - hv1 x := by
  rw [hotN_c, hotN_c]
  generalize hv1 r = a
  generalize hv1 x = b
  generalize hotN L = c
  omega
theorem hotN_i {a b c d e : Int} (h : a = b + c - d) : e + a = e + b + c - d := by omega
theorem hotN_set (r : Rg) (L : List Rg) : ∀ (l : Nat) (hl : l < L.length), hotN (L.set l r) = hotN L + hv1 r - hv1 (rgD L l) := by
  induction L with
  | nil => exact fun l hl => absurd hl (Nat.not_lt_zero _)
  | cons x L ih =>
    intro l hl
    cases l with
    | zero => exact hotN_z x r L
    | succ l => exact hotN_i (e := hv1 x) (ih l (by rw [List.length_cons] at hl; omega))
theorem hotN_er : ∀ (L : List Rg) (l : Nat), hotN (L.eraseIdx l) ≤ hotN L
  | [], _ => Int.le_refl _
  | x :: L, 0 => by
    have hx := hv1_bd x
    show hotN L ≤ hv1 x + hotN L
    omega
  | x :: L, l + 1 => by
    have ih := hotN_er L l
    show hv1 x + hotN (L.eraseIdx l) ≤ hv1 x + hotN L
    omega
theorem gv_ok {rn : Bx → Int} {st : Int → Int} {L : List Rg} {ct : Int → Int} {l : Nat} (hl : l < L.length) (hk : ∀ r ∈ L, hOk r) : (∀ r ∈ (gvP rn st (L, ct) l).1, hOk r) ∧ (gvP rn st (L, ct) l).1.length ≤ L.length ∧ ((gvP rn st (L, ct) l).1.length : Int) + hotN (gvP rn st (L, ct) l).1 + 1 ≤ (L.length : Int) + hotN L := by
  unfold gvP
  rw [rgD_eq (L := (L, ct).1) hl]
  by_cases c : canS st L[l]
  · rw [if_pos c]
    have hot := (hk _ (List.getElem_mem hl)).2.resolve_left (by have := c.2.1; omega)
    refine ⟨fun r hr => ?_, by rw [List.length_set]; exact Nat.le_refl _, ?_⟩
    · rcases List.mem_or_eq_of_mem_set hr with h | h
      · exact hk r h
      · rw [h]
        exact ⟨hot, Or.inl (show vdB.1 < 0 by decide)⟩
    · show (((L.set l _).length : Nat) : Int) + hotN (L.set l _) + 1 ≤ _
      rw [List.length_set, hotN_set _ L l hl, rgD_eq hl]
      have e1 : hv1 (shR rn st (lvP ct L[l].2.2.2.2 9) L[l]) = 0 := if_pos (show vdB.1 < 0 by decide)
      have e2 := c.2.1
      have e3 : hv1 L[l] = 1 := if_neg (show ¬ L[l].2.1.1 < 0 by omega)
      have e1 : hv1 (shR rn st (lvP (L, ct).2 (L, ct).1[l].2.2.2.2 9) (L, ct).1[l]) = 0 := e1
      rw [e1, e3]
      omega
  · rw [if_neg c]
    have he := hotN_er L l
    have hl2 : (L.eraseIdx l).length = L.length - 1 := List.length_eraseIdx_of_lt hl
    refine ⟨fun r hr => hk r (List.mem_of_mem_eraseIdx hr), ?_, ?_⟩
    · show (L.eraseIdx l).length ≤ L.length
      omega
    · show ((L.eraseIdx l).length : Int) + hotN (L.eraseIdx l) + 1 ≤ _
      omega
theorem k_trim7 {a0 : Nat} {I : Nat → Bool} {rn : Bx → Int} {st : Int → Int} (ha : a0 = 48 ∨ a0 = 106) (s1 : 0 ≤ st 1) (s2 : 0 ≤ st 2) : ∀ (n : Nat) (t : Int) (L : List Rg) (ct : Int → Int) (σ : zS), cSt σ a0 I rn st L ct → L.length ≤ 181 → (∀ r ∈ L, hOk r) → (L.length : Int) + hotN L ≤ t → t < 2147483648 → zP' (g_ca_trim_L7 a0 n t σ) (fun _ s => ∃ m L' ct', TMn rn st m (L, ct) (L', ct') ∧ (∀ r ∈ L', hOk r) ∧ L'.length ≤ L.length ∧ cSt s a0 I rn st L' ct' ∧ frCa a0 σ s)
  | 0, _, _, _, _, _, _, _, _, _ => zP'.no
  | n + 1, t, L, ct, σ, h, hL, hk, ht, ht2 => by
    have hh := hotN_bd L
    have empty : L.length = 0 → ¬ tooM rn st L := fun e => by
      have e0 : L = [] := List.eq_nil_of_length_eq_zero e
      subst e0
      unfold tooM
      show ¬ (st 2 < (0 : Int) ∨ st 1 < (0 : Int))
      omega
    have stop : ¬ tooM rn st L → ∃ m L' ct', TMn rn st m (L, ct) (L', ct') ∧ (∀ r ∈ L', hOk r) ∧ L'.length ≤ L.length ∧ cSt σ a0 I rn st L' ct' ∧ frCa a0 σ σ := fun hn => ⟨0, L, ct, ⟨hn, rfl⟩, hk, Nat.le_refl _, h, frCa.refl a0 σ⟩
    unfold g_ca_trim_L7
    by_cases c0 : t ≤ 0
    · rw [if_pos c0]
      exact zP'.ret (stop (empty (by omega)))
    · rw [if_neg c0]
      try dsimp +instances only
      rw [h.1.1]
      by_cases c1 : (L.length : Int) ≤ 0
      · rw [if_pos c1]
        exact zP'.ret (stop (empty (by omega)))
      · rw [if_neg c1]
        refine zP'.bind (k_tooMuch h hL (fun r hr => (hk r hr).1)) (fun v s p => ?_)
        obtain ⟨rfl, p⟩ := p
        try dsimp +instances only
        by_cases cv : v = 0
        · rw [if_pos cv]
          exact zP'.ret (stop (fun k => p.mpr k cv))
        · rw [if_neg cv]
          have too := p.mp cv
          unfold g_ca_lightest
          have L4 := k_light4 hL zK 0 1 s h.1 (by omega) (by decide) (by omega) (fun j hj hj1 => by
            have e : j = 0 := by omega
            subst e
            exact Or.inr ⟨rfl, Nat.le_refl _⟩)
          have L4 : zP' (g_ca_lightest_L4 a0 zK 0 1 s) _ := L4
          refine zP'.bind L4 (fun v2 u2 p2 => ?_)
          obtain ⟨rfl, l, rfl, lt⟩ := p2
          have hl := lt.1
          try dsimp +instances only
          obtain ⟨o1, o2, o3⟩ := gv_ok (rn := rn) (st := st) (ct := ct) hl hk
          refine zP'.bind (k_giveUp ha h hL hl (hk _ (List.getElem_mem hl))) (fun _ s3 p3 => ?_)
          obtain ⟨h3, f3⟩ := p3
          try dsimp +instances only
          rw [w32_id (x := t - 1) (by omega) (by omega)]
          refine (k_trim7 ha s1 s2 n (t - 1) _ _ s3 h3 (by omega) o1 (by omega) (by omega)).imp (fun _ s4 p4 => ?_)
          obtain ⟨m, L', ct', g1, g2, g3, g4, g5⟩ := p4
          exact ⟨m + 1, L', ct', ⟨too, l, lt, g1⟩, g2, by omega, g4, f3.trans g5⟩
theorem k_trim {a0 : Nat} {I : Nat → Bool} {rn : Bx → Int} {st : Int → Int} {L : List Rg} {ct : Int → Int} {σ : zS} (ha : a0 = 48 ∨ a0 = 106) (s1 : 0 ≤ st 1) (s2 : 0 ≤ st 2) (h : cSt σ a0 I rn st L ct) (hL : L.length ≤ 181) (hk : ∀ r ∈ L, hOk r) : zP' (g_ca_trim a0 σ) (fun _ s => ∃ m L' ct', TMn rn st m (L, ct) (L', ct') ∧ (∀ r ∈ L', hOk r) ∧ L'.length ≤ L.length ∧ cSt s a0 I rn st L' ct' ∧ frCa a0 σ s) := by
  have hh := hotN_bd L
  unfold g_ca_trim
  try dsimp +instances only
  rw [h.1.1, w32_id (x := 2 * (L.length : Int)) (by omega) (by omega)]
  exact k_trim7 ha s1 s2 zK _ L ct σ h hL hk (by omega) (by omega)
