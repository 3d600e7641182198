/-! LOADING: the parts of a text, both sides -/
def ldP (f : Int → Int) (L : Int) : Nat → Int → List Bx → Sum Int (List Bx)
  | 0, p, _ => .inl p
  | m + 1, p, l => match bxP f L p with
    | .inl q => .inl q
    | .inr x => if x.2 < L then (if l.length + 1 < 12 ∧ f x.2 = 59 then ldP f L m (x.2 + 1) (l ++ [x.1]) else .inl x.2) else .inr (l ++ [x.1])
theorem ldP_1 {f : Int → Int} {L : Int} {m : Nat} {p : Int} {l : List Bx} : ldP f L (m + 1) p l = match bxP f L p with
    | .inl q => .inl q
    | .inr x => if x.2 < L then (if l.length + 1 < 12 ∧ f x.2 = 59 then ldP f L m (x.2 + 1) (l ++ [x.1]) else .inl x.2) else .inr (l ++ [x.1]) := rfl
theorem sbd_bd {β : Type} {p L : Int} {x : zRd} {k : Int × Int → Sum Int β} (h : rBd p L x) (g : ∀ a, x = .inr a → p ≤ a.2 → a.2 ≤ L → ∀ q, k a = .inl q → p ≤ q ∧ q ≤ L) : ∀ q, sbd x k = .inl q → p ≤ q ∧ q ≤ L := fun q e => by
  cases x with
  | inl r =>
    have e : (Sum.inl r : Sum Int β) = .inl q := e
    cases e
    exact h
  | inr a => exact g a rfl h.1 h.2 q e
theorem bxP_bd {f : Int → Int} {L p : Int} (h : p ≤ L) : ∀ q, bxP f L p = .inl q → p ≤ q ∧ q ≤ L := by
  unfold bxP
  refine sbd_bd (numR_bd h) (fun a _ a1 a2 => ?_)
  refine fun q e => ?_
  have w : ∀ {b a : Int}, b ≤ a → (∀ q, a ≤ q ∧ q ≤ L → b ≤ q ∧ q ≤ L) := fun h q k => ⟨Int.le_trans h k.1, k.2⟩
  refine w a1 q (sbd_bd (sgnR_bd a2) (fun b _ b1 b2 q e => w b1 q (sbd_bd (numR_bd b2) (fun c _ c1 c2 q e => w c1 q (sbd_bd (sgnR_bd c2) (fun d _ d1 d2 q e => w d1 q (sbd_bd (numR_bd d2) (fun e' _ e1 e2 q e => w e1 q (sbd_bd (sgnR_bd e2) (fun g _ g1 g2 q e => w g1 q (sbd_bd (numR_bd g2) (fun h' _ _ _ q e => by cases e) q e)) q e)) q e)) q e)) q e)) q e)
theorem bxP_ok {f : Int → Int} {L p : Int} {x : Bx × Int} (h : bxP f L p = .inr x) : bOk x.1 ∧ p < x.2 ∧ x.2 ≤ L := by
  unfold bxP at h
  cases r1 : numR 2 0 31 f L p with
  | inl q => rw [sbd_l r1] at h; cases h
  | inr a =>
    rw [sbd_r r1] at h
    cases r2 : sgnR 45 f L a.2 with
    | inl q => rw [sbd_l r2] at h; cases h
    | inr b =>
      rw [sbd_r r2] at h
      cases r3 : numR 2 a.1 31 f L b.2 with
      | inl q => rw [sbd_l r3] at h; cases h
      | inr c =>
        rw [sbd_r r3] at h
        cases r4 : sgnR 44 f L c.2 with
        | inl q => rw [sbd_l r4] at h; cases h
        | inr d =>
          rw [sbd_r r4] at h
          cases r5 : numR 2 0 31 f L d.2 with
          | inl q => rw [sbd_l r5] at h; cases h
          | inr e =>
            rw [sbd_r r5] at h
            cases r6 : sgnR 45 f L e.2 with
            | inl q => rw [sbd_l r6] at h; cases h
            | inr g =>
              rw [sbd_r r6] at h
              cases r7 : numR 2 e.1 31 f L g.2 with
              | inl q => rw [sbd_l r7] at h; cases h
              | inr h7 =>
                rw [sbd_r r7] at h
                cases h
                obtain ⟨a1, a2, a3⟩ := numR_ok (v := a.1) (p' := a.2) r1
                obtain ⟨b1, b2, b3⟩ := sgnR_ok (v := b.1) (p' := b.2) r2
                obtain ⟨c1, c2, c3⟩ := numR_ok (v := c.1) (p' := c.2) r3
                obtain ⟨d1, d2, d3⟩ := sgnR_ok (v := d.1) (p' := d.2) r4
                obtain ⟨e1, e2, e3⟩ := numR_ok (v := e.1) (p' := e.2) r5
                obtain ⟨g1, g2, g3⟩ := sgnR_ok (v := g.1) (p' := g.2) r6
                obtain ⟨h1, h2, h3⟩ := numR_ok (v := h7.1) (p' := h7.2) r7
                have hb := numR_bd (w := 2) (lo := e.1) (hi := 31) (f := f) (L := L) (p := g.2) (by omega)
                rw [r7] at hb
                have hb : g.2 ≤ h7.2 ∧ h7.2 ≤ L := hb
                exact ⟨⟨a1, c1, c2, e1, h1, h2⟩, by show p < h7.2; omega, hb.2⟩
theorem ldP_bd {f : Int → Int} {L : Int} : ∀ (m : Nat) (p : Int) (l : List Bx), 0 ≤ p → p ≤ L → l.length + m = 12 → (∀ b ∈ l, bOk b) → (∀ q, ldP f L m p l = .inl q → 0 ≤ q ∧ q ≤ L) ∧ ∀ B, ldP f L m p l = .inr B → B.length ≤ 12 ∧ ∀ b ∈ B, bOk b
  | 0, p, l, h0, h1, hl, hb => ⟨fun q e => by
    have e : (Sum.inl p : Sum Int (List Bx)) = .inl q := e
    cases e
    exact ⟨h0, h1⟩, fun B e => by cases e⟩
  | m + 1, p, l, h0, h1, hl, hb => by
    rw [ldP_1]
    cases e1 : bxP f L p with
    | inl q =>
      have hq := bxP_bd h1 q e1
      exact ⟨fun r e => by cases e; omega, fun B e => by cases e⟩
    | inr x =>
      obtain ⟨ok, lt⟩ := bxP_ok e1
      try dsimp only
      have hb2 : ∀ b ∈ l ++ [x.1], bOk b := fun b hm => by
        rcases List.mem_append.mp hm with g | g
        · exact hb b g
        · rw [List.mem_singleton] at g
          rw [g]
          exact ok
      have hl2 : (l ++ [x.1]).length = l.length + 1 := by
        rw [List.length_append]
        rfl
      by_cases c : x.2 < L
      · rw [if_pos c]
        by_cases c2 : l.length + 1 < 12 ∧ f x.2 = 59
        · rw [if_pos c2]
          exact ldP_bd m (x.2 + 1) (l ++ [x.1]) (by omega) (by omega) (by omega) hb2
        · rw [if_neg c2]
          exact ⟨fun r e => by cases e; omega, fun B e => by cases e⟩
      · rw [if_neg c]
        exact ⟨fun r e => (by cases e), fun B e => (by
          cases e
          exact ⟨by omega, hb2⟩)⟩
/-- all but the tape's place and fault and the boxes read -/
def frLd (σ s : zS) : Prop := ∀ a j, (a ≠ 120 ∨ (j ≠ 2 ∧ j ≠ 3)) → a ≠ 126 → a ≠ 127 → s a j = σ a j
theorem frLd.of {σ s : zS} (h : frTa σ s) : frLd σ s := fun a j k _ _ => h a j k
theorem frLd.trans {σ s t : zS} (h1 : frLd σ s) (h2 : frLd s t) : frLd σ t := fun a j k1 k2 k3 => (h2 a j k1 k2 k3).trans (h1 a j k1 k2 k3)
theorem frLd.L {σ s : zS} (f : frLd σ s) : s 120 1 = σ 120 1 := f 120 1 (Or.inr (by decide)) (by decide) (by decide)
theorem frLd.T {σ s : zS} (f : frLd σ s) : cT s = cT σ := by
  funext j
  unfold cT
  rw [f.L, f 121 j (Or.inl (by decide)) (by decide) (by decide)]
theorem frLd.t {σ s : zS} (f : frLd σ s) (h : tpL σ) (h2 : 0 ≤ s 120 2 ∧ s 120 2 ≤ σ 120 1) : tpL s := by
  have e : s 121 = σ 121 := funext (fun j => f 121 j (Or.inl (by decide)) (by decide) (by decide))
  unfold tpL
  rw [f.L, e]
  exact ⟨h.1, h2, h.2.2⟩
def ldQ (s : zS) : Sum Int (List Bx) → Prop
  | .inl q => s 120 3 = q
  | .inr B => s 120 3 = -1 ∧ bsR s 126 B
theorem ld_add {l : List Bx} {x : Int} {σ : zS} (h : σ 126 1 = (l.length : Int)) (hl : l.length < 12) : g_bs_add 126 x σ = some (1, zu (zu σ 127 (l.length : Int) x) 126 1 ((l.length : Int) + 1)) := by
  have l127 : zLI 127 = 12 := rfl
  rw [p_add (L := 12) l127 (by decide) (by omega), h, if_pos (by omega)]
theorem c_ld {Q : Int → zS → Prop} {σ0 : zS} : ∀ (n m : Nat) (l : List Bx) (σ : zS), tpL σ → σ 120 3 = -1 → l.length + m = 12 → 0 < m → bsR σ 126 l → frLd σ0 σ → (∀ s, frLd σ0 s → ldQ s (ldP (cT σ) (σ 120 1) m (σ 120 2) l) → zP' (g_c_load_L69 s) Q) → zP' (g_c_load_L19 n 1 ((l.length : Int) + 1) σ) Q
  | 0, _, _, _, _, _, _, _, _, _, _ => zP'.no
  | n + 1, 0, _, _, _, _, _, hm, _, _, _ => absurd hm (Nat.lt_irrefl _)
  | n + 1, m + 1, l, σ, h, hs, hl, _, hB, F0, hQ => by
    have h21 := h.2.1
    have stop : ∀ (k : Nat) (x : Int) (s : zS), zP' (g_c_load_L69 s) Q → zP' (g_c_load_L19 k 0 x s) Q := fun k x s g => by
      cases k with
      | zero => exact zP'.no
      | succ k =>
        unfold g_c_load_L19
        rw [if_pos rfl]
        exact g
    rw [ldP_1] at hQ
    unfold g_c_load_L19
    rw [if_neg (by decide), if_neg (by omega)]
    refine zP'.bind (c_plainBox h hs) (fun v s1 p1 => ?_)
    obtain ⟨⟨f1, r1⟩, ok1⟩ := p1
    have e126 : s1 126 1 = (l.length : Int) := (f1 126 1 (Or.inl (by decide))).trans hB.1
    try dsimp +instances only
    rw [ld_add e126 (by omega)]
    rw [Option.bind_some]
    try dsimp +instances only
    have f2 : frLd s1 (zu (zu s1 127 (l.length : Int) v) 126 1 ((l.length : Int) + 1)) := fun a j _ k2 k3 => by rw [zu_a k2, zu_a k3]
    have b2 : ∀ x : Bx, v = enc x → bsR (zu (zu s1 127 (l.length : Int) v) 126 1 ((l.length : Int) + 1)) 126 (l ++ [x]) := fun x ex => by
      refine ⟨?_, fun k hk => ?_⟩
      · rw [zu_e rfl, List.length_append]
        show (l.length : Int) + 1 = ((l.length + 1 : Nat) : Int)
        omega
      · rw [List.length_append] at hk
        have hk : k < l.length + 1 := hk
        rw [zu_a (by decide)]
        by_cases ck : k < l.length
        · rw [zu_i (by omega), List.getElem_append_left ck, f1 127 _ (Or.inl (by decide))]
          exact hB.2 k ck
        · have ek : k = l.length := by omega
          subst ek
          rw [zu_e rfl, List.getElem_append_right (Nat.le_refl _), ex]
          simp
    have e23 : zu (zu s1 127 (l.length : Int) v) 126 1 ((l.length : Int) + 1) 120 3 = s1 120 3 := by rw [zu_a (by decide), zu_a (by decide)]
    have e22 : zu (zu s1 127 (l.length : Int) v) 126 1 ((l.length : Int) + 1) 120 2 = s1 120 2 := by rw [zu_a (by decide), zu_a (by decide)]
    generalize zu (zu s1 127 (l.length : Int) v) 126 1 ((l.length : Int) + 1) = s2 at f2 b2 e23 e22
    have F2 : frLd σ s2 := (frLd.of f1).trans f2
    cases e1 : bxP (cT σ) (σ 120 1) (σ 120 2) with
    | inl q =>
      rw [e1] at r1 hQ
      have r1 : s1 120 3 = q := r1
      have hq := bxP_bd h21.2 q e1
      have n3 : s2 120 3 ≠ -1 := by omega
      have fin : zP' (g_c_load_L69 s2) Q := hQ s2 (F0.trans F2) (e23.trans r1)
      have an : ∀ x, g_ta_another x s2 = some (0, s2) := fun x => by
        have h15 : g_ta_another_L15 s2 = some (0, s2) := by
          unfold g_ta_another_L15
          rw [p_here0 n3]
          rw [Option.bind_some]
          try dsimp +instances only
          rw [if_pos rfl]
        unfold g_ta_another
        by_cases cx : x = 0
        · rw [if_pos cx]
          exact h15
        · rw [if_neg cx, p_takes0 n3 (by decide)]
          rw [Option.bind_some]
          try dsimp +instances only
          rw [if_pos rfl]
          exact h15
      unfold g_c_load_L59
      refine zP'.ite (fun _ => ?_) (fun _ => ?_)
      · rw [an]
        rw [Option.bind_some]
        exact stop n _ s2 fin
      · rw [an]
        rw [Option.bind_some]
        exact stop n _ s2 fin
    | inr x =>
      rw [e1] at r1 hQ
      obtain ⟨rv, r2, r3⟩ := r1
      obtain ⟨okb, lo, hi⟩ := ok1 x e1
      have B2 : bsR s2 126 (l ++ [x.1]) := b2 x.1 rv
      have t2 : tpL s2 := F2.t h (by rw [e22, r2]; omega)
      have p2 : s2 120 2 = x.2 := e22.trans r2
      have q2 : s2 120 3 = -1 := e23.trans r3
      have al : ((l ++ [x.1]).length : Int) = (l.length : Int) + 1 := by
        rw [List.length_append]
        show ((l.length + 1 : Nat) : Int) = _
        omega
      try dsimp only at hQ
      unfold g_c_load_L59
      refine zP'.ite (fun c12 => ?_) (fun c12 => ?_)
      · unfold g_ta_another
        rw [if_pos rfl]
        unfold g_ta_another_L15
        rw [p_here t2.i q2, tpH_cT t2, F2.T, F2.L, p2]
        rw [Option.bind_some]
        try dsimp +instances only
        by_cases cl : x.2 < σ 120 1
        · have nb := h.2.2 x.2 (by omega) cl
          rw [cT_e (p := x.2) (by omega) x.2 (Int.le_refl _) cl] at nb
          have nz : ¬ cT σ x.2 = 0 := by omega
          rw [if_pos cl] at hQ
          rw [if_pos cl, if_neg nz, p_blame, if_pos q2]
          rw [Option.bind_some]
          rw [Option.bind_some]
          try dsimp +instances only
          rw [if_neg (fun k => by omega)] at hQ
          exact stop n _ _ (hQ _ ((F0.trans F2).trans (frLd.of (frTa.u (Or.inr rfl)))) (by show zu s2 120 3 (s2 120 2) 120 3 = x.2; rw [zu_e rfl, p2]))
        · rw [if_neg cl] at hQ
          rw [if_neg cl, if_pos rfl]
          rw [Option.bind_some]
          try dsimp +instances only
          exact stop n _ s2 (hQ s2 (F0.trans F2) ⟨q2, B2⟩)
      · refine zP'.bind (c_more t2 q2) (fun a' s6 p6 => ?_)
        obtain ⟨m0, m1, m2, m3⟩ := p6
        rw [p2, F2.L] at m1 m2 m3
        rw [F2.T] at m2 m3
        try dsimp +instances only
        by_cases cl : x.2 < σ 120 1
        · rw [if_pos cl] at hQ
          by_cases c59 : cT σ x.2 = 59
          · obtain ⟨rfl, m2b, m2c⟩ := m2 ⟨cl, c59⟩
            rw [if_pos ⟨by omega, c59⟩] at hQ
            have F6 : frLd σ s6 := F2.trans (frLd.of m0)
            have t6 : tpL s6 := F6.t h (by rw [m2b]; omega)
            have B6 : bsR s6 126 (l ++ [x.1]) := ⟨(m0 126 1 (Or.inl (by decide))).trans B2.1, fun i hi => (m0 127 _ (Or.inl (by decide))).trans (B2.2 i hi)⟩
            rw [w32_id (x := (l.length : Int) + 1 + 1) (by omega) (by omega), ← al]
            exact c_ld n m (l ++ [x.1]) s6 t6 m2c (by rw [List.length_append]; show l.length + 1 + m = 12; omega) (by omega) B6 (F0.trans F6) (by rw [F6.T, F6.L, m2b]; exact hQ)
          · obtain ⟨rfl, m3b⟩ := m3 ⟨cl, c59⟩
            rw [if_neg (fun k => c59 k.2)] at hQ
            exact stop n _ s6 (hQ s6 ((F0.trans F2).trans (frLd.of m0)) m3b)
        · obtain ⟨rfl, rfl⟩ := m1 (by omega)
          rw [if_neg cl] at hQ
          exact stop n _ s6 (hQ s6 (F0.trans F2) ⟨q2, B2⟩)
