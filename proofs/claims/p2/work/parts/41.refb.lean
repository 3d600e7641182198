/-! THE REFERENCE over the typed memory: a write -/
def frW (σ s : zS) : Prop := ∀ a j, (a ≠ 144 ∨ (8 ≤ j ∧ j < 340)) → (a ≠ 147 ∨ (1 ≤ j ∧ j < 121)) → a ≠ 151 → a ≠ 156 → a ≠ 157 → s a j = σ a j
theorem frW.refl (σ : zS) : frW σ σ := fun _ _ _ _ _ _ _ => rfl
theorem frW.trans {σ s t : zS} (h1 : frW σ s) (h2 : frW s t) : frW σ t := fun a j k1 k2 k3 k4 k5 => (h2 a j k1 k2 k3 k4 k5).trans (h1 a j k1 k2 k3 k4 k5)
theorem RI_hot {s : zS} {N : Nat} {h : Bx} (hR : RI s (N + 1)) (h1 : bOk h) (h2 : bSub h (rgA s (N : Int)).1) : RI (zb s 144 (344 + 10 * (N : Int)) h) (N + 1) := by
  have e1 : ∀ k : Nat, k < N + 1 → (rgA (zb s 144 (344 + 10 * (N : Int)) h) (k : Int)).1 = (rgA s (k : Int)).1 := by
    intro k hk
    exact zb_bxi (by omega)
  refine ⟨fun k hk => ?_, fun k1 k2 hk1 hk2 => by rw [e1 k1 (by omega), e1 k2 hk2]; exact hR.2 k1 k2 hk1 hk2⟩
  have e2 := e1 k hk
  unfold rOk
  rw [e2]
  by_cases c : k = N
  · subst c
    have e3 : (rgA (zb s 144 (344 + 10 * (k : Int)) h) (k : Int)).2.1 = h := zb_bx rfl
    rw [e3]
    exact ⟨(hR.1 k hk).1, Or.inr ⟨h1, h2⟩⟩
  · have e3 : (rgA (zb s 144 (344 + 10 * (N : Int)) h) (k : Int)).2.1 = (rgA s (k : Int)).2.1 := zb_bxi (by omega)
    rw [e3]
    exact hR.1 k hk
/-- a piece of a cut region: a region with its hits, its weight, its HOT as far as it reaches -/
def cutS (s : zS) (N : Int) (p : Bx) (w : Int) : zS := zu (zu (addsS s N p) 144 (349 + 10 * N) (s 156 9)) 147 (121 + N) w
theorem cutS_a {s : zS} {N w : Int} {p : Bx} {a : Nat} {j : Int} (hN : 0 ≤ N) (h : (a ≠ 144 ∨ (2 ≤ j ∧ j < 340)) ∧ (a ≠ 147 ∨ j < 121)) : cutS s N p w a j = s a j := by
  unfold cutS
  rw [zu_c (by omega), zu_c (by omega), addsS_a (by omega)]
theorem cutS_bx {s : zS} {N w : Int} {p : Bx} {a : Nat} {j : Int} (h : a ≠ 144) (h2 : a ≠ 147) : bxA (cutS s N p w) a j = bxA s a j := by
  unfold bxA cutS
  rw [zu_a h2, zu_a h2, zu_a h2, zu_a h2, zu_a h, zu_a h, zu_a h, zu_a h, addsS_a (Or.inl h), addsS_a (Or.inl h), addsS_a (Or.inl h), addsS_a (Or.inl h)]
theorem cutS_rg {s : zS} {N w : Int} {p : Bx} {k : Int} : (rgA (cutS s N p w) k).1 = (rgA (addsS s N p) k).1 ∧ (rgA (cutS s N p w) k).2.1 = (rgA (addsS s N p) k).2.1 := by
  unfold rgA cutS
  dsimp only
  rw [zu_bxa (a := 147) (c := 144) (j := 340 + 10 * k) (by decide), zu_bxa (a := 147) (c := 144) (j := 344 + 10 * k) (by decide)]
  constructor
  · by_cases h : k ≤ N
    · exact zu_bxi (by omega)
    · exact zu_bxi (by omega)
  · by_cases h : k ≤ N
    · exact zu_bxi (by omega)
    · exact zu_bxi (by omega)
theorem s_cut86 {C : List Bx} {gh : Bx} {w : Int} (hgh : gh.1 < 0 ∨ bOk gh) (okC : ∀ p ∈ C, bOk p) (hCC : C.Pairwise (fun a b => ¬ bMt a b)) (hlC : C.length ≤ 4) : ∀ (suf pre : List Bx) (n N : Nat) (s : zS), C = pre ++ suf → suf.length < n → bxA s 156 4 = gh → (∀ (k : Nat) (hk : k < C.length), bxA s 151 (4 * (k : Int)) = C[k]) → RI s N → s 144 0 = (N : Int) → N ≤ 100 + pre.length → (∀ k : Nat, k < N → ∀ p ∈ suf, ¬ bMt (rgA s (k : Int)).1 p) → ∃ s', g_m_cuts_L86 n w (C.length : Int) (pre.length : Int) s = some ((), s') ∧ RI s' (N + suf.length) ∧ s' 144 0 = ((N + suf.length : Nat) : Int) ∧ frW s s'
  | _, _, 0, _, _, _, h, _, _, _, _, _, _ => absurd h (Nat.not_lt_zero _)
  | [], pre, n + 1, N, s, h, _, _, _, hR, hN, _, _ => by
    rw [List.append_nil] at h
    subst h
    refine ⟨s, ?_, hR, hN, frW.refl s⟩
    unfold g_m_cuts_L86
    rw [if_pos (Int.le_refl _)]
  | p :: suf, pre, n + 1, N, s, h, hn, hg, hP, hR, hN, hNp, hd => by
    have l151 : zLI 151 = 2400 := rfl
    have l156 : zLI 156 = 10 := rfl
    have l := l144
    have hlen : C.length = pre.length + (suf.length + 1) := by rw [h, List.length_append, List.length_cons]
    have hCp : C[pre.length]'(by omega) = p := by
      have e2 : C[pre.length]? = some p := by rw [h, List.getElem?_append_right (Nat.le_refl _), Nat.sub_self]; rfl
      rw [List.getElem?_eq_getElem (by omega)] at e2
      exact Option.some.inj e2
    have hp : bxA s 151 (4 * (pre.length : Int)) = p := (hP pre.length (by omega)).trans hCp
    have okp : bOk p := okC p (by rw [h]; exact List.mem_append_right _ List.mem_cons_self)
    have hps : ∀ x ∈ suf, ¬ bMt p x := by
      rw [h] at hCC
      exact (List.pairwise_cons.mp (List.pairwise_append.mp hCC).2.1).1
    have h' : C = (pre ++ [p]) ++ suf := by rw [h, List.append_assoc]; rfl
    have hn' : suf.length < n := by rw [List.length_cons] at hn; omega
    have ek : (pre ++ [p]).length = pre.length + 1 := by rw [List.length_append, List.length_singleton]
    have hR1 : RI (cutS s (N : Int) p w) (N + 1) := RI_of (RI_adds hR okp (fun k hk => hd k hk p List.mem_cons_self)) (fun k hk => cutS_rg)
    have bN : (rgA (cutS s (N : Int) p w) (N : Int)).1 = p := by rw [cutS_rg.1, rgA_adds (by omega)]
    have bo : ∀ k : Nat, k < N → (rgA (cutS s (N : Int) p w) (k : Int)).1 = (rgA s (k : Int)).1 := fun k hk => by rw [cutS_rg.1, rgA_addo (by omega) (by omega) (by omega)]
    have go : ∀ s2 : zS, RI s2 (N + 1) → (∀ a j, (a ≠ 144 ∨ j < 344 + 10 * (N : Int) ∨ 348 + 10 * (N : Int) ≤ j) → s2 a j = cutS s (N : Int) p w a j) → ∃ s', g_m_cuts_L194 (g_m_cuts_L86 n) w (C.length : Int) (pre.length : Int) s2 = some ((), s') ∧ RI s' (N + (p :: suf).length) ∧ s' 144 0 = ((N + (p :: suf).length : Nat) : Int) ∧ frW s s' := by
      intro s2 r2 f2
      have f3 : ∀ a j, ((a ≠ 144 ∨ (2 ≤ j ∧ j < 340)) ∧ (a ≠ 147 ∨ j < 121)) → s2 a j = s a j := fun a j hh => by
        rw [f2 a j (by omega), cutS_a (by omega) hh]
      have bx2 : ∀ (a : Nat) (j : Int), a ≠ 144 → a ≠ 147 → bxA s2 a j = bxA s a j := fun a j h1 h2 => by
        unfold bxA
        rw [f3 a _ ⟨Or.inl h1, Or.inl h2⟩, f3 a _ ⟨Or.inl h1, Or.inl h2⟩, f3 a _ ⟨Or.inl h1, Or.inl h2⟩, f3 a _ ⟨Or.inl h1, Or.inl h2⟩]
      have rb2 : ∀ k : Nat, k < N + 1 → (rgA s2 (k : Int)).1 = (rgA (cutS s (N : Int) p w) (k : Int)).1 := fun k hk => by
        show bxA s2 144 _ = bxA _ 144 _
        unfold bxA
        rw [f2 144 _ (by omega), f2 144 _ (by omega), f2 144 _ (by omega), f2 144 _ (by omega)]
      obtain ⟨s', g1, g2, g3, g4⟩ := s_cut86 (w := w) hgh okC hCC hlC suf (pre ++ [p]) n (N + 1) s2 h' hn' (by rw [bx2 156 4 (by decide) (by decide)]; exact hg) (fun k hk => by rw [bx2 151 _ (by decide) (by decide)]; exact hP k hk) r2 (by
        rw [f2 144 0 (by omega)]
        unfold cutS
        rw [zu_a (by decide), zu_i (by omega), addsS_N (by omega) (by omega)]
        omega) (by omega) (fun k hk x hx => by
        rw [rb2 k hk]
        by_cases c : k = N
        · subst c
          rw [bN]
          exact hps x hx
        · rw [bo k (by omega)]
          exact hd k (by omega) x (List.mem_cons_of_mem _ hx))
      refine ⟨s', ?_, ?_, ?_, ?_⟩
      · unfold g_m_cuts_L194
        rw [w32_id (x := (pre.length : Int) + 1) (by omega) (by omega)]
        rw [ek, show ((pre.length + 1 : Nat) : Int) = (pre.length : Int) + 1 by omega] at g1
        exact g1
      · rw [List.length_cons, show N + (suf.length + 1) = N + 1 + suf.length by omega]; exact g2
      · rw [List.length_cons, show N + (suf.length + 1) = N + 1 + suf.length by omega]; exact g3
      · intro a j k1 k2 k3 k4 k5
        rw [g4 a j k1 k2 k3 k4 k5]
        exact f3 a j ⟨by omega, by omega⟩
    unfold g_m_cuts_L86
    rw [if_neg (by omega), w32_id (x := 4 * (pre.length : Int)) (by omega) (by omega), s_adds (k := (N : Int)) hN (by omega) (by omega) (by omega) (by omega) (by omega), hp]
    rw [Option.bind_some]
    try dsimp only
    rw [s_region (by omega) (by omega)]
    rw [Option.bind_some]
    try dsimp only
    rw [w32_id (x := 340 + 10 * (N : Int) + 9) (by omega) (by omega), if_pos (by omega), w32_id (x := 121 + (N : Int)) (by omega) (by omega), if_pos (by omega), show 340 + 10 * (N : Int) + 9 = 349 + 10 * (N : Int) by omega]
    have e156 : addsS s (N : Int) p 156 9 = s 156 9 := addsS_a (Or.inl (by decide))
    rw [e156]
    show ∃ s', (if cutS s (N : Int) p w 156 4 < 0 then g_m_cuts_L194 (g_m_cuts_L86 n) w (C.length : Int) (pre.length : Int) (cutS s (N : Int) p w) else (g_m_doMeet 156 151 4 (4 * (pre.length : Int)) (cutS s (N : Int) p w)).bind _) = _ ∧ _
    have e4 : cutS s (N : Int) p w 156 4 = gh.1 := by
      rw [cutS_a (by omega) ⟨Or.inl (by decide), Or.inl (by decide)⟩, ← hg]
      rfl
    by_cases c1 : gh.1 < 0
    · rw [if_pos (by rw [e4]; exact c1)]
      exact go _ hR1 (fun _ _ _ => rfl)
    · rw [if_neg (by rw [e4]; exact c1), s_doMeet (by omega) (by omega) (by omega) (by omega) (by omega) (by omega), cutS_bx (by decide) (by decide), cutS_bx (by decide) (by decide), hg, hp]
      rw [Option.bind_some]
      try dsimp only
      by_cases c2 : bMt gh p
      · rw [if_pos c2, if_neg (by decide), s_region (by omega) (by omega)]
        rw [Option.bind_some]
        try dsimp only
        rw [w32_id (x := 340 + 10 * (N : Int) + 4) (by omega) (by omega), s_commons (by omega) (by omega) (by omega) (by omega) (by omega) (by omega) (by omega) (by omega) (by omega), cutS_bx (by decide) (by decide), cutS_bx (by decide) (by decide), hg, hp, show 340 + 10 * (N : Int) + 4 = 344 + 10 * (N : Int) by omega]
        rw [Option.bind_some]
        try dsimp only
        obtain ⟨o1, o2, o3⟩ := bCom_ok (hgh.resolve_left c1) okp c2
        refine go _ (RI_hot hR1 o1 (by rw [bN]; exact o3)) (fun a j hh => ?_)
        rcases hh with hh | hh
        · exact zb_a hh
        · exact zb_i (by omega)
      · rw [if_neg c2, if_pos rfl]
        exact go _ hR1 (fun _ _ _ => rfl)
theorem s_cut3 {σ : zS} {i N : Nat} {x y : Int} (hi : i < N) (hN2 : N ≤ 100) : ∀ (d e n : Nat) (s : zS), e + d = 10 → d < n → (∀ a j, a ≠ 156 → s a j = σ a j) → (∀ t : Nat, t < e → s 156 (t : Int) = σ 144 (340 + 10 * (i : Int) + (t : Int))) → ∃ s', g_m_cuts_L3 n (i : Int) x y (e : Int) s = g_m_cuts_L3 1 (i : Int) x y 10 s' ∧ (∀ a j, a ≠ 156 → s' a j = σ a j) ∧ (∀ t : Nat, t < 10 → s' 156 (t : Int) = σ 144 (340 + 10 * (i : Int) + (t : Int)))
  | _, _, 0, _, _, h, _, _ => absurd h (Nat.not_lt_zero _)
  | 0, e, n + 1, s, he, _, hf, hg => by
    have : e = 10 := by omega
    subst this
    refine ⟨s, ?_, hf, hg⟩
    unfold g_m_cuts_L3
    rw [if_pos (show (10 : Int) ≤ ((10 : Nat) : Int) by omega), if_pos (show (10 : Int) ≤ 10 by omega)]
  | d + 1, e, n + 1, s, he, hn, hf, hg => by
    obtain ⟨s', e1, e2, e3⟩ := s_cut3 (σ := σ) (x := x) (y := y) hi hN2 d (e + 1) n (zu s 156 (e : Int) (s 144 (340 + 10 * (i : Int) + (e : Int)))) (by omega) (by omega) (fun a j h => by rw [zu_a h]; exact hf a j h) (fun t ht => by
      by_cases c : t = e
      · subst c
        rw [zu_e rfl]
        exact hf 144 _ (by decide)
      · rw [zu_i (by omega)]; exact hg t (by omega))
    refine ⟨s', ?_, e2, e3⟩
    rw [← e1]
    conv => lhs; unfold g_m_cuts_L3
    rw [if_neg (by omega), s_region (by omega) (by omega)]
    rw [Option.bind_some]
    try dsimp only
    rw [w32_id (x := 340 + 10 * (i : Int) + (e : Int)) (by omega) (by omega), if_pos (by omega), if_pos (by omega), w32_id (x := (e : Int) + 1) (by omega) (by omega), show ((e + 1 : Nat) : Int) = (e : Int) + 1 by omega]
theorem RI_goes {σ : zS} {i N : Nat} (hR : RI σ N) (hi : i < N) (hN2 : N ≤ 239) : RI (zu (gS2 σ (i : Int) (N : Int) 0) 144 0 ((N : Int) - 1)) (N - 1) ∧ frR σ (zu (gS2 σ (i : Int) (N : Int) 0) 144 0 ((N : Int) - 1)) ∧ (∀ k : Nat, k < N - 1 → ∃ t : Nat, t < N ∧ t ≠ i ∧ (rgA (zu (gS2 σ (i : Int) (N : Int) 0) 144 0 ((N : Int) - 1)) (k : Int)).1 = (rgA σ (t : Int)).1) := by
  have e0 : ∀ k : Nat, k < N - 1 → rgA (zu (gS2 σ (i : Int) (N : Int) 0) 144 0 ((N : Int) - 1)) (k : Int) = if k < i then rgA σ (k : Int) else rgA σ ((k + 1 : Nat) : Int) := by
    intro k hk
    rw [rgA_gS2 (by omega) (by omega) (by omega) (by omega)]
    by_cases h : k < i
    · rw [if_pos h, if_pos (by omega)]
    · rw [if_neg h, if_neg (by omega), show (k : Int) + 1 = ((k + 1 : Nat) : Int) by omega]
  refine ⟨⟨fun k hk => ?_, fun k1 k2 hk1 hk2 => ?_⟩, fun a j h1 h2 => ?_, fun k hk => ?_⟩
  · rw [e0 k hk]
    split
    · exact hR.1 k (by omega)
    · exact hR.1 (k + 1) (by omega)
  · rw [e0 k1 (by omega), e0 k2 hk2]
    by_cases a1 : k1 < i
    · rw [if_pos a1]
      by_cases a2 : k2 < i
      · rw [if_pos a2]; exact hR.2 k1 k2 hk1 (by omega)
      · rw [if_neg a2]; exact hR.2 k1 (k2 + 1) (by omega) (by omega)
    · rw [if_neg a1, if_neg (by omega)]
      exact hR.2 (k1 + 1) (k2 + 1) (by omega) (by omega)
  · rw [zu_c (by omega)]
    unfold gS2
    rw [if_neg (fun e => by omega), if_neg (fun e => by omega)]
  · rw [e0 k hk]
    by_cases h : k < i
    · rw [if_pos h]; exact ⟨k, by omega, by omega, rfl⟩
    · rw [if_neg h]; exact ⟨k + 1, by omega, by omega, rfl⟩
theorem s_cuts {σ : zS} {i N : Nat} {x y : Int} (hR : RI σ N) (hN : σ 144 0 = (N : Int)) (hi : i < N) (hN2 : N ≤ 100) (hx : 0 ≤ x ∧ x ≤ 31) (hy : 0 ≤ y ∧ y ≤ 31) : ∃ s N', g_m_cuts (i : Int) x y σ = some ((), s) ∧ RI s N' ∧ s 144 0 = (N' : Int) ∧ N' ≤ N + 3 ∧ frW σ s := by
  have l156 : zLI 156 = 10 := rfl
  have l157 : zLI 157 = 4 := rfl
  have l151 : zLI 151 = 2400 := rfl
  obtain ⟨s1, e1, e2, e3⟩ := s_cut3 (σ := σ) (x := x) (y := y) hi hN2 10 0 zK σ (by omega) (by show _ < 1000000; omega) (fun _ _ _ => rfl) (fun t ht => absurd ht (Nat.not_lt_zero _))
  have hR1 : RI s1 N := RI_of hR (fun k hk => by
    unfold rgA bxA
    dsimp only
    rw [e2 144 _ (by decide), e2 144 _ (by decide), e2 144 _ (by decide), e2 144 _ (by decide), e2 144 _ (by decide), e2 144 _ (by decide), e2 144 _ (by decide), e2 144 _ (by decide)]
    exact ⟨rfl, rfl⟩)
  have hN1 : s1 144 0 = (N : Int) := (e2 144 0 (by decide)).trans hN
  obtain ⟨g1, g2, g3⟩ := RI_goes hR1 hi (by omega)
  generalize hs2 : zu (gS2 s1 (i : Int) (N : Int) 0) 144 0 ((N : Int) - 1) = s2 at g1 g2 g3
  have hN2' : s2 144 0 = ((N - 1 : Nat) : Int) := by rw [← hs2, zu_e rfl]; omega
  have gb : bxA s1 156 0 = (rgA σ (i : Int)).1 := by
    have q := fun (t : Nat) (ht : t < 10) => e3 t ht
    show (s1 156 0, s1 156 (0 + 1), s1 156 (0 + 2), s1 156 (0 + 3)) = (σ 144 (340 + 10 * (i : Int)), σ 144 (340 + 10 * (i : Int) + 1), σ 144 (340 + 10 * (i : Int) + 2), σ 144 (340 + 10 * (i : Int) + 3))
    have q0 := q 0 (by decide)
    have q1 := q 1 (by decide)
    have q2 := q 2 (by decide)
    have q3 := q 3 (by decide)
    rw [show ((0 : Nat) : Int) = 0 from rfl, Int.add_zero] at q0
    rw [q0, show (0 : Int) + 1 = ((1 : Nat) : Int) from rfl, show (0 : Int) + 2 = ((2 : Nat) : Int) from rfl, show (0 : Int) + 3 = ((3 : Nat) : Int) from rfl, q1, q2, q3]
    rfl
  have gh : bxA s1 156 4 = (rgA σ (i : Int)).2.1 := by
    have q := fun (t : Nat) (ht : t < 10) => e3 t ht
    have q4 := q 4 (by decide)
    have q5 := q 5 (by decide)
    have q6 := q 6 (by decide)
    have q7 := q 7 (by decide)
    show (s1 156 4, s1 156 (4 + 1), s1 156 (4 + 2), s1 156 (4 + 3)) = (σ 144 (344 + 10 * (i : Int)), σ 144 (344 + 10 * (i : Int) + 1), σ 144 (344 + 10 * (i : Int) + 2), σ 144 (344 + 10 * (i : Int) + 3))
    rw [show (4 : Int) + 1 = ((5 : Nat) : Int) from rfl, show (4 : Int) + 2 = ((6 : Nat) : Int) from rfl, show (4 : Int) + 3 = ((7 : Nat) : Int) from rfl, show s1 156 4 = s1 156 ((4 : Nat) : Int) from rfl, q4, q5, q6, q7]
    rw [show 340 + 10 * (i : Int) + ((4 : Nat) : Int) = 344 + 10 * (i : Int) by omega, show 340 + 10 * (i : Int) + ((5 : Nat) : Int) = 344 + 10 * (i : Int) + 1 by omega, show 340 + 10 * (i : Int) + ((6 : Nat) : Int) = 344 + 10 * (i : Int) + 2 by omega, show 340 + 10 * (i : Int) + ((7 : Nat) : Int) = 344 + 10 * (i : Int) + 3 by omega]
  have okb : bOk (rgA σ (i : Int)).1 := (hR.1 i hi).1
  have okp : bOk (x, x, y, y) := ⟨hx.1, Int.le_refl _, hx.2, hy.1, Int.le_refl _, hy.2⟩
  have s2b : ∀ a j, a ≠ 144 → a ≠ 147 → bxA s2 a j = bxA s1 a j := fun a j h1 h2 => by
    unfold bxA
    rw [g2 a _ (Or.inl h1) (Or.inl h2), g2 a _ (Or.inl h1) (Or.inl h2), g2 a _ (Or.inl h1) (Or.inl h2), g2 a _ (Or.inl h1) (Or.inl h2)]
  generalize hs3 : zb s2 157 0 (x, x, y, y) = s3
  have b3 : bxA s3 156 0 = (rgA σ (i : Int)).1 := by rw [← hs3, zb_bxa (by decide), s2b _ _ (by decide) (by decide)]; exact gb
  have p3 : bxA s3 157 0 = (x, x, y, y) := by rw [← hs3]; exact zb_bx rfl
  have h3' : bxA s3 156 4 = (rgA σ (i : Int)).2.1 := by rw [← hs3, zb_bxa (by decide), s2b _ _ (by decide) (by decide)]; exact gh
  generalize hC : bRest (rgA σ (i : Int)).1 (x, x, y, y) = C
  have okC : ∀ p ∈ C, bOk p ∧ bSub p (rgA σ (i : Int)).1 := fun p hp => bRest_sub okb okp (by rw [hC]; exact hp)
  have hsep : C.Pairwise (bSep [(x, x, y, y)]) := by rw [← hC]; exact bRest_sep okb okp _ List.mem_cons_self
  have hCC : C.Pairwise (fun a b => ¬ bMt a b) := List.Pairwise.imp_of_mem (fun {a b} ha hb hab => bSep_not (okC a ha).1 (okC b hb).1 hab) hsep
  have hlC : C.length ≤ 4 := by
    have := bRest_len (rgA σ (i : Int)).1 (x, x, y, y)
    rw [hC] at this
    refine Nat.le_trans this ?_
    split <;> split <;> split <;> omega
  have hR4 : RI (zbs 151 s3 0 C) (N - 1) := RI_of g1 (fun k hk => by
    unfold rgA
    dsimp only
    rw [zbs_bx (Or.inl (by decide)), zbs_bx (Or.inl (by decide)), ← hs3, zb_bxa (by decide), zb_bxa (by decide)]
    exact ⟨rfl, rfl⟩)
  obtain ⟨s5, k1, k2, k3, k4⟩ := s_cut86 (C := C) (gh := (rgA σ (i : Int)).2.1) (w := s1 147 (121 + (i : Int))) ((hR.1 i hi).2.imp id (fun h => h.1)) (fun p hp => (okC p hp).1) hCC hlC C [] zK (N - 1) (zbs 151 s3 0 C) rfl (by show _ < 1000000; omega) (by rw [zbs_bx (Or.inl (by decide))]; exact h3') (fun k hk => by
      have := zbs_get (t := 151) C s3 0 k hk
      rw [Int.zero_add] at this
      exact this) hR4 (by rw [zbs_fr _ _ _ _ _ (Or.inl (by decide)), ← hs3, zb_a (by decide)]; exact hN2') (by omega) (fun k hk p hp hm => by
      have eb : (rgA (zbs 151 s3 0 C) (k : Int)).1 = (rgA s2 (k : Int)).1 := by
        show bxA _ 144 _ = bxA _ 144 _
        rw [zbs_bx (Or.inl (by decide)), ← hs3, zb_bxa (by decide)]
      rw [eb] at hm
      obtain ⟨t, t1, t2, t3⟩ := g3 k hk
      have t4 : (rgA s1 (t : Int)).1 = (rgA σ (t : Int)).1 := by
        show bxA _ 144 _ = bxA _ 144 _
        unfold bxA
        rw [e2 144 _ (by decide), e2 144 _ (by decide), e2 144 _ (by decide), e2 144 _ (by decide)]
      rw [t3, t4] at hm
      have hm2 : bMt (rgA σ (t : Int)).1 (rgA σ (i : Int)).1 := bMt_sub ⟨Int.le_refl _, Int.le_refl _, Int.le_refl _, Int.le_refl _⟩ (okC p hp).2 hm
      rcases Nat.lt_or_ge t i with c | c
      · exact hR.2 t i c hi hm2
      · exact hR.2 i t (by omega) t1 (bMt_comm hm2))
  refine ⟨s5, N - 1 + C.length, ?_, k2, k3, by omega, fun a j h1 h2 h3 h4 h5 => ?_⟩
  · have e1' : g_m_cuts (i : Int) x y σ = g_m_cuts_L3 1 (i : Int) x y 10 s1 := e1
    rw [e1']
    unfold g_m_cuts_L3
    rw [if_pos (by decide), w32_id (x := 121 + (i : Int)) (by omega) (by omega), if_pos (by omega), s_goes hi hN1 (by omega), hs2]
    rw [Option.bind_some]
    try dsimp only
    rw [s_sets (by omega) (by omega) (by omega), hs3]
    rw [Option.bind_some]
    try dsimp only
    rw [s_rests (by rw [b3]; exact okb) (by rw [p3]; exact okp) (by decide) (by decide) (by omega) (by omega) (by omega) (by omega) (by omega) (by omega) (by omega) (by omega) (by omega), b3, p3, hC]
    rw [Option.bind_some]
    try dsimp only
    exact k1
  · rw [k4 a j h1 h2 h3 h4 h5, zbs_fr _ _ _ _ _ (Or.inl h3), ← hs3, zb_a h5, g2 a j (by omega) (by omega)]
    exact e2 a j h4
theorem s_writes2 {σ : zS} {N : Nat} {x y : Int} (hR : RI σ N) (hN : σ 144 0 = (N : Int)) (hN2 : N ≤ 100) (hx : 0 ≤ x ∧ x ≤ 31) (hy : 0 ≤ y ∧ y ≤ 31) : ∀ (d k n : Nat), k + d = N → d < n → ∃ s N', g_m_writes_L2 n x y (k : Int) σ = some ((), s) ∧ RI s N' ∧ s 144 0 = (N' : Int) ∧ N' ≤ N + 3 ∧ frW σ s
  | _, _, 0, _, h => absurd h (Nat.not_lt_zero _)
  | 0, k, n + 1, hk, _ => by
    refine ⟨σ, N, ?_, hR, hN, by omega, frW.refl σ⟩
    unfold g_m_writes_L2
    simp only [hN]
    rw [if_pos (by omega)]
  | d + 1, k, n + 1, hk, hn => by
    have l := l144
    have hkN : k < N := by omega
    unfold g_m_writes_L2
    simp only [hN]
    rw [if_neg (by omega), s_region (by omega) (by omega)]
    rw [Option.bind_some]
    try dsimp only
    rw [s_has (by omega) (by omega) (by omega)]
    rw [Option.bind_some]
    try dsimp only
    by_cases c : bIn (bxA σ 144 (340 + 10 * (k : Int))) x y
    · rw [if_pos c, if_pos (by decide)]
      generalize hs1 : zu σ 144 7 (w32 (σ 144 7 + 1)) = s1
      have f1 : ∀ a j, (a ≠ 144 ∨ j ≠ 7) → s1 a j = σ a j := fun a j h => by rw [← hs1]; exact zu_c h
      have hR1 : RI s1 N := RI_of hR (fun t ht => by
        rw [← hs1]
        exact ⟨zu_bxi (by omega), zu_bxi (by omega)⟩)
      have hN1 : s1 144 0 = (N : Int) := (f1 144 0 (by omega)).trans hN
      have fr1 : frW σ s1 := fun a j h1 _ _ _ _ => f1 a j (by omega)
      show ∃ s N', (if s1 144 14 ≠ 1 then g_m_writes_L62 x y (k : Int) s1 else (g_m_goes (k : Int) s1).bind _) = _ ∧ _
      by_cases c1 : s1 144 14 = 1
      · obtain ⟨g1, g2, -⟩ := RI_goes hR1 hkN (by omega)
        refine ⟨zu (gS2 s1 (k : Int) (N : Int) 0) 144 0 ((N : Int) - 1), N - 1, ?_, g1, ?_, by omega, ?_⟩
        · rw [if_neg (fun e => e c1), s_goes hkN hN1 (by omega)]
          rw [Option.bind_some]
          try dsimp only
          unfold g_m_writes_L62
          have e14 : zu (gS2 s1 (k : Int) (N : Int) 0) 144 0 ((N : Int) - 1) 144 14 = 1 := by rw [g2 144 14 (by omega) (Or.inl (by decide))]; exact c1
          simp only [e14]
          rw [if_pos (by decide)]
        · rw [zu_e rfl]; omega
        · exact fr1.trans (fun a j h1 h2 _ _ _ => g2 a j h1 h2)
      · rw [if_pos c1]
        unfold g_m_writes_L62
        show ∃ s N', (if s1 144 14 ≠ 2 then _ else _) = _ ∧ _
        by_cases c2 : s1 144 14 = 2
        · rw [if_neg (fun e => e c2)]
          obtain ⟨s2, N2, q1, q2, q3, q4, q5⟩ := s_cuts hR1 hN1 hkN hN2 hx hy
          rw [q1]
          exact ⟨s2, N2, rfl, q2, q3, q4, fr1.trans q5⟩
        · rw [if_pos c2]
          exact ⟨s1, N, rfl, hR1, hN1, by omega, fr1⟩
    · rw [if_neg c, if_neg (by decide), w32_id (x := (k : Int) + 1) (by omega) (by omega)]
      have ih := s_writes2 hR hN hN2 hx hy d (k + 1) n (by omega) (by omega)
      rw [show ((k + 1 : Nat) : Int) = (k : Int) + 1 by omega] at ih
      exact ih
theorem s_writes {σ : zS} {N : Nat} {x y : Int} (hR : RI σ N) (hN : σ 144 0 = (N : Int)) (hN2 : N ≤ 100) (hx : 0 ≤ x ∧ x ≤ 31) (hy : 0 ≤ y ∧ y ≤ 31) : ∃ s N', g_m_writes x y σ = some ((), s) ∧ RI s N' ∧ s 144 0 = (N' : Int) ∧ N' ≤ N + 3 ∧ frW σ s := s_writes2 hR hN hN2 hx hy N 0 zK (by omega) (by show _ < 1000000; omega)
