/-! THE REFERENCE over the typed memory: misses() -/
def cp150 (σ : zS) (j : Int) : zS := fun a b => if a = 150 ∧ 0 ≤ b ∧ b < j then σ 151 b else σ a b
theorem s_mis78 {g : Int → zS → Option (Unit × zS)} {i : Int} {T : Nat} {σ : zS} (hT : T ≤ 300) : ∀ (d n j : Nat), j + d = 4 * T → d < n → g_m_misses_L78 g n i (T : Int) (j : Int) (cp150 σ (j : Int)) = g (w32 (i + 1)) (zu (cp150 σ (4 * (T : Int))) 143 10 (T : Int))
  | _, 0, _, _, h => absurd h (Nat.not_lt_zero _)
  | 0, n + 1, j, h1, _ => by
    unfold g_m_misses_L78
    rw [w32_id (x := 4 * (T : Int)) (by omega) (by omega), if_pos (by omega)]
    rw [show (j : Int) = 4 * (T : Int) by omega]
  | d + 1, n + 1, j, h1, h2 => by
    unfold g_m_misses_L78
    rw [w32_id (x := 4 * (T : Int)) (by omega) (by omega), if_neg (by omega), if_pos (by omega), if_pos (by omega), w32_id (x := (j : Int) + 1) (by omega) (by omega)]
    have ih := s_mis78 (g := g) (i := i) (σ := σ) hT d n (j + 1) (by omega) (by omega)
    rw [show ((j + 1 : Nat) : Int) = (j : Int) + 1 by omega] at ih
    rw [← ih]
    show g_m_misses_L78 g n i (T : Int) ((j : Int) + 1) (zu (cp150 σ (j : Int)) 150 (j : Int) (cp150 σ (j : Int) 151 (j : Int))) = _
    congr 1
    funext a b
    unfold zu cp150
    by_cases ha : a = 150
    · subst ha
      by_cases hb : b = (j : Int)
      · subst hb
        rw [if_pos ⟨rfl, rfl⟩, if_neg (fun e => by omega), if_pos ⟨rfl, by omega, by omega⟩]
      · rw [if_neg (fun e => hb e.2)]
        by_cases hc : 0 ≤ b ∧ b < (j : Int)
        · rw [if_pos ⟨rfl, hc⟩, if_pos ⟨rfl, by omega, by omega⟩]
        · rw [if_neg (fun e => hc e.2), if_neg (fun e => hc ⟨e.2.1, by omega⟩)]
    · rw [if_neg (fun e => ha e.1), if_neg (fun e => ha e.1), if_neg (fun e => ha e.1)]
theorem s_mis34 {g : Int → zS → Option (Unit × zS)} {i : Nat} {σ : zS} {P : List Bx} {R : Bx} (hi : i ≤ 239) (hR : bxA σ 144 (340 + 10 * (i : Int)) = R) (okR : bOk R) (hM : σ 143 10 = (P.length : Int)) (hP : lstA σ 150 P.length = P) (okP : ∀ p ∈ P, bOk p) (hlP : P.length ≤ 300) (hlT : (bMiss P R).length ≤ 300) : ∀ (suf pre : List Bx) (n : Nat), P = pre ++ suf → suf.length < n → g_m_misses_L34 g n (i : Int) ((bMiss pre R).length : Int) (pre.length : Int) (zbs 151 σ 0 (bMiss pre R)) = g_m_misses_L78 g zK (i : Int) ((bMiss P R).length : Int) 0 (zbs 151 σ 0 (bMiss P R))
  | _, _, 0, _, h => absurd h (Nat.not_lt_zero _)
  | [], pre, n + 1, h, _ => by
    rw [List.append_nil] at h
    subst h
    unfold g_m_misses_L34
    show (if zbs 151 σ 0 (bMiss P R) 143 10 ≤ (P.length : Int) then _ else _) = _
    rw [zbs_fr _ _ _ _ _ (Or.inl (by decide)), hM, if_pos (by omega)]
  | p :: suf, pre, n + 1, h, hn => by
    have hlen : P.length = pre.length + (suf.length + 1) := by rw [h, List.length_append, List.length_cons]
    have hp : bxA σ 150 (4 * (pre.length : Int)) = p := by
      have e1 := lstA_get (σ := σ) (a := 150) (n := P.length) (k := pre.length) (by omega)
      rw [hP] at e1
      have e2 : P[pre.length]? = some p := by rw [h, List.getElem?_append_right (Nat.le_refl _), Nat.sub_self]; rfl
      rw [e2] at e1
      exact (Option.some.inj e1).symm
    have okp : bOk p := okP p (by rw [h]; exact List.mem_append_right _ List.mem_cons_self)
    have hb : bMiss (pre ++ [p]) R = bMiss pre R ++ bRest p R := by
      unfold bMiss
      rw [List.flatMap_append, List.flatMap_cons, List.flatMap_nil, List.append_nil]
    have hle : (bMiss pre R).length + (bRest p R).length + (bMiss suf R).length = (bMiss P R).length := by
      rw [h]
      unfold bMiss
      rw [List.flatMap_append, List.flatMap_cons, List.length_append, List.length_append]
      omega
    unfold g_m_misses_L34
    show (if zbs 151 σ 0 (bMiss pre R) 143 10 ≤ (pre.length : Int) then _ else _) = _
    rw [zbs_fr _ _ _ _ _ (Or.inl (by decide)), hM, if_neg (by omega), s_region (by omega) (by omega), Option.bind_some, w32_id (x := 4 * (pre.length : Int)) (by omega) (by omega), w32_id (x := 4 * ((bMiss pre R).length : Int)) (by omega) (by omega)]
    have b1 : bxA (zbs 151 σ 0 (bMiss pre R)) 150 (4 * (pre.length : Int)) = p := by rw [zbs_bx (Or.inl (by decide))]; exact hp
    have b2 : bxA (zbs 151 σ 0 (bMiss pre R)) 144 (340 + 10 * (i : Int)) = R := by rw [zbs_bx (Or.inl (by decide))]; exact hR
    have l150 : zLI 150 = 2400 := rfl
    have l151 : zLI 151 = 2400 := rfl
    have l144 : zLI 144 = 2740 := rfl
    show (g_m_rests 150 144 151 (4 * (pre.length : Int)) (340 + 10 * (i : Int)) (4 * ((bMiss pre R).length : Int)) (zbs 151 σ 0 (bMiss pre R))).bind _ = _
    rw [s_rests (by rw [b1]; exact okp) (by rw [b2]; exact okR) (by decide) (by decide) (by omega) (by omega) (by omega) (by omega) (by omega) (by omega) (by omega) (by omega) (by omega), Option.bind_some, b1, b2]
    rw [w32_id (x := (pre.length : Int) + 1) (by omega) (by omega)]
    show g_m_misses_L34 g n (i : Int) (w32 (((bMiss pre R).length : Int) + ((bRest p R).length : Int))) ((pre.length : Int) + 1) (zbs 151 (zbs 151 σ 0 (bMiss pre R)) (4 * ((bMiss pre R).length : Int)) (bRest p R)) = _
    rw [w32_id (x := ((bMiss pre R).length : Int) + ((bRest p R).length : Int)) (by omega) (by omega)]
    have ih := s_mis34 (g := g) hi hR okR hM hP okP hlP hlT suf (pre ++ [p]) n (by rw [h, List.append_assoc]; rfl) (by rw [List.length_cons] at hn; omega)
    rw [hb, List.length_append, List.length_append, List.length_singleton, zbs_app, Int.zero_add, show (((bMiss pre R).length + (bRest p R).length : Nat) : Int) = ((bMiss pre R).length : Int) + ((bRest p R).length : Int) by omega, show ((pre.length + 1 : Nat) : Int) = (pre.length : Int) + 1 by omega] at ih
    exact ih
/-- all but what misses() writes -/
def frM (σ s : zS) : Prop := ∀ a j, a ≠ 150 → a ≠ 151 → (a ≠ 143 ∨ j ≠ 10) → s a j = σ a j
theorem frM_bx {σ s : zS} (h : frM σ s) {a : Nat} {i : Int} (h1 : a ≠ 150) (h2 : a ≠ 151) (h3 : a ≠ 143) : bxA s a i = bxA σ a i := by
  unfold bxA
  rw [h a _ h1 h2 (Or.inl h3), h a _ h1 h2 (Or.inl h3), h a _ h1 h2 (Or.inl h3), h a _ h1 h2 (Or.inl h3)]
theorem bMissAll_app (q : Bx) (rs : List Bx) (r : Bx) : bMissAll q (rs ++ [r]) = bMiss (bMissAll q rs) r := by
  unfold bMissAll
  rw [List.foldl_append]
  rfl
theorem bMissAll_pre {q : Bx} (hq : bOk q) {rs : List Bx} (h1 : ∀ r ∈ rs, bOk r) (h2 : rs.Pairwise (fun a b => ¬ bMt a b)) (h3 : rs.length ≤ 12) {pre suf : List Bx} (h : rs = pre ++ suf) : bInv q pre (bMissAll q pre) ∧ (bMissAll q pre).length ≤ 169 := by
  have k1 : ∀ r ∈ pre, bOk r := fun r hr => h1 r (by rw [h]; exact List.mem_append_left _ hr)
  have k2 : pre.Pairwise (fun a b => ¬ bMt a b) := by rw [h] at h2; exact (List.pairwise_append.mp h2).1
  have k3 : pre.length ≤ 12 := by rw [h, List.length_append] at h3; omega
  exact ⟨(bMissAll_inv hq pre k1 k2).1, bMissAll_169 hq k1 k2 k3⟩
theorem s_mis20 {q : Bx} {rs : List Bx} {σ : zS} (hq : bOk q) (h1 : ∀ r ∈ rs, bOk r) (h2 : rs.Pairwise (fun a b => ¬ bMt a b)) (h3 : rs.length ≤ 12) (hN : σ 144 0 = (rs.length : Int)) (hr : rbx σ rs.length = rs) : ∀ (suf pre : List Bx) (n : Nat) (s : zS), rs = pre ++ suf → suf.length < n → frM σ s → s 143 10 = ((bMissAll q pre).length : Int) → lstA s 150 (bMissAll q pre).length = bMissAll q pre → ∃ s', g_m_misses_L20 n (pre.length : Int) s = some ((), s') ∧ frM σ s' ∧ s' 143 10 = ((bMissAll q rs).length : Int) ∧ lstA s' 150 (bMissAll q rs).length = bMissAll q rs
  | _, _, 0, _, _, h, _, _, _ => absurd h (Nat.not_lt_zero _)
  | [], pre, n + 1, s, h, _, hf, hm, hl => by
    rw [List.append_nil] at h
    subst h
    refine ⟨s, ?_, hf, hm, hl⟩
    unfold g_m_misses_L20
    show (if s 144 0 ≤ (rs.length : Int) then _ else _) = _
    rw [hf 144 0 (by decide) (by decide) (Or.inl (by decide)), hN, if_pos (by omega)]
  | r :: suf, pre, n + 1, s, h, hn, hf, hm, hl => by
    have hlen : rs.length = pre.length + (suf.length + 1) := by rw [h, List.length_append, List.length_cons]
    have h' : rs = (pre ++ [r]) ++ suf := by rw [h, List.append_assoc]; rfl
    obtain ⟨i1, i2⟩ := bMissAll_pre hq h1 h2 h3 h
    obtain ⟨i3, i4⟩ := bMissAll_pre hq h1 h2 h3 h'
    rw [bMissAll_app] at i3 i4
    have hR : bxA s 144 (340 + 10 * (pre.length : Int)) = r := by
      rw [frM_bx hf (by decide) (by decide) (by decide)]
      have e1 := rbx_get (σ := σ) (n := rs.length) (k := pre.length) (by omega)
      rw [hr] at e1
      have e2 : rs[pre.length]? = some r := by rw [h, List.getElem?_append_right (Nat.le_refl _), Nat.sub_self]; rfl
      rw [e2] at e1
      exact (Option.some.inj e1).symm
    have okr : bOk r := h1 r (by rw [h]; exact List.mem_append_right _ List.mem_cons_self)
    have e34 := s_mis34 (g := g_m_misses_L20 n) (i := pre.length) (σ := s) (P := bMissAll q pre) (R := r) (by omega) hR okr hm hl (fun p hp => (i1.1 p hp).1) (by omega) (by omega) (bMissAll q pre) [] zK rfl (by show _ < 1000000; omega)
    have e78 := s_mis78 (g := g_m_misses_L20 n) (i := (pre.length : Int)) (T := (bMiss (bMissAll q pre) r).length) (σ := zbs 151 s 0 (bMiss (bMissAll q pre) r)) (by omega) (4 * (bMiss (bMissAll q pre) r).length) zK 0 (by omega) (by show _ < 1000000; omega)
    unfold g_m_misses_L20
    show ∃ s', (if s 144 0 ≤ (pre.length : Int) then _ else g_m_misses_L34 (g_m_misses_L20 n) zK (pre.length : Int) 0 0 s) = _ ∧ _
    rw [hf 144 0 (by decide) (by decide) (Or.inl (by decide)), hN, if_neg (by omega)]
    have e0 : g_m_misses_L34 (g_m_misses_L20 n) zK (pre.length : Int) 0 0 s = g_m_misses_L20 n (w32 ((pre.length : Int) + 1)) (zu (cp150 (zbs 151 s 0 (bMiss (bMissAll q pre) r)) (4 * ((bMiss (bMissAll q pre) r).length : Int))) 143 10 ((bMiss (bMissAll q pre) r).length : Int)) := by
      have ec : zbs 151 s 0 (bMiss (bMissAll q pre) r) = cp150 (zbs 151 s 0 (bMiss (bMissAll q pre) r)) ((0 : Nat) : Int) := by
        funext a b
        unfold cp150
        rw [if_neg (fun e => by omega)]
      exact Eq.trans e34 (Eq.trans (congrArg (g_m_misses_L78 (g_m_misses_L20 n) zK (pre.length : Int) ((bMiss (bMissAll q pre) r).length : Int) ((0 : Nat) : Int)) ec) e78)
    rw [e0, w32_id (x := (pre.length : Int) + 1) (by omega) (by omega)]
    generalize hs2 : zu (cp150 (zbs 151 s 0 (bMiss (bMissAll q pre) r)) (4 * ((bMiss (bMissAll q pre) r).length : Int))) 143 10 ((bMiss (bMissAll q pre) r).length : Int) = s2
    have ih := s_mis20 hq h1 h2 h3 hN hr suf (pre ++ [r]) n s2 h' (by rw [List.length_cons] at hn; omega) ?_ ?_ ?_
    · rw [List.length_append, List.length_singleton, show ((pre.length + 1 : Nat) : Int) = (pre.length : Int) + 1 by omega] at ih
      exact ih
    · intro a j ha hb hc
      rw [← hs2, zu_c (by omega)]
      unfold cp150
      rw [if_neg (fun e => ha e.1), zbs_fr _ _ _ _ _ (Or.inl hb)]
      exact hf a j ha hb hc
    · rw [← hs2, zu_e rfl, bMissAll_app]
    · rw [bMissAll_app]
      refine lstA_ext (fun k hk => ?_)
      rw [← hs2, zu_bxa (by decide)]
      have e1 : bxA (cp150 (zbs 151 s 0 (bMiss (bMissAll q pre) r)) (4 * ((bMiss (bMissAll q pre) r).length : Int))) 150 (4 * (k : Int)) = bxA (zbs 151 s 0 (bMiss (bMissAll q pre) r)) 151 (0 + 4 * (k : Int)) := by
        unfold bxA cp150
        rw [if_pos ⟨rfl, by omega, by omega⟩, if_pos ⟨rfl, by omega, by omega⟩, if_pos ⟨rfl, by omega, by omega⟩, if_pos ⟨rfl, by omega, by omega⟩, Int.zero_add]
      rw [e1]
      exact zbs_get _ _ _ k hk
theorem s_misses {σ : zS} {q : Bx} {rs : List Bx} (hq : bOk q) (hbox : bxA σ 152 0 = q) (h1 : ∀ r ∈ rs, bOk r) (h2 : rs.Pairwise (fun a b => ¬ bMt a b)) (h3 : rs.length ≤ 12) (hN : σ 144 0 = (rs.length : Int)) (hr : rbx σ rs.length = rs) : ∃ s', g_m_misses σ = some ((), s') ∧ frM σ s' ∧ s' 143 10 = ((bMissAll q rs).length : Int) ∧ lstA s' 150 (bMissAll q rs).length = bMissAll q rs := by
  have l150 : zLI 150 = 2400 := rfl
  have l152 : zLI 152 = 4 := rfl
  unfold g_m_misses
  rw [s_copies (by omega) (by omega) (by omega) (by omega) (by omega) (by omega), Option.bind_some, hbox]
  refine s_mis20 hq h1 h2 h3 hN hr rs [] zK (zu (zb σ 150 0 q) 143 10 1) rfl (by show _ < 1000000; omega) ?_ ?_ ?_
  · intro a j ha hb hc
    rw [zu_c (by omega), zb_a ha]
  · rw [zu_e rfl]; rfl
  · show lstA _ 150 ([q] : List Bx).length = [q]
    refine lstA_ext (fun k hk => ?_)
    have hk0 : k = 0 := by
      have : k < 1 := hk
      omega
    subst hk0
    rw [zu_bxa (by decide)]
    exact zb_bx rfl
