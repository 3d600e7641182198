section
/-! 8yb.again1 -/
/-! again, least: the class, the reference -/
theorem k_doAg {I : Nat → Bool} {rn : Bx → Int} {st : Int → Int} {B : List Bx} (so : stO1 st) (okB : ∀ b ∈ B, bOk b) (hB : B.length ≤ 10) {σ0 τ : zS} (h63 : σ0 63 1 = (B.length : Int)) (h64 : ∀ (k : Nat) (hk : k < B.length), σ0 64 (k : Int) = enc B[k]) (h50 : ∀ i : Int, 0 ≤ i → i < 7 → σ0 50 i = st i) (S : STb σ0 41 I) (hI : ∀ r, I r = true → r < 60) (hr : ∀ b, rnC σ0 I b = rn b) (M : mKp τ rn st) {n : Int} (hn : 1 ≤ n ∧ n ≤ 99) {σ : zS} (e : ∀ c j, c < 106 → σ c j = σ0 c j) : zP' (g_c_doAgain n σ) (fun _ s => (∃ L' ct', srvL rn (upC st 1 n) B [] zCt L' ct' ∧ cSt s 106 I rn (upC st 1 n) L' ct') ∧ ∀ c j, c < 106 → s c j = σ0 c j) := by
  unfold g_c_doAgain g_ca_forgetAll
  rw [Option.bind_some]
  try dsimp +instances only
  generalize hs : zu (zu (zu (zu (zu (zu (zu (zu (zu σ 106 2 0) 106 8 0) 106 9 0) 106 10 0) 106 11 0) 106 12 0) 106 13 0) 106 14 0) 106 15 0 = s1
  have z1 : ∀ a j, a ≠ 106 → s1 a j = σ a j := fun a j k => by
    rw [← hs, zu_a k, zu_a k, zu_a k, zu_a k, zu_a k, zu_a k, zu_a k, zu_a k, zu_a k]
  have z2 : s1 106 2 = 0 := by
    rw [← hs, zu_i (by decide), zu_i (by decide), zu_i (by decide), zu_i (by decide), zu_i (by decide), zu_i (by decide), zu_i (by decide), zu_i (by decide), zu_e rfl]
  have z8 : ∀ i : Int, 8 ≤ i → i ≤ 15 → s1 106 i = 0 := fun i i1 i2 => by
    have cs : i = 8 ∨ i = 9 ∨ i = 10 ∨ i = 11 ∨ i = 12 ∨ i = 13 ∨ i = 14 ∨ i = 15 := by omega
    rw [← hs]
    unfold zu
    rcases cs with rfl | rfl | rfl | rfl | rfl | rfl | rfl | rfl <;> simp
  rw [c_seCopy, Option.bind_some]
  unfold g_se_become
  rw [if_neg (by decide), if_neg (by decide), if_pos (by decide), Option.bind_some]
  try dsimp +instances only
  generalize ht : zu (zcp s1 (49 + 1) 0 (107 + 1) 0 7) (107 + 1) 1 n = t
  have y1 : ∀ a j, a ≠ 108 → t a j = s1 a j := fun a j k => by
    rw [← ht, zu_a k]
    exact if_neg (fun h => k h.1)
  have y2 : ∀ i : Int, 0 ≤ i → i < 7 → t 108 i = upC st 1 n i := fun i i1 i2 => by
    rw [← ht]
    unfold upC
    by_cases c : i = 1
    · rw [if_pos c, zu_e c]
    · rw [if_neg c, zu_i c]
      have g : zcp s1 (49 + 1) 0 (107 + 1) 0 7 108 i = s1 50 (0 + (i - 0)) := if_pos ⟨rfl, by omega, by omega⟩
      rw [g, z1 50 _ (by decide), e 50 _ (by decide), show (0 : Int) + (i - 0) = i by omega, h50 i i1 i2]
  have et : ∀ c j, c < 106 → t c j = σ0 c j := fun c j hc => (y1 c j (by omega)).trans ((z1 c j (by omega)).trans (e c j hc))
  have Ct : cSt t 106 I rn (upC st 1 n) [] zCt := by
    refine ⟨⟨(y1 106 2 (by decide)).trans z2, fun k hk => absurd hk (Nat.not_lt_zero k)⟩, fun i i1 i2 => (y1 106 i (by decide)).trans (z8 i i1 i2), fun i i1 i2 => y2 i i1 i2, STb_mv S (fun c j k1 k2 => et c j (by omega)), hI, fun b => ?_⟩
    rw [rnC_mv (fun c j k1 k2 => et c j (by omega))]
    exact hr b
  have g := k_ag41 (so.up hn) okB hB h63 h64 zK 0 t (emS τ n 0) [] zCt (Nat.zero_le _) et (emV M) ⟨Int.le_refl 0, by show (0 : Int) + _ < _; omega⟩ Ct
  exact g
/-! the reference -/
theorem t_dn57 {rn : Bx → Int} {st : Int → Int} {B : List Bx} {x : Int} (so : stO1 st) (okB : ∀ b ∈ B, bOk b) (hB : B.length ≤ 10) (hx : 0 ≤ x ∧ x ≤ 5) : ∀ (n k : Nat) (s : zS) (L : List Rg) (ct : Int → Int), k ≤ B.length → VRg rn st L ct s → (0 ≤ ct 8 ∧ ct 8 + 169 * ((B.length : Int) - (k : Int)) < 2147483000) → s 144 9 = (B.length : Int) → (∀ (k : Nat) (hk : k < B.length), bxA s 144 (260 + 4 * (k : Int)) = B[k]) → zP' (g_m_done_L57 n x (k : Int) s) (fun v _ => ∃ L' ct', srvL rn st (B.drop k) L ct L' ct' ∧ v = agV x L' ct')
  | 0, _, _, _, _, _, _, _, _, _ => zP'.no
  | n + 1, k, s, L, ct, hk, V, h8, h9, hb => by
    have l144 : zLI 144 = 2740 := rfl
    have l152 : zLI 152 = 4 := rfl
    unfold g_m_done_L57
    try dsimp +instances only
    rw [h9]
    by_cases ck : k = B.length
    · rw [if_pos (by omega), List.drop_of_length_le (by omega)]
      have fin : ∀ v : Int, v = agV x L ct → zP' (g_m_done_L148 v s) (fun v _ => ∃ L' ct', srvL rn st [] L ct L' ct' ∧ v = agV x L' ct') := fun v hv => by
        unfold g_m_done_L148
        rw [s_back ⟨by decide, by decide, by decide, by decide⟩, Option.bind_some]
        exact zP'.ret ⟨L, ct, ⟨rfl, rfl⟩, hv⟩
      have cc := V.1.2.1.2.2
      by_cases c0 : x = 0
      · rw [if_neg (fun e => e c0)]
        refine fin _ ?_
        unfold agV
        rw [if_pos c0]
        exact cc 11 (by decide) (by decide)
      · rw [if_pos c0]
        by_cases c1 : x = 1
        · rw [if_neg (fun e => e c1)]
          refine fin _ ?_
          unfold agV
          rw [if_neg c0, if_pos c1]
          exact cc 10 (by decide) (by decide)
        · rw [if_pos c1]
          by_cases c5 : 5 ≤ x
          · rw [if_pos c5]
            refine fin _ ?_
            unfold agV
            rw [if_neg c0, if_neg c1, if_pos c5]
            exact V.1.1.1
          · rw [if_neg c5, w32_id (x := 4 + x) (by omega) (by omega), w32_id (x := 4 + x - 2) (by omega) (by omega), if_pos (by omega)]
            refine fin _ ?_
            unfold agV
            rw [if_neg c0, if_neg c1, if_neg c5]
            have g := cc (10 + x) (by omega) (by omega)
            rw [show 10 + x - 8 = 4 + x - 2 by omega] at g
            exact g
    · have hk' : k < B.length := by omega
      have ok := okB _ (List.getElem_mem hk')
      rw [if_neg (by omega), w32_id (x := 4 * (k : Int)) (by omega) (by omega), w32_id (x := 260 + 4 * (k : Int)) (by omega) (by omega), s_copies (by omega) (by omega) (by omega) (by omega) (by omega) (by omega), Option.bind_some, hb k hk']
      try dsimp +instances only
      obtain ⟨M, R, hL, A⟩ := V
      obtain ⟨o1, o2, o3, o4, o5⟩ := so
      have M1 : mSt (zb s 152 0 B[k]) rn st L ct := M.mv (by omega) (fun j _ _ => zb_a (by decide)) (fun j _ _ => zb_a (by decide))
      have R1 : RI (zb s 152 0 B[k]) L.length := R.mv (by omega) (fun j _ _ => zb_a (by decide))
      have e13 : zb s 152 0 B[k] 144 13 = st 2 := M1.2.2.1 2 (by decide) (by decide)
      have e12 : zb s 152 0 B[k] 144 12 = st 1 := M1.2.2.1 1 (by decide) (by decide)
      obtain ⟨t, N, e1, e2, e3, e4, e5⟩ := s_queries (q := B[k]) R1 M1.1.1 hL ok (zb_bx rfl) (by omega) (by omega) (by omega)
      obtain ⟨L1, c1, p1, p2, p3, p4, p5⟩ := t_queries (q := B[k]) (by omega) (by omega) o4 o5 R1 M1 hL ok (zb_bx rfl) A (by omega) _ t e1
      have eN : N = L1.length := by
        have := p5.1.1
        omega
      subst eN
      have q : ∀ j : Int, 8 ≤ j → j < 340 → t 144 j = s 144 j := fun j j1 j2 => (e5 144 j (Or.inr ⟨j1, j2⟩) (Or.inl (by decide)) (by decide) (by decide) (by decide) (Or.inl (by decide))).trans (zb_a (by decide))
      rw [e1, Option.bind_some]
      try dsimp +instances only
      rw [w32_id (x := (k : Int) + 1) (by omega) (by omega), show (k : Int) + 1 = ((k + 1 : Nat) : Int) by omega]
      refine (t_dn57 ⟨o1, o2, o3, o4, o5⟩ okB hB hx n (k + 1) t L1 c1 (by omega) ⟨p5, e2, e4, p3⟩ (by omega) ((q 9 (by decide) (by decide)).trans h9) (fun i hi => ?_)).imp (fun v _ g => ?_)
      · rw [← hb i hi]
        unfold bxA
        rw [q _ (by omega) (by omega), q _ (by omega) (by omega), q _ (by omega) (by omega), q _ (by omega) (by omega)]
      · obtain ⟨L', ct', g1, g2⟩ := g
        refine ⟨L', ct', ?_, g2⟩
        rw [List.drop_eq_getElem_cons hk']
        exact ⟨L1, c1, p1, g1⟩
theorem t_dn28 {x y : Int} {Q : Int → zS → Prop} {s0' : zS} (H : ∀ s', (∀ j : Int, 2 ≤ j → j < 8 → s' 144 j = 0) → (∀ a j, (a ≠ 144 ∨ j < 2 ∨ 8 ≤ j) → s' a j = s0' a j) → zP' (g_m_done_L57 zK y 0 (zu s' 144 12 x)) Q) : ∀ (n k : Nat) (s : zS), 2 ≤ k → k ≤ 8 → (∀ j : Int, 2 ≤ j → j < (k : Int) → s 144 j = 0) → (∀ a j, (a ≠ 144 ∨ j < 2 ∨ 8 ≤ j) → s a j = s0' a j) → zP' (g_m_done_L28 n x y (k : Int) s) Q
  | 0, _, _, _, _, _, _ => zP'.no
  | n + 1, k, s, h2, h8, hz, hf => by
    unfold g_m_done_L28
    by_cases c : k = 8
    · subst c
      rw [if_pos (by decide)]
      exact H s hz hf
    · rw [if_neg (by omega), if_pos (by omega), w32_id (x := (k : Int) + 1) (by omega) (by omega), show (k : Int) + 1 = ((k + 1 : Nat) : Int) by omega]
      refine t_dn28 H n (k + 1) _ (by omega) (by omega) (fun j j1 j2 => ?_) (fun a j h => (zu_c (by omega)).trans (hf a j h))
      by_cases cj : j = (k : Int)
      · exact zu_e cj
      · rw [zu_i cj]
        exact hz j j1 (by omega)
theorem t_doneR {σ : zS} {rn : Bx → Int} {st : Int → Int} {L : List Rg} {ct : Int → Int} {B : List Bx} {n x : Int} (so : stO1 st) (okB : ∀ b ∈ B, bOk b) (hB : B.length ≤ 10) (hn : 1 ≤ n ∧ n ≤ 99) (hx : 0 ≤ x ∧ x ≤ 5) (M : mSt σ rn st L ct) (h8 : 0 ≤ ct 8 ∧ ct 8 ≤ 2000000) (h9 : σ 144 9 = (B.length : Int)) (hb : ∀ (k : Nat) (hk : k < B.length), bxA σ 144 (260 + 4 * (k : Int)) = B[k]) : zP' (g_m_done n x σ) (fun v _ => agW rn st B n x v) := by
  unfold g_m_done
  rw [s_keeps ⟨by decide, by decide, by decide, by decide, by decide⟩, Option.bind_some]
  try dsimp +instances only
  have kp : ∀ a j, a ≠ 146 → a ≠ 149 → kpS σ 146 149 a j = σ a j := fun a j h1 h2 => by
    unfold kpS
    rw [if_neg (fun e => h1 e.1), if_neg (fun e => h2 e.1)]
  refine t_dn28 (s0' := zu (zu (kpS σ 146 149) 144 0 0) 147 0 0) (fun s hz hf => ?_) zK 2 _ (Nat.le_refl 2) (by decide) (fun j j1 j2 => absurd j2 (by show ¬ j < 2; omega)) (fun _ _ _ => rfl)
  have q : ∀ j : Int, 8 ≤ j → j ≠ 12 → zu s 144 12 n 144 j = σ 144 j := fun j j1 j2 => by
    rw [zu_i j2, hf 144 j (by omega), zu_a (by decide), zu_i (by omega)]
    exact kp 144 j (by decide) (by decide)
  have e0 : zu s 144 12 n 144 0 = 0 := by
    rw [zu_i (by decide), hf 144 0 (by omega), zu_a (by decide), zu_e rfl]
  have e1 : zu s 144 12 n 144 1 = ct 8 := by
    rw [zu_i (by decide), hf 144 1 (by omega), zu_a (by decide), zu_i (by decide), kp 144 1 (by decide) (by decide)]
    exact M.2.1.1
  have e7 : zu s 144 12 n 147 0 = 0 := by
    rw [zu_a (by decide), hf 147 0 (Or.inl (by decide)), zu_e rfl]
  have V : VRg rn (upC st 1 n) [] (upC zCt 8 (ct 8)) (zu s 144 12 n) := by
    refine ⟨⟨⟨e0, fun k hk => absurd hk (Nat.not_lt_zero k)⟩, ⟨e1, e7, fun i i1 i2 => ?_⟩, fun i i1 i2 => ?_, fun b => ?_⟩, ⟨fun k hk => absurd hk (Nat.not_lt_zero k), fun k1 k2 _ h => absurd h (Nat.not_lt_zero k2)⟩, by decide, ⟨List.Pairwise.nil, fun r h => absurd h List.not_mem_nil⟩⟩
    · rw [zu_i (by omega), hz _ (by omega) (by omega)]
      unfold upC
      rw [if_neg (by omega)]
      rfl
    · by_cases c : i = 1
      · subst c
        have g : zu s 144 12 n 144 (11 + 1) = n := zu_e (by decide)
        rw [g]
        rfl
      · rw [q _ (by omega) (by omega), M.2.2.1 i i1 i2]
        unfold upC
        rw [if_neg c]
    · rw [← M.2.2.2 b]
      exact rowsN_fr (fun j j1 j2 => q j (by omega) (by omega)) b
  have g := t_dn57 (so.up hn) okB hB hx zK 0 (zu s 144 12 n) [] (upC zCt 8 (ct 8)) (Nat.zero_le _) V ⟨h8.1, by show ct 8 + _ < _; omega⟩ ((q 9 (by decide) (by decide)).trans h9) (fun k hk => by
    rw [← hb k hk]
    unfold bxA
    rw [q _ (by omega) (by omega), q _ (by omega) (by omega), q _ (by omega) (by omega), q _ (by omega) (by omega)])
  refine zP'.imp g (fun v _ p => ?_)
  obtain ⟨L', c', p1, p2⟩ := p
  obtain ⟨M', d', w⟩ := VRg.chain (so.up hn) B [] zCt (emS σ n 0) (emV M.2.2) ⟨Int.le_refl 0, by show (0 : Int) + _ < _; omega⟩ okB
  obtain ⟨x1, x2⟩ := srvL_e B p1 w rfl (fun j hj => by
    unfold upC
    rw [if_neg hj])
  exact ⟨M', d', w, p2.trans (agV_e hx.1 x1 x2)⟩
/-! the pairs -/
theorem R_tr {K : Int} {σ : zS} (I : InvR K σ) : ∃ B : List Bx, (∀ b ∈ B, bOk b) ∧ B.length ≤ 10 ∧ σ 63 1 = (B.length : Int) ∧ (∀ (k : Nat) (hk : k < B.length), σ 64 (k : Int) = enc B[k]) ∧ σ 144 9 = (B.length : Int) ∧ ∀ (k : Nat) (hk : k < B.length), bxA σ 144 (260 + 4 * (k : Int)) = B[k] := by
  have h9 := I.1.mi.2.1.2.2.2.1
  have R9 : σ 63 1 = σ 144 9 := I.1.1.1.2.1.2.1
  have T : TR σ 41 144 := I.1.1.1.2.1.2.2.2.1
  obtain ⟨N, hN⟩ : ∃ N : Nat, σ 144 9 = (N : Int) := ⟨(σ 144 9).toNat, by omega⟩
  have hl : ((List.range N).map (fun k : Nat => bxA σ 144 (260 + 4 * (k : Int)))).length = N := by rw [List.length_map, List.length_range]
  refine ⟨(List.range N).map (fun k : Nat => bxA σ 144 (260 + 4 * (k : Int))), fun b hb => ?_, by omega, by rw [hl, R9, hN], fun k hk => ?_, by rw [hl, hN], fun k hk => ?_⟩
  · obtain ⟨k, hk, rfl⟩ := List.mem_map.mp hb
    have hk := List.mem_range.mp hk
    exact (T k (by omega) (by omega)).1
  · rw [hl] at hk
    rw [List.getElem_map, List.getElem_range]
    exact (T k (by omega) (by omega)).2
  · rw [List.getElem_map, List.getElem_range]
theorem qu_again {K : Int} {a b : Int} {σ : zS} (hK : K ≤ 2000000) (I : InvR K σ) : two (g_c_again a b σ) (g_m_again a b) (fun v w s => InvR K s ∧ v = w) := by
  obtain ⟨v, s1, e1, w, s2, e2, J⟩ := qr_again (a := a) (b := b) I
  refine ⟨v, s1, e1, w, s2, e2, J, ?_⟩
  obtain ⟨L, ct, C, M, hR, hk, A, B, hL⟩ := R_open I
  obtain ⟨T, okB, hB, h63, h64, h9, hb⟩ := R_tr I
  have so := R_st I
  obtain ⟨H1, G1, -⟩ := zO.at (g_c_again_sp I.1.ci) e1
  have ref := fr_ref G1
  have Mm := M.mv (s := s1) (by omega) (fun j _ _ => ref 144 j (by decide) (by decide)) (fun j _ _ => ref 147 j (by decide) (by decide))
  have key : zP' (g_c_again a b σ) (fun v _ => (0 ≤ b ∧ b ≤ 5 → (1 ≤ a ∧ a ≤ 99 → agW (rowsN σ) (σ 50) T a b v) ∧ (¬ (1 ≤ a ∧ a ≤ 99) → v = -2)) ∧ (¬ (0 ≤ b ∧ b ≤ 5) → v = -1)) := by
    unfold g_c_again
    by_cases c1 : b < 0
    · rw [if_pos c1]
      exact zP'.ret ⟨fun h => absurd h.1 (by omega), fun _ => rfl⟩
    rw [if_neg c1]
    by_cases c2 : b ≤ 5
    case neg =>
      rw [if_neg c2]
      exact zP'.ret ⟨fun h => absurd h.2 c2, fun _ => rfl⟩
    rw [if_pos c2]
    by_cases c3 : a < 1
    · rw [if_pos c3]
      exact zP'.ret ⟨fun _ => ⟨fun h => absurd h.1 (by omega), fun _ => rfl⟩, fun h => absurd ⟨by omega, c2⟩ h⟩
    rw [if_neg c3]
    by_cases c4 : a ≤ 99
    case neg =>
      rw [if_neg c4]
      exact zP'.ret ⟨fun _ => ⟨fun h => absurd h.2 c4, fun _ => rfl⟩, fun h => absurd ⟨by omega, c2⟩ h⟩
    rw [if_pos c4]
    refine zP'.bind (k_doAg so okB hB h63 h64 (fun i _ _ => rfl) C.2.2.2.1 C.2.2.2.2.1 C.2.2.2.2.2 M.2.2 (n := a) (by omega) (fun _ _ _ => rfl)) (fun _ t p => ?_)
    obtain ⟨⟨L', ct', p1, p2⟩, -⟩ := p
    have cc : ∀ i : Int, 8 ≤ i → i ≤ 15 → t 106 i = ct' i := p2.2.1
    have fin : ∀ v : Int, v = agV b L' ct' → zP' (some (v, t) : Option (Int × zS)) (fun v _ => (0 ≤ b ∧ b ≤ 5 → (1 ≤ a ∧ a ≤ 99 → agW (rowsN σ) (σ 50) T a b v) ∧ (¬ (1 ≤ a ∧ a ≤ 99) → v = -2)) ∧ (¬ (0 ≤ b ∧ b ≤ 5) → v = -1)) := fun v hv => zP'.ret ⟨fun _ => ⟨fun _ => ⟨L', ct', p1, hv⟩, fun h => absurd ⟨by omega, c4⟩ h⟩, fun h => absurd ⟨by omega, c2⟩ h⟩
    try dsimp +instances only
    have cs : b = 0 ∨ b = 1 ∨ b = 2 ∨ b = 3 ∨ b = 4 ∨ b = 5 := by omega
    rcases cs with rfl | rfl | rfl | rfl | rfl | rfl
    · rw [if_pos rfl]
      exact fin _ (cc 11 (by decide) (by decide))
    · rw [if_neg (by decide), if_pos rfl]
      exact fin _ (cc 10 (by decide) (by decide))
    · rw [if_neg (by decide), if_neg (by decide), if_pos rfl]
      exact fin _ (cc 12 (by decide) (by decide))
    · rw [if_neg (by decide), if_neg (by decide), if_neg (by decide), if_pos rfl]
      exact fin _ (cc 13 (by decide) (by decide))
    · rw [if_neg (by decide), if_neg (by decide), if_neg (by decide), if_neg (by decide), if_pos rfl]
      exact fin _ (cc 14 (by decide) (by decide))
    · rw [if_neg (by decide), if_neg (by decide), if_neg (by decide), if_neg (by decide), if_neg (by decide)]
      exact fin _ p2.1.1
  have keyM : zP' (g_m_again a b s1) (fun v _ => (0 ≤ b ∧ b ≤ 5 → (1 ≤ a ∧ a ≤ 99 → agW (rowsN σ) (σ 50) T a b v) ∧ (¬ (1 ≤ a ∧ a ≤ 99) → v = -2)) ∧ (¬ (0 ≤ b ∧ b ≤ 5) → v = -1)) := by
    unfold g_m_again
    by_cases c1 : 0 ≤ b ∧ b ≤ 5
    · rw [s_isIn_t c1.1 c1.2, Option.bind_some]
      try dsimp +instances only
      rw [if_pos (by decide)]
      by_cases c2 : 1 ≤ a ∧ a ≤ 99
      · rw [s_isIn_t c2.1 c2.2, Option.bind_some]
        try dsimp +instances only
        rw [if_pos (by decide)]
        have g := t_doneR so okB hB c2 c1 Mm (by omega) ((ref 144 9 (by decide) (by decide)).trans h9) (fun k hk => by
          rw [← hb k hk]
          unfold bxA
          rw [ref 144 _ (by decide) (by decide), ref 144 _ (by decide) (by decide), ref 144 _ (by decide) (by decide), ref 144 _ (by decide) (by decide)])
        exact zP'.bind g (fun v t p => zP'.ret ⟨fun _ => ⟨fun _ => p, fun h => absurd c2 h⟩, fun h => absurd c1 h⟩)
      · rw [s_isIn_f (by omega), Option.bind_some]
        try dsimp +instances only
        rw [if_neg (by decide)]
        exact zP'.ret ⟨fun _ => ⟨fun h => absurd h c2, fun _ => rfl⟩, fun h => absurd c1 h⟩
    · rw [s_isIn_f (by omega), Option.bind_some]
      try dsimp +instances only
      rw [if_neg (by decide)]
      exact zP'.ret ⟨fun h => absurd h c1, fun _ => rfl⟩
  obtain ⟨p1, p2⟩ := key v s1 e1
  obtain ⟨r1, r2⟩ := keyM w s2 e2
  by_cases c1 : 0 ≤ b ∧ b ≤ 5
  · by_cases c2 : 1 ≤ a ∧ a ≤ 99
    · exact ((p1 c1).1 c2).det ((r1 c1).1 c2)
    · rw [(p1 c1).2 c2, (r1 c1).2 c2]
  · rw [p2 c1, r2 c1]
/-- the least room that pays no more -/
def lsW (rn : Bx → Int) (st : Int → Int) (B : List Bx) (a : Int) : Nat → Int → Int → Prop
  | 0, _, v => v = -5
  | m + 1, n, v => ∃ p, agW rn st B n 0 p ∧ ((p ≤ a ∧ v = n) ∨ (a < p ∧ lsW rn st B a m (n + 1) v))
theorem lsW.det {rn : Bx → Int} {st : Int → Int} {B : List Bx} {a : Int} : ∀ (m : Nat) (n v w : Int), lsW rn st B a m n v → lsW rn st B a m n w → v = w
  | 0, _, _, _, h1, h2 => by
    have h1 : _ = _ := h1
    have h2 : _ = _ := h2
    exact h1.trans h2.symm
  | m + 1, n, v, w, h1, h2 => by
    obtain ⟨p, a1, b1⟩ := h1
    obtain ⟨q, a2, b2⟩ := h2
    obtain rfl := a1.det a2
    rcases b1 with ⟨c1, d1⟩ | ⟨c1, d1⟩
    · rcases b2 with ⟨c2, d2⟩ | ⟨c2, d2⟩
      · exact d1.trans d2.symm
      · omega
    · rcases b2 with ⟨c2, d2⟩ | ⟨c2, d2⟩
      · omega
      · exact lsW.det m (n + 1) v w d1 d2
theorem k_ls2 {I : Nat → Bool} {rn : Bx → Int} {st : Int → Int} {B : List Bx} (so : stO1 st) (okB : ∀ b ∈ B, bOk b) (hB : B.length ≤ 10) {σ0 τ : zS} (h63 : σ0 63 1 = (B.length : Int)) (h64 : ∀ (k : Nat) (hk : k < B.length), σ0 64 (k : Int) = enc B[k]) (h50 : ∀ i : Int, 0 ≤ i → i < 7 → σ0 50 i = st i) (S : STb σ0 41 I) (hI : ∀ r, I r = true → r < 60) (hr : ∀ b, rnC σ0 I b = rn b) (M : mKp τ rn st) {a : Int} : ∀ (n m : Nat) (x : Int) (σ : zS), 1 ≤ x → x + (m : Int) = 100 → (∀ c j, c < 106 → σ c j = σ0 c j) → zP' (g_c_least_L2 n a x σ) (fun v _ => lsW rn st B a m x v)
  | 0, _, _, _, _, _, _ => zP'.no
  | n + 1, m, x, σ, x1, hm, e => by
    unfold g_c_least_L2
    cases m with
    | zero =>
      rw [if_pos (by omega)]
      exact zP'.ret rfl
    | succ m =>
      rw [if_neg (by omega)]
      refine zP'.bind (k_doAg so okB hB h63 h64 h50 S hI hr M (n := x) (by omega) e) (fun _ t p => ?_)
      obtain ⟨⟨L', ct', p1, p2⟩, p3⟩ := p
      have e11 : t 106 11 = ct' 11 := p2.2.1 11 (by decide) (by decide)
      try dsimp +instances only
      rw [e11]
      by_cases c : a < ct' 11
      · rw [if_pos c, w32_id (x := x + 1) (by omega) (by omega)]
        refine (k_ls2 so okB hB h63 h64 h50 S hI hr M n m (x + 1) t (by omega) (by omega) p3).imp (fun v _ g => ⟨ct' 11, ⟨L', ct', p1, rfl⟩, Or.inr ⟨c, g⟩⟩)
      · rw [if_neg c]
        exact zP'.ret ⟨ct' 11, ⟨L', ct', p1, rfl⟩, Or.inl ⟨by omega, rfl⟩⟩
theorem t_ls2 {rn : Bx → Int} {st : Int → Int} {L : List Rg} {ct : Int → Int} {B : List Bx} {σ0 : zS} (so : stO1 st) (okB : ∀ b ∈ B, bOk b) (hB : B.length ≤ 10) (hH : HI σ0) (hL : L.length ≤ 12) (M : mSt σ0 rn st L ct) (h8 : 0 ≤ ct 8 ∧ ct 8 ≤ 2000000) (h9 : σ0 144 9 = (B.length : Int)) (hb : ∀ (k : Nat) (hk : k < B.length), bxA σ0 144 (260 + 4 * (k : Int)) = B[k]) {a : Int} : ∀ (n m : Nat) (x : Int) (σ : zS), 1 ≤ x → x + (m : Int) = 100 → sameIn σ0 σ 144 144 2740 → sameIn σ0 σ 147 147 361 → zP' (g_m_least_L2 n a x σ) (fun v _ => lsW rn st B a m x v)
  | 0, _, _, _, _, _, _, _ => zP'.no
  | n + 1, m, x, σ, x1, hm, f1, f2 => by
    unfold g_m_least_L2
    cases m with
    | zero =>
      rw [if_pos (by omega)]
      exact zP'.ret rfl
    | succ m =>
      have M1 : mSt σ rn st L ct := M.mv (by omega) (fun j j1 j2 => f1 j j1 j2) (fun j j1 j2 => f2 j j1 j2)
      have g := t_doneR (n := x) (x := 0) so okB hB (by omega) (by decide) M1 h8 ((f1 9 (by decide) (by decide)).trans h9) (fun k hk => by
        rw [← hb k hk]
        unfold bxA
        rw [f1 _ (by omega) (by omega), f1 _ (by omega) (by omega), f1 _ (by omega) (by omega), f1 _ (by omega) (by omega)])
      obtain ⟨v0, s0', d1, d2, d3, -⟩ := s_done (σ := σ) (x := x) (y := 0) (HI_in hH f1) (by omega) (by decide)
      have w0 := g v0 s0' d1
      rw [if_neg (by omega), d1, Option.bind_some]
      try dsimp +instances only
      by_cases c : a < v0
      · rw [if_pos c, w32_id (x := x + 1) (by omega) (by omega)]
        refine (t_ls2 so okB hB hH hL M h8 h9 hb n m (x + 1) s0' (by omega) (by omega) (fun j j1 j2 => (d2 j j1 j2).trans (f1 j j1 j2)) (fun j j1 j2 => (d3 j j1 j2).trans (f2 j j1 j2))).imp (fun v _ g => ⟨v0, w0, Or.inr ⟨c, g⟩⟩)
      · rw [if_neg c]
        exact zP'.ret ⟨v0, w0, Or.inl ⟨by omega, rfl⟩⟩
theorem qu_least {K : Int} {a : Int} {σ : zS} (hK : K ≤ 2000000) (I : InvR K σ) : two (g_c_least a σ) (g_m_least a) (fun v w s => InvR K s ∧ v = w) := by
  obtain ⟨v, s1, e1, w, s2, e2, J⟩ := qr_least (a := a) I
  refine ⟨v, s1, e1, w, s2, e2, J, ?_⟩
  obtain ⟨L, ct, C, M, hR, hk, A, B, hL⟩ := R_open I
  obtain ⟨T, okB, hB, h63, h64, h9, hb⟩ := R_tr I
  have so := R_st I
  obtain ⟨H1, G1, -⟩ := zO.at (g_c_least_sp I.1.ci) e1
  have ref := fr_ref G1
  have M1 : MI s1 := MI_cls I.1.mi ref
  have Mm := M.mv (s := s1) (by omega) (fun j _ _ => ref 144 j (by decide) (by decide)) (fun j _ _ => ref 147 j (by decide) (by decide))
  have p := k_ls2 so okB hB h63 h64 (fun i _ _ => rfl) C.2.2.2.1 C.2.2.2.2.1 C.2.2.2.2.2 M.2.2 (a := a) zK 99 1 σ (by decide) (by decide) (fun _ _ _ => rfl) v s1 e1
  have r := t_ls2 so okB hB M1.2.1 hL Mm (by omega) ((ref 144 9 (by decide) (by decide)).trans h9) (fun k hk => by
    rw [← hb k hk]
    unfold bxA
    rw [ref 144 _ (by decide) (by decide), ref 144 _ (by decide) (by decide), ref 144 _ (by decide) (by decide), ref 144 _ (by decide) (by decide)]) (a := a) zK 99 1 s1 (by decide) (by decide) (fun _ _ _ => rfl) (fun _ _ _ => rfl) w s2 e2
  exact lsW.det 99 1 v w p r
end
section
/-! 90.main -/
/-! THE LAW: its loop keeps what stands between the calls (printed by wip/zw.py) -/
set_option maxHeartbeats 4000000 in
theorem z_loop {xl : Nat} {xs : Nat → Int32} (hxl : xl ≤ 3072) (hx : ∀ X : Int32, -2147483648 ≤ X.toInt ∧ X.toInt < 2147483648) : ∀ (n : Nat) (x3 : Int) (σ : zS), InvR (400 * x3) σ → 0 ≤ x3 → x3 ≤ (xl : Int) → (xl : Int) - x3 < (n : Int) → zO (g_jRangeAnswersLaw_law_L18 xl xs n x3 σ) (fun v _ => v = 1)
  | 0, _, _, _, _, _, _ => by exfalso; omega
  | n + 1, x3, σ, I, h1, h2, h3 => by
    unfold g_jRangeAnswersLaw_law_L18
    have w0 := w32_id (x := (xl : Int) - 6) (by omega) (by omega)
    refine zO.ite (fun _ => zO.ret rfl) (fun c0 => ?_)
    try dsimp +instances only
    refine zO.gd (by omega) ?_
    try dsimp +instances only
    have g1 : 0 ≤ w32 (x3 + 1) ∧ w32 (x3 + 1) < (xl : Int) := by rw [w32_id (x := x3 + 1) (by omega) (by omega)]; omega
    have g2 : 0 ≤ w32 (x3 + 2) ∧ w32 (x3 + 2) < (xl : Int) := by rw [w32_id (x := x3 + 2) (by omega) (by omega)]; omega
    have g3 : 0 ≤ w32 (x3 + 3) ∧ w32 (x3 + 3) < (xl : Int) := by rw [w32_id (x := x3 + 3) (by omega) (by omega)]; omega
    have g4 : 0 ≤ w32 (x3 + 4) ∧ w32 (x3 + 4) < (xl : Int) := by rw [w32_id (x := x3 + 4) (by omega) (by omega)]; omega
    have g5 : 0 ≤ w32 (x3 + 5) ∧ w32 (x3 + 5) < (xl : Int) := by rw [w32_id (x := x3 + 5) (by omega) (by omega)]; omega
    have w6 := w32_id (x := x3 + 6) (by omega) (by omega)
    have k1 : 0 ≤ x3 + 6 := by omega
    have k2 : x3 + 6 ≤ (xl : Int) := by omega
    have k3 : (xl : Int) - (x3 + 6) < (n : Int) := by omega
    have kK : 400 * x3 ≤ 2000000 := by omega
    clear w0 c0 h1 h2 h3
    refine zO.ite (fun c => ?_) (fun c => ?_)
    · clear c
      try dsimp +instances only
      refine zO.gd g1 ?_
      try dsimp +instances only
      refine zO.gd g2 ?_
      try dsimp +instances only
      refine zO.gd g3 ?_
      try dsimp +instances only
      refine zO.gd g4 ?_
      try dsimp +instances only
      refine zO.gd g5 ?_
      try dsimp +instances only
      refine zO.bind (qr_put kK (lOr_ok _ _) I) (fun v s1 p => ?_)
      try dsimp +instances only
      refine zO.gd g1 ?_
      try dsimp +instances only
      refine zO.gd g2 ?_
      try dsimp +instances only
      refine zO.gd g3 ?_
      try dsimp +instances only
      refine zO.gd g4 ?_
      try dsimp +instances only
      refine zO.gd g5 ?_
      try dsimp +instances only
      refine zO.bind p (fun w s2 q => ?_)
      try dsimp +instances only
      unfold g_jRangeAnswersLaw_law_L1367
      rw [w6]
      exact z_loop hxl hx n (x3 + 6) s2 (InvR.mono q.1 (by omega)) k1 k2 k3
    · clear c
      try dsimp +instances only
      refine zO.ite (fun c => ?_) (fun c => ?_)
      · clear c
        try dsimp +instances only
        refine zO.gd g1 ?_
        try dsimp +instances only
        refine zO.bind (qr_take kK I) (fun v s1 p => ?_)
        try dsimp +instances only
        refine zO.gd g1 ?_
        try dsimp +instances only
        refine zO.bind p (fun w s2 q => ?_)
        try dsimp +instances only
        unfold g_jRangeAnswersLaw_law_L1367
        rw [w6]
        exact z_loop hxl hx n (x3 + 6) s2 (InvR.mono q.1 (by omega)) k1 k2 k3
      · clear c
        try dsimp +instances only
        refine zO.ite (fun c => ?_) (fun c => ?_)
        · clear c
          try dsimp +instances only
          refine zO.gd g1 ?_
          try dsimp +instances only
          refine zO.gd g2 ?_
          try dsimp +instances only
          refine zO.bind (qr_row I) (fun v s1 p => ?_)
          try dsimp +instances only
          refine zO.gd g1 ?_
          try dsimp +instances only
          refine zO.gd g2 ?_
          try dsimp +instances only
          refine zO.bind p (fun w s2 q => ?_)
          try dsimp +instances only
          unfold g_jRangeAnswersLaw_law_L1367
          rw [w6]
          exact z_loop hxl hx n (x3 + 6) s2 (InvR.mono q.1 (by omega)) k1 k2 k3
        · clear c
          try dsimp +instances only
          refine zO.ite (fun c => ?_) (fun c => ?_)
          · clear c
            try dsimp +instances only
            refine zO.gd g1 ?_
            try dsimp +instances only
            refine zO.bind (qr_worth I) (fun v s1 p => ?_)
            try dsimp +instances only
            refine zO.gd g1 ?_
            try dsimp +instances only
            refine zO.bind p (fun w s2 q => ?_)
            try dsimp +instances only
            unfold g_jRangeAnswersLaw_law_L1367
            rw [w6]
            exact z_loop hxl hx n (x3 + 6) s2 (InvR.mono q.1 (by omega)) k1 k2 k3
          · clear c
            try dsimp +instances only
            refine zO.ite (fun c => ?_) (fun c => ?_)
            · clear c
              try dsimp +instances only
              refine zO.gd g1 ?_
              try dsimp +instances only
              refine zO.bind (qr_feed I) (fun v s1 p => ?_)
              try dsimp +instances only
              refine zO.gd g1 ?_
              try dsimp +instances only
              refine zO.bind p (fun w s2 q => ?_)
              try dsimp +instances only
              unfold g_jRangeAnswersLaw_law_L1367
              rw [w6]
              exact z_loop hxl hx n (x3 + 6) s2 (InvR.mono q.1 (by omega)) k1 k2 k3
            · clear c
              try dsimp +instances only
              refine zO.ite (fun c => ?_) (fun c => ?_)
              · clear c
                try dsimp +instances only
                refine zO.bind (qr_clear I) (fun v s1 p => ?_)
                try dsimp +instances only
                refine zO.bind p (fun w s2 q => ?_)
                try dsimp +instances only
                unfold g_jRangeAnswersLaw_law_L1367
                rw [w6]
                exact z_loop hxl hx n (x3 + 6) s2 (InvR.mono q.1 (by omega)) k1 k2 k3
              · clear c
                try dsimp +instances only
                refine zO.ite (fun c => ?_) (fun c => ?_)
                · clear c
                  try dsimp +instances only
                  refine zO.bind (qr_settings I) (fun v s1 p => ?_)
                  try dsimp +instances only
                  refine zO.bind p (fun w s2 q => ?_)
                  try dsimp +instances only
                  unfold g_jRangeAnswersLaw_law_L1367
                  rw [w6]
                  exact z_loop hxl hx n (x3 + 6) s2 (InvR.mono q.1 (by omega)) k1 k2 k3
                · clear c
                  try dsimp +instances only
                  refine zO.ite (fun c => ?_) (fun c => ?_)
                  · clear c
                    try dsimp +instances only
                    refine zO.gd g1 ?_
                    try dsimp +instances only
                    refine zO.bind (qr_setting I) (fun v s1 p => ?_)
                    try dsimp +instances only
                    refine zO.gd g1 ?_
                    try dsimp +instances only
                    refine zO.bind p (fun w s2 q => ?_)
                    try dsimp +instances only
                    unfold g_jRangeAnswersLaw_law_L1367
                    rw [w6]
                    exact z_loop hxl hx n (x3 + 6) s2 (InvR.mono q.1 (by omega)) k1 k2 k3
                  · clear c
                    try dsimp +instances only
                    refine zO.ite (fun c => ?_) (fun c => ?_)
                    · clear c
                      try dsimp +instances only
                      refine zO.bind (qr_run kK I) (fun v s1 p => ?_)
                      try dsimp +instances only
                      refine zO.bind p (fun w s2 q => ?_)
                      try dsimp +instances only
                      unfold g_jRangeAnswersLaw_law_L1367
                      rw [w6]
                      exact z_loop hxl hx n (x3 + 6) s2 (InvR.mono q.1 (by omega)) k1 k2 k3
                    · clear c
                      try dsimp +instances only
                      refine zO.ite (fun c => ?_) (fun c => ?_)
                      · clear c
                        try dsimp +instances only
                        refine zO.gd g1 ?_
                        try dsimp +instances only
                        refine zO.bind (qr_answer I) (fun v s1 p => ?_)
                        try dsimp +instances only
                        refine zO.gd g1 ?_
                        try dsimp +instances only
                        refine zO.bind p (fun w s2 q => ?_)
                        try dsimp +instances only
                        unfold g_jRangeAnswersLaw_law_L1367
                        rw [w6]
                        exact z_loop hxl hx n (x3 + 6) s2 (InvR.mono q (by omega)) k1 k2 k3
                      · clear c
                        try dsimp +instances only
                        refine zO.ite (fun c => ?_) (fun c => ?_)
                        · clear c
                          try dsimp +instances only
                          refine zO.bind (qr_spell I) (fun v s1 p => ?_)
                          try dsimp +instances only
                          refine zO.bind p (fun w s2 q => ?_)
                          try dsimp +instances only
                          unfold g_jRangeAnswersLaw_law_L1367
                          rw [w6]
                          exact z_loop hxl hx n (x3 + 6) s2 (InvR.mono q (by omega)) k1 k2 k3
                        · clear c
                          try dsimp +instances only
                          refine zO.ite (fun c => ?_) (fun c => ?_)
                          · clear c
                            try dsimp +instances only
                            refine zO.bind (qr_load kK I) (fun v s1 p => ?_)
                            try dsimp +instances only
                            refine zO.bind p (fun w s2 q => ?_)
                            try dsimp +instances only
                            unfold g_jRangeAnswersLaw_law_L1367
                            rw [w6]
                            exact z_loop hxl hx n (x3 + 6) s2 (InvR.mono q.1 (by omega)) k1 k2 k3
                          · clear c
                            try dsimp +instances only
                            refine zO.ite (fun c => ?_) (fun c => ?_)
                            · clear c
                              try dsimp +instances only
                              refine zO.gd g1 ?_
                              try dsimp +instances only
                              refine zO.gd g2 ?_
                              try dsimp +instances only
                              refine zO.gd g3 ?_
                              try dsimp +instances only
                              refine zO.gd g4 ?_
                              try dsimp +instances only
                              refine zO.bind (qr_explain I) (fun v s1 p => ?_)
                              try dsimp +instances only
                              refine zO.gd g1 ?_
                              try dsimp +instances only
                              refine zO.gd g2 ?_
                              try dsimp +instances only
                              refine zO.gd g3 ?_
                              try dsimp +instances only
                              refine zO.gd g4 ?_
                              try dsimp +instances only
                              refine zO.bind p (fun w s2 q => ?_)
                              try dsimp +instances only
                              unfold g_jRangeAnswersLaw_law_L1367
                              rw [w6]
                              exact z_loop hxl hx n (x3 + 6) s2 (InvR.mono q (by omega)) k1 k2 k3
                            · clear c
                              try dsimp +instances only
                              refine zO.ite (fun c => ?_) (fun c => ?_)
                              · clear c
                                try dsimp +instances only
                                refine zO.gd g1 ?_
                                try dsimp +instances only
                                refine zO.bind (qr_paper I) (fun v s1 p => ?_)
                                try dsimp +instances only
                                refine zO.gd g1 ?_
                                try dsimp +instances only
                                refine zO.bind p (fun w s2 q => ?_)
                                try dsimp +instances only
                                unfold g_jRangeAnswersLaw_law_L1367
                                rw [w6]
                                exact z_loop hxl hx n (x3 + 6) s2 (InvR.mono q (by omega)) k1 k2 k3
                              · clear c
                                try dsimp +instances only
                                refine zO.ite (fun c => ?_) (fun c => ?_)
                                · clear c
                                  try dsimp +instances only
                                  refine zO.gd g1 ?_
                                  try dsimp +instances only
                                  refine zO.gd g2 ?_
                                  try dsimp +instances only
                                  refine zO.gd g3 ?_
                                  try dsimp +instances only
                                  refine zO.gd g4 ?_
                                  try dsimp +instances only
                                  refine zO.gd g5 ?_
                                  try dsimp +instances only
                                  refine zO.bind (qr_query kK I) (fun v s1 p => ?_)
                                  try dsimp +instances only
                                  refine zO.gd g1 ?_
                                  try dsimp +instances only
                                  refine zO.gd g2 ?_
                                  try dsimp +instances only
                                  refine zO.gd g3 ?_
                                  try dsimp +instances only
                                  refine zO.gd g4 ?_
                                  try dsimp +instances only
                                  refine zO.gd g5 ?_
                                  try dsimp +instances only
                                  refine zO.bind p (fun w s2 q => ?_)
                                  try dsimp +instances only
                                  unfold g_jRangeAnswersLaw_law_L1367
                                  rw [w6]
                                  exact z_loop hxl hx n (x3 + 6) s2 (InvR.mono q.1 (by omega)) k1 k2 k3
                                · clear c
                                  try dsimp +instances only
                                  refine zO.ite (fun c => ?_) (fun c => ?_)
                                  · clear c
                                    try dsimp +instances only
                                    refine zO.gd g1 ?_
                                    try dsimp +instances only
                                    refine zO.bind (qr_find I) (fun v s1 p => ?_)
                                    try dsimp +instances only
                                    refine zO.gd g1 ?_
                                    try dsimp +instances only
                                    refine zO.bind p (fun w s2 q => ?_)
                                    try dsimp +instances only
                                    unfold g_jRangeAnswersLaw_law_L1367
                                    rw [w6]
                                    exact z_loop hxl hx n (x3 + 6) s2 (InvR.mono q (by omega)) k1 k2 k3
                                  · clear c
                                    try dsimp +instances only
                                    refine zO.ite (fun c => ?_) (fun c => ?_)
                                    · clear c
                                      try dsimp +instances only
                                      refine zO.gd g1 ?_
                                      try dsimp +instances only
                                      refine zO.gd g2 ?_
                                      try dsimp +instances only
                                      refine zO.gd g3 ?_
                                      try dsimp +instances only
                                      refine zO.gd g4 ?_
                                      try dsimp +instances only
                                      refine zO.bind (qr_probe I) (fun v s1 p => ?_)
                                      try dsimp +instances only
                                      refine zO.gd g1 ?_
                                      try dsimp +instances only
                                      refine zO.gd g2 ?_
                                      try dsimp +instances only
                                      refine zO.gd g3 ?_
                                      try dsimp +instances only
                                      refine zO.gd g4 ?_
                                      try dsimp +instances only
                                      refine zO.bind p (fun w s2 q => ?_)
                                      try dsimp +instances only
                                      unfold g_jRangeAnswersLaw_law_L1367
                                      rw [w6]
                                      exact z_loop hxl hx n (x3 + 6) s2 (InvR.mono q (by omega)) k1 k2 k3
                                    · clear c
                                      try dsimp +instances only
                                      refine zO.ite (fun c => ?_) (fun c => ?_)
                                      · clear c
                                        try dsimp +instances only
                                        refine zO.gd g1 ?_
                                        try dsimp +instances only
                                        refine zO.gd g2 ?_
                                        try dsimp +instances only
                                        refine zO.bind (qr_piece I) (fun v s1 p => ?_)
                                        try dsimp +instances only
                                        refine zO.gd g1 ?_
                                        try dsimp +instances only
                                        refine zO.gd g2 ?_
                                        try dsimp +instances only
                                        refine zO.bind p (fun w s2 q => ?_)
                                        try dsimp +instances only
                                        unfold g_jRangeAnswersLaw_law_L1367
                                        rw [w6]
                                        exact z_loop hxl hx n (x3 + 6) s2 (InvR.mono q (by omega)) k1 k2 k3
                                      · clear c
                                        try dsimp +instances only
                                        refine zO.ite (fun c => ?_) (fun c => ?_)
                                        · clear c
                                          try dsimp +instances only
                                          refine zO.gd g1 ?_
                                          try dsimp +instances only
                                          refine zO.gd g2 ?_
                                          try dsimp +instances only
                                          refine zO.bind (qr_region I) (fun v s1 p => ?_)
                                          try dsimp +instances only
                                          refine zO.gd g1 ?_
                                          try dsimp +instances only
                                          refine zO.gd g2 ?_
                                          try dsimp +instances only
                                          refine zO.bind p (fun w s2 q => ?_)
                                          try dsimp +instances only
                                          unfold g_jRangeAnswersLaw_law_L1367
                                          rw [w6]
                                          exact z_loop hxl hx n (x3 + 6) s2 (InvR.mono q (by omega)) k1 k2 k3
                                        · clear c
                                          try dsimp +instances only
                                          refine zO.ite (fun c => ?_) (fun c => ?_)
                                          · clear c
                                            try dsimp +instances only
                                            refine zO.gd g1 ?_
                                            try dsimp +instances only
                                            refine zO.bind (qr_weight I) (fun v s1 p => ?_)
                                            try dsimp +instances only
                                            refine zO.gd g1 ?_
                                            try dsimp +instances only
                                            refine zO.bind p (fun w s2 q => ?_)
                                            try dsimp +instances only
                                            unfold g_jRangeAnswersLaw_law_L1367
                                            rw [w6]
                                            exact z_loop hxl hx n (x3 + 6) s2 (InvR.mono q (by omega)) k1 k2 k3
                                          · clear c
                                            try dsimp +instances only
                                            refine zO.ite (fun c => ?_) (fun c => ?_)
                                            · clear c
                                              try dsimp +instances only
                                              refine zO.gd g1 ?_
                                              try dsimp +instances only
                                              refine zO.bind (qr_told I) (fun v s1 p => ?_)
                                              try dsimp +instances only
                                              refine zO.gd g1 ?_
                                              try dsimp +instances only
                                              refine zO.bind p (fun w s2 q => ?_)
                                              try dsimp +instances only
                                              unfold g_jRangeAnswersLaw_law_L1367
                                              rw [w6]
                                              exact z_loop hxl hx n (x3 + 6) s2 (InvR.mono q (by omega)) k1 k2 k3
                                            · clear c
                                              try dsimp +instances only
                                              refine zO.ite (fun c => ?_) (fun c => ?_)
                                              · clear c
                                                try dsimp +instances only
                                                refine zO.bind (qr_flush I) (fun v s1 p => ?_)
                                                try dsimp +instances only
                                                refine zO.bind p (fun w s2 q => ?_)
                                                try dsimp +instances only
                                                unfold g_jRangeAnswersLaw_law_L1367
                                                rw [w6]
                                                exact z_loop hxl hx n (x3 + 6) s2 (InvR.mono q.1 (by omega)) k1 k2 k3
                                              · clear c
                                                try dsimp +instances only
                                                refine zO.ite (fun c => ?_) (fun c => ?_)
                                                · clear c
                                                  try dsimp +instances only
                                                  refine zO.gd g1 ?_
                                                  try dsimp +instances only
                                                  refine zO.bind (qr_keep I) (fun v s1 p => ?_)
                                                  try dsimp +instances only
                                                  refine zO.gd g1 ?_
                                                  try dsimp +instances only
                                                  refine zO.bind p (fun w s2 q => ?_)
                                                  try dsimp +instances only
                                                  unfold g_jRangeAnswersLaw_law_L1367
                                                  rw [w6]
                                                  exact z_loop hxl hx n (x3 + 6) s2 (InvR.mono q (by omega)) k1 k2 k3
                                                · clear c
                                                  try dsimp +instances only
                                                  refine zO.ite (fun c => ?_) (fun c => ?_)
                                                  · clear c
                                                    try dsimp +instances only
                                                    refine zO.gd g1 ?_
                                                    try dsimp +instances only
                                                    refine zO.gd g2 ?_
                                                    try dsimp +instances only
                                                    refine zO.gd g3 ?_
                                                    try dsimp +instances only
                                                    refine zO.gd g4 ?_
                                                    try dsimp +instances only
                                                    refine zO.bind (qr_trace I) (fun v s1 p => ?_)
                                                    try dsimp +instances only
                                                    refine zO.gd g1 ?_
                                                    try dsimp +instances only
                                                    refine zO.gd g2 ?_
                                                    try dsimp +instances only
                                                    refine zO.gd g3 ?_
                                                    try dsimp +instances only
                                                    refine zO.gd g4 ?_
                                                    try dsimp +instances only
                                                    refine zO.bind p (fun w s2 q => ?_)
                                                    try dsimp +instances only
                                                    unfold g_jRangeAnswersLaw_law_L1367
                                                    rw [w6]
                                                    exact z_loop hxl hx n (x3 + 6) s2 (InvR.mono q.1 (by omega)) k1 k2 k3
                                                  · clear c
                                                    try dsimp +instances only
                                                    refine zO.ite (fun c => ?_) (fun c => ?_)
                                                    · clear c
                                                      try dsimp +instances only
                                                      refine zO.gd g1 ?_
                                                      try dsimp +instances only
                                                      refine zO.gd g2 ?_
                                                      try dsimp +instances only
                                                      refine zO.bind (qu_again kK I) (fun v s1 p => ?_)
                                                      try dsimp +instances only
                                                      refine zO.gd g1 ?_
                                                      try dsimp +instances only
                                                      refine zO.gd g2 ?_
                                                      try dsimp +instances only
                                                      refine zO.bind p (fun w s2 q => ?_)
                                                      try dsimp +instances only
                                                      unfold g_jRangeAnswersLaw_law_L1367
                                                      rw [w6]
                                                      exact z_loop hxl hx n (x3 + 6) s2 (InvR.mono q.1 (by omega)) k1 k2 k3
                                                    · clear c
                                                      try dsimp +instances only
                                                      refine zO.ite (fun c => ?_) (fun c => ?_)
                                                      · clear c
                                                        try dsimp +instances only
                                                        refine zO.gd g1 ?_
                                                        try dsimp +instances only
                                                        refine zO.bind (qu_least kK I) (fun v s1 p => ?_)
                                                        try dsimp +instances only
                                                        refine zO.gd g1 ?_
                                                        try dsimp +instances only
                                                        refine zO.bind p (fun w s2 q => ?_)
                                                        try dsimp +instances only
                                                        refine zO.ite (fun _ => ?_) (fun c => absurd q.2 c)
                                                        try dsimp +instances only
                                                        unfold g_jRangeAnswersLaw_law_L1367
                                                        rw [w6]
                                                        exact z_loop hxl hx n (x3 + 6) s2 (InvR.mono q.1 (by omega)) k1 k2 k3
                                                      · clear c
                                                        try dsimp +instances only
                                                        refine zO.ite (fun c => ?_) (fun c => ?_)
                                                        · clear c
                                                          try dsimp +instances only
                                                          refine zO.gd g1 ?_
                                                          try dsimp +instances only
                                                          refine zO.gd g2 ?_
                                                          try dsimp +instances only
                                                          refine zO.gd g3 ?_
                                                          try dsimp +instances only
                                                          refine zO.gd g4 ?_
                                                          try dsimp +instances only
                                                          refine zO.gd g5 ?_
                                                          try dsimp +instances only
                                                          refine zO.bind (qr_watch I) (fun v s1 p => ?_)
                                                          try dsimp +instances only
                                                          refine zO.gd g1 ?_
                                                          try dsimp +instances only
                                                          refine zO.gd g2 ?_
                                                          try dsimp +instances only
                                                          refine zO.gd g3 ?_
                                                          try dsimp +instances only
                                                          refine zO.gd g4 ?_
                                                          try dsimp +instances only
                                                          refine zO.gd g5 ?_
                                                          try dsimp +instances only
                                                          refine zO.bind p (fun w s2 q => ?_)
                                                          try dsimp +instances only
                                                          unfold g_jRangeAnswersLaw_law_L1367
                                                          rw [w6]
                                                          exact z_loop hxl hx n (x3 + 6) s2 (InvR.mono q.1 (by omega)) k1 k2 k3
                                                        · clear c
                                                          try dsimp +instances only
                                                          refine zO.ite (fun c => ?_) (fun c => ?_)
                                                          · clear c
                                                            try dsimp +instances only
                                                            refine zO.gd g1 ?_
                                                            try dsimp +instances only
                                                            refine zO.bind (qr_value I) (fun v s1 p => ?_)
                                                            try dsimp +instances only
                                                            refine zO.gd g1 ?_
                                                            try dsimp +instances only
                                                            refine zO.bind p (fun w s2 q => ?_)
                                                            try dsimp +instances only
                                                            unfold g_jRangeAnswersLaw_law_L1367
                                                            rw [w6]
                                                            exact z_loop hxl hx n (x3 + 6) s2 (InvR.mono q.1 (by omega)) k1 k2 k3
                                                          · clear c
                                                            try dsimp +instances only
                                                            refine zO.ite (fun c => ?_) (fun c => ?_)
                                                            · clear c
                                                              try dsimp +instances only
                                                              refine zO.gd g1 ?_
                                                              try dsimp +instances only
                                                              refine zO.bind (qr_changes I) (fun v s1 p => ?_)
                                                              try dsimp +instances only
                                                              refine zO.gd g1 ?_
                                                              try dsimp +instances only
                                                              refine zO.bind p (fun w s2 q => ?_)
                                                              try dsimp +instances only
                                                              unfold g_jRangeAnswersLaw_law_L1367
                                                              rw [w6]
                                                              exact z_loop hxl hx n (x3 + 6) s2 (InvR.mono q.1 (by omega)) k1 k2 k3
                                                            · clear c
                                                              try dsimp +instances only
                                                              refine zO.ite (fun c => ?_) (fun c => ?_)
                                                              · clear c
                                                                try dsimp +instances only
                                                                refine zO.gd g1 ?_
                                                                try dsimp +instances only
                                                                refine zO.gd g2 ?_
                                                                try dsimp +instances only
                                                                refine zO.bind (qr_list I) (fun v s1 p => ?_)
                                                                try dsimp +instances only
                                                                refine zO.gd g1 ?_
                                                                try dsimp +instances only
                                                                refine zO.gd g2 ?_
                                                                try dsimp +instances only
                                                                refine zO.bind p (fun w s2 q => ?_)
                                                                try dsimp +instances only
                                                                unfold g_jRangeAnswersLaw_law_L1367
                                                                rw [w6]
                                                                exact z_loop hxl hx n (x3 + 6) s2 (InvR.mono q.1 (by omega)) k1 k2 k3
                                                              · clear c
                                                                try dsimp +instances only
                                                                refine zO.ite (fun c => ?_) (fun c => ?_)
                                                                · clear c
                                                                  try dsimp +instances only
                                                                  refine zO.gd g1 ?_
                                                                  try dsimp +instances only
                                                                  refine zO.gd g2 ?_
                                                                  try dsimp +instances only
                                                                  refine zO.gd g3 ?_
                                                                  try dsimp +instances only
                                                                  refine zO.gd g4 ?_
                                                                  try dsimp +instances only
                                                                  refine zO.bind (qr_set I) (fun v s1 p => ?_)
                                                                  try dsimp +instances only
                                                                  refine zO.gd g1 ?_
                                                                  try dsimp +instances only
                                                                  refine zO.gd g2 ?_
                                                                  try dsimp +instances only
                                                                  refine zO.gd g3 ?_
                                                                  try dsimp +instances only
                                                                  refine zO.gd g4 ?_
                                                                  try dsimp +instances only
                                                                  refine zO.bind p (fun w s2 q => ?_)
                                                                  try dsimp +instances only
                                                                  unfold g_jRangeAnswersLaw_law_L1367
                                                                  rw [w6]
                                                                  exact z_loop hxl hx n (x3 + 6) s2 (InvR.mono q.1 (by omega)) k1 k2 k3
                                                                · clear c
                                                                  try dsimp +instances only
                                                                  refine zO.ite (fun c => ?_) (fun c => ?_)
                                                                  · clear c
                                                                    try dsimp +instances only
                                                                    refine zO.gd g1 ?_
                                                                    try dsimp +instances only
                                                                    refine zO.gd g2 ?_
                                                                    try dsimp +instances only
                                                                    refine zO.bind (qr_get I) (fun v s1 p => ?_)
                                                                    try dsimp +instances only
                                                                    refine zO.gd g1 ?_
                                                                    try dsimp +instances only
                                                                    refine zO.gd g2 ?_
                                                                    try dsimp +instances only
                                                                    refine zO.bind p (fun w s2 q => ?_)
                                                                    try dsimp +instances only
                                                                    unfold g_jRangeAnswersLaw_law_L1367
                                                                    rw [w6]
                                                                    exact z_loop hxl hx n (x3 + 6) s2 (InvR.mono q (by omega)) k1 k2 k3
                                                                  · clear c
                                                                    try dsimp +instances only
                                                                    refine zO.ite (fun c => ?_) (fun c => ?_)
                                                                    · clear c
                                                                      try dsimp +instances only
                                                                      refine zO.gd g1 ?_
                                                                      try dsimp +instances only
                                                                      refine zO.gd g2 ?_
                                                                      try dsimp +instances only
                                                                      refine zO.gd g3 ?_
                                                                      try dsimp +instances only
                                                                      refine zO.gd g4 ?_
                                                                      try dsimp +instances only
                                                                      refine zO.gd g5 ?_
                                                                      try dsimp +instances only
                                                                      refine zO.bind (qr_move (hx _).2 (hx _).2 I) (fun v s1 p => ?_)
                                                                      try dsimp +instances only
                                                                      refine zO.gd g1 ?_
                                                                      try dsimp +instances only
                                                                      refine zO.gd g2 ?_
                                                                      try dsimp +instances only
                                                                      refine zO.gd g3 ?_
                                                                      try dsimp +instances only
                                                                      refine zO.gd g4 ?_
                                                                      try dsimp +instances only
                                                                      refine zO.gd g5 ?_
                                                                      try dsimp +instances only
                                                                      refine zO.bind p (fun w s2 q => ?_)
                                                                      try dsimp +instances only
                                                                      unfold g_jRangeAnswersLaw_law_L1367
                                                                      rw [w6]
                                                                      exact z_loop hxl hx n (x3 + 6) s2 (InvR.mono q.1 (by omega)) k1 k2 k3
                                                                    · clear c
                                                                      try dsimp +instances only
                                                                      refine zO.ite (fun c => ?_) (fun c => ?_)
                                                                      · clear c
                                                                        try dsimp +instances only
                                                                        refine zO.gd g1 ?_
                                                                        try dsimp +instances only
                                                                        refine zO.gd g2 ?_
                                                                        try dsimp +instances only
                                                                        refine zO.bind (qr_lay (hx _) I) (fun v s1 p => ?_)
                                                                        try dsimp +instances only
                                                                        refine zO.gd g1 ?_
                                                                        try dsimp +instances only
                                                                        refine zO.gd g2 ?_
                                                                        try dsimp +instances only
                                                                        refine zO.bind p (fun w s2 q => ?_)
                                                                        try dsimp +instances only
                                                                        unfold g_jRangeAnswersLaw_law_L1367
                                                                        rw [w6]
                                                                        exact z_loop hxl hx n (x3 + 6) s2 (InvR.mono q (by omega)) k1 k2 k3
                                                                      · clear c
                                                                        try dsimp +instances only
                                                                        refine zO.ite (fun c => ?_) (fun c => ?_)
                                                                        · clear c
                                                                          try dsimp +instances only
                                                                          refine zO.gd g1 ?_
                                                                          try dsimp +instances only
                                                                          refine zO.gd g2 ?_
                                                                          try dsimp +instances only
                                                                          refine zO.bind (qr_judge (hx _) I) (fun v s1 p => ?_)
                                                                          try dsimp +instances only
                                                                          refine zO.gd g1 ?_
                                                                          try dsimp +instances only
                                                                          refine zO.gd g2 ?_
                                                                          try dsimp +instances only
                                                                          refine zO.bind p (fun w s2 q => ?_)
                                                                          try dsimp +instances only
                                                                          unfold g_jRangeAnswersLaw_law_L1367
                                                                          rw [w6]
                                                                          exact z_loop hxl hx n (x3 + 6) s2 (InvR.mono q (by omega)) k1 k2 k3
                                                                        · clear c
                                                                          try dsimp +instances only
                                                                          refine zO.ite (fun c => ?_) (fun c => ?_)
                                                                          · clear c
                                                                            try dsimp +instances only
                                                                            refine zO.bind (qr_image I) (fun v s1 p => ?_)
                                                                            try dsimp +instances only
                                                                            refine zO.bind p (fun w s2 q => ?_)
                                                                            try dsimp +instances only
                                                                            unfold g_jRangeAnswersLaw_law_L1367
                                                                            rw [w6]
                                                                            exact z_loop hxl hx n (x3 + 6) s2 (InvR.mono q.1 (by omega)) k1 k2 k3
                                                                          · clear c
                                                                            try dsimp +instances only
                                                                            refine zO.ite (fun c => ?_) (fun c => ?_)
                                                                            · clear c
                                                                              try dsimp +instances only
                                                                              refine zO.bind (qr_undo I) (fun v s1 p => ?_)
                                                                              try dsimp +instances only
                                                                              refine zO.bind p (fun w s2 q => ?_)
                                                                              try dsimp +instances only
                                                                              unfold g_jRangeAnswersLaw_law_L1367
                                                                              rw [w6]
                                                                              exact z_loop hxl hx n (x3 + 6) s2 (InvR.mono q.1 (by omega)) k1 k2 k3
                                                                            · clear c
                                                                              try dsimp +instances only
                                                                              unfold g_jRangeAnswersLaw_law_L1367
                                                                              rw [w6]
                                                                              exact z_loop hxl hx n (x3 + 6) σ (InvR.mono I (by omega)) k1 k2 k3
theorem z_main : z_goal 3072 := z_fin (by decide) (fun xl xs hxl => by
  obtain ⟨v, s, e, rfl⟩ := z_loop (xs := xs) hxl (fun X => ⟨Int32.le_toInt X, Int32.toInt_lt X⟩) zK 0 s0 (InvR_s0 (by decide)) (by omega) (by omega) (by show _ < (1000000 : Int); omega)
  exact ⟨s, e⟩)
end
