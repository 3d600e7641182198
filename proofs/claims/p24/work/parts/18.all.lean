section
/-! 38.ref8 -/
/-! THE REFERENCE over the typed memory: a query -/
def mHit (σ : zS) (q : Bx) (r : Rg) : Rg := (r.1, bAro r.2.1 (bCom r.1 q), r.2.2.1, zmn 9999 (w32 (r.2.2.2.1 + 1)), wgt (σ 147 0) (costN σ r.1) (zmn 9999 (w32 (r.2.2.2.1 + 1))) (1 + rowsN σ r.1))
/-- all but regions' places, weights and common -/
def frH (σ s : zS) : Prop := ∀ a j, a ≠ 153 → (a ≠ 144 ∨ j < 340) → (a ≠ 147 ∨ j < 121) → s a j = σ a j
theorem frH_cost {σ s : zS} (h : frH σ s) (b : Bx) : costN s b = costN σ b ∧ rowsN s b = rowsN σ b := by
  have e : rowsN s b = rowsN σ b := rowsN_fr (fun j h1 h2 => h 144 j (by decide) (Or.inr (by omega)) (Or.inl (by decide))) b
  refine ⟨?_, e⟩
  unfold costN
  rw [e, h 144 11 (by decide) (Or.inr (by decide)) (Or.inl (by decide))]
theorem frH.bx {σ s : zS} (h : frH σ s) {a : Nat} {i : Int} (h1 : a ≠ 153) (h2 : a ≠ 144) (h3 : a ≠ 147) : bxA s a i = bxA σ a i := by
  unfold bxA
  rw [h a _ h1 (Or.inl h2) (Or.inl h3), h a _ h1 (Or.inl h2) (Or.inl h3), h a _ h1 (Or.inl h2) (Or.inl h3), h a _ h1 (Or.inl h2) (Or.inl h3)]
def htS (s : zS) (k : Int) (q : Bx) : zS := zb (zb (zu s 144 (349 + 10 * k) (zmn 9999 (w32 (s 144 (349 + 10 * k) + 1)))) 153 0 (bCom (bxA s 144 (340 + 10 * k)) q)) 144 (344 + 10 * k) (bAro (bxA s 144 (344 + 10 * k)) (bCom (bxA s 144 (340 + 10 * k)) q))
theorem htS_a {s : zS} {k : Int} {q : Bx} {a : Nat} {j : Int} (h1 : a ≠ 153) (h2 : a ≠ 144 ∨ j < 344 + 10 * k ∨ 350 + 10 * k ≤ j) : htS s k q a j = s a j := by
  unfold htS
  rcases h2 with h | h
  · rw [zb_a h, zb_a h1, zu_a h]
  · rw [zb_i (by omega), zb_a h1, zu_i (by omega)]
theorem htS_bx {s : zS} {k j : Int} {q : Bx} (h : j + 4 ≤ 344 + 10 * k ∨ 350 + 10 * k ≤ j) : bxA (htS s k q) 144 j = bxA s 144 j := by
  unfold bxA
  rw [htS_a (by decide) (by omega), htS_a (by decide) (by omega), htS_a (by decide) (by omega), htS_a (by decide) (by omega)]
theorem s_hit {s : zS} {k N : Nat} {q : Bx} (hN : s 144 0 = (N : Int)) (hN2 : N ≤ 239) (hk : k < N) (hq : bxA s 152 0 = q) (n : Nat) : g_m_queries_L6 (n + 1) (k : Int) s = if bMt (bxA s 144 (340 + 10 * (k : Int))) q then g_m_queries_L6 n ((k + 1 : Nat) : Int) (trW (htS s (k : Int) q) (k : Int)) else g_m_queries_L6 n ((k + 1 : Nat) : Int) s := by
  have l := l144
  have l152 : zLI 152 = 4 := rfl
  have l153 : zLI 153 = 4 := rfl
  conv => lhs; unfold g_m_queries_L6
  unfold g_m_queries_L104
  simp only [hN]
  rw [if_neg (by omega), s_region (by omega) (by omega)]
  rw [Option.bind_some]
  try dsimp only
  rw [s_doMeet (by omega) (by omega) (by omega) (by omega) (by omega) (by omega), hq]
  rw [Option.bind_some]
  try dsimp only
  rw [w32_id (x := (k : Int) + 1) (by omega) (by omega), show ((k + 1 : Nat) : Int) = (k : Int) + 1 by omega]
  by_cases c : bMt (bxA s 144 (340 + 10 * (k : Int))) q
  · rw [if_pos c, if_pos c, if_pos (by decide), w32_id (x := 340 + 10 * (k : Int) + 9) (by omega) (by omega), if_pos (by omega), s_less, Option.bind_some]
    try dsimp only
    rw [if_pos (by omega)]
    rw [show 340 + 10 * (k : Int) + 9 = 349 + 10 * (k : Int) by omega, s_commons (by omega) (by omega) (by omega) (by omega) (by omega) (by omega) (by omega) (by omega) (by omega)]
    rw [Option.bind_some]
    try dsimp only
    rw [zu_bxi (by omega), zu_bxa (by decide), hq, w32_id (x := 340 + 10 * (k : Int) + 4) (by omega) (by omega), s_arounds (by omega) (by omega) (by omega) (by omega) (by omega) (by omega)]
    rw [Option.bind_some]
    try dsimp only
    rw [zb_bx rfl, zb_bxa (by decide), zu_bxi (by omega), show 340 + 10 * (k : Int) + 4 = 344 + 10 * (k : Int) by omega, s_weighs (by omega) (by omega)]
    rfl
  · rw [if_neg c, if_neg c, if_neg (by decide)]
theorem rgA_ht {s : zS} {k : Int} {q : Bx} (hk : 0 ≤ k) : rgA (trW (htS s k q) k) k = mHit s q (rgA s k) := by
  have e1 : bxA (htS s k q) 144 (340 + 10 * k) = bxA s 144 (340 + 10 * k) := htS_bx (by omega)
  have e2 : ∀ b, rowsN (htS s k q) b = rowsN s b := fun b => rowsN_fr (fun j h1 h2 => htS_a (by decide) (by omega)) b
  have e3 : ∀ b, costN (htS s k q) b = costN s b := fun b => by
    unfold costN
    rw [e2, htS_a (by decide) (by omega)]
  have e4 : htS s k q 144 (349 + 10 * k) = zmn 9999 (w32 (s 144 (349 + 10 * k) + 1)) := by
    unfold htS
    rw [zb_i (by omega), zb_a (by decide), zu_e rfl]
  have e5 : htS s k q 147 0 = s 147 0 := htS_a (by decide) (Or.inl (by decide))
  have e6 : bxA (htS s k q) 144 (344 + 10 * k) = bAro (bxA s 144 (344 + 10 * k)) (bCom (bxA s 144 (340 + 10 * k)) q) := by
    unfold htS
    exact zb_bx rfl
  have e7 : htS s k q 144 (348 + 10 * k) = s 144 (348 + 10 * k) := by
    unfold htS
    rw [zb_i (by omega), zb_a (by decide), zu_i (by omega)]
  unfold rgA mHit trW
  rw [zu_bxa (by decide), zu_bxa (by decide), zu_a (by decide), zu_a (by decide), zu_e rfl, e1, e2, e3, e4, e5, e6, e7]
theorem rgA_ho {s : zS} {k t : Int} {q : Bx} (hk : 0 ≤ k) (ht : t ≠ k) : rgA (trW (htS s k q) k) t = rgA s t := by
  unfold rgA trW
  rw [zu_bxa (by decide), zu_bxa (by decide), zu_a (by decide), zu_a (by decide), zu_i (by omega), htS_bx (by omega), htS_bx (by omega), htS_a (by decide) (by omega), htS_a (by decide) (by omega), htS_a (by decide) (Or.inl (by decide))]
theorem frH_ht {s : zS} {k : Int} {q : Bx} (hk : 0 ≤ k) : frH s (trW (htS s k q) k) := by
  intro a j h1 h2 h3
  unfold trW
  rw [zu_c (by omega), htS_a h1 (by omega)]
theorem s_hits {σ : zS} {N : Nat} {q : Bx} (hN : σ 144 0 = (N : Int)) (hN2 : N ≤ 239) (hq : bxA σ 152 0 = q) : ∀ (d k n : Nat) (s : zS), k + d = N → d < n → frH σ s → (∀ t : Nat, t < N → rgA s (t : Int) = if t < k ∧ bMt (rgA σ (t : Int)).1 q then mHit σ q (rgA σ (t : Int)) else rgA σ (t : Int)) → ∃ s', g_m_queries_L6 n (k : Int) s = g_m_queries_L112 zK 0 s' ∧ frH σ s' ∧ ∀ t : Nat, t < N → rgA s' (t : Int) = if bMt (rgA σ (t : Int)).1 q then mHit σ q (rgA σ (t : Int)) else rgA σ (t : Int)
  | _, _, 0, _, _, h, _, _ => absurd h (Nat.not_lt_zero _)
  | 0, k, n + 1, s, hk, _, hf, hr => by
    refine ⟨s, ?_, hf, fun t ht => ?_⟩
    · unfold g_m_queries_L6
      simp only [hf 144 0 (by decide) (Or.inr (by decide)) (Or.inl (by decide)), hN]
      rw [if_pos (by omega)]
    · rw [hr t ht]
      by_cases c : bMt (rgA σ (t : Int)).1 q
      · rw [if_pos ⟨by omega, c⟩, if_pos c]
      · rw [if_neg (fun e => c e.2), if_neg c]
  | d + 1, k, n + 1, s, hk, hn, hf, hr => by
    have sN : s 144 0 = (N : Int) := (hf 144 0 (by decide) (Or.inr (by decide)) (Or.inl (by decide))).trans hN
    have sq : bxA s 152 0 = q := (hf.bx (by decide) (by decide) (by decide)).trans hq
    have hkN : k < N := by omega
    have ek : rgA s (k : Int) = rgA σ (k : Int) := by rw [hr k hkN, if_neg (by omega)]
    have ek1 : bxA s 144 (340 + 10 * (k : Int)) = (rgA σ (k : Int)).1 := congrArg (fun r : Rg => r.1) ek
    rw [s_hit sN hN2 hkN sq n, ek1]
    by_cases c : bMt (rgA σ (k : Int)).1 q
    · rw [if_pos c]
      refine s_hits hN hN2 hq d (k + 1) n _ (by omega) (by omega) ?_ ?_
      · intro a j h1 h2 h3
        rw [frH_ht (by omega) a j h1 h2 h3]
        exact hf a j h1 h2 h3
      · intro t ht
        by_cases htk : t = k
        · subst htk
          rw [rgA_ht (by omega), ek, if_pos ⟨by omega, c⟩]
          unfold mHit
          rw [(frH_cost hf _).1, (frH_cost hf _).2, hf 147 0 (by decide) (Or.inl (by decide)) (Or.inr (by decide))]
        · rw [rgA_ho (by omega) (by omega), hr t ht]
          by_cases c2 : t < k ∧ bMt (rgA σ (t : Int)).1 q
          · rw [if_pos c2, if_pos ⟨by omega, c2.2⟩]
          · rw [if_neg c2, if_neg (fun e => c2 ⟨by omega, e.2⟩)]
    · rw [if_neg c]
      refine s_hits hN hN2 hq d (k + 1) n s (by omega) (by omega) hf (fun t ht => ?_)
      rw [hr t ht]
      by_cases htk : t = k
      · subst htk
        rw [if_neg (by omega), if_neg (fun e => c e.2)]
      · by_cases c2 : t < k ∧ bMt (rgA σ (t : Int)).1 q
        · rw [if_pos c2, if_pos ⟨by omega, c2.2⟩]
        · rw [if_neg c2, if_neg (fun e => c2 ⟨by omega, e.2⟩)]
theorem bCom_ok {a b : Bx} (ha : bOk a) (hb : bOk b) (h : bMt a b) : bOk (bCom a b) ∧ bSub (bCom a b) a ∧ bSub (bCom a b) b := by
  have h1 := @zmx_le a.1 b.1
  have h2 := @zmn_le a.2.1 b.2.1
  have h3 := @zmx_le a.2.2.1 b.2.2.1
  have h4 := @zmn_le a.2.2.2 b.2.2.2
  unfold bCom
  dsimp only [bOk, bSub, bMt] at *
  refine ⟨⟨?_, ?_, ?_, ?_, ?_, ?_⟩, ⟨?_, ?_, ?_, ?_⟩, ?_, ?_, ?_, ?_⟩ <;> omega
theorem mHit_ok {σ : zS} {q : Bx} {r : Rg} (hr : rOk r) (hq : bOk q) (h : bMt r.1 q) : rOk (mHit σ q r) := by
  obtain ⟨c1, c2, c3⟩ := bCom_ok hr.1 hq h
  refine ⟨hr.1, ?_⟩
  show (bAro r.2.1 (bCom r.1 q)).1 < 0 ∨ (bOk (bAro r.2.1 (bCom r.1 q)) ∧ bSub (bAro r.2.1 (bCom r.1 q)) r.1)
  rcases hr.2 with k | k
  · rw [bAro_neg (by omega)]
    exact Or.inr ⟨c1, c2⟩
  · obtain ⟨v1, v2, v3⟩ := bAro_ok k.1 c1
    refine Or.inr ⟨v1, ?_⟩
    have t1 := k.2
    have k1 := @zmn_le r.2.1.1 (bCom r.1 q).1
    have k2 := @zmx_le r.2.1.2.1 (bCom r.1 q).2.1
    have k3 := @zmn_le r.2.1.2.2.1 (bCom r.1 q).2.2.1
    have k4 := @zmx_le r.2.1.2.2.2 (bCom r.1 q).2.2.2
    rw [bAro_pos k.1.1]
    dsimp only [bSub] at *
    refine ⟨?_, ?_, ?_, ?_⟩ <;> omega
theorem addsS_a {σ : zS} {k : Int} {b : Bx} {a : Nat} {j : Int} (h : a ≠ 144 ∨ ((j < 340 + 10 * k ∨ 350 + 10 * k ≤ j) ∧ j ≠ 0 ∧ j ≠ 1)) : addsS σ k b a j = σ a j := by
  unfold addsS
  rw [zu_c (by omega), zu_c (by omega), zu_c (by omega), zu_c (by omega)]
  rcases h with h | h
  · rw [zb_a h, zb_a h]
  · rw [zb_i (by omega), zb_i (by omega)]
theorem rgA_adds {σ : zS} {k : Int} {b : Bx} (hk : 0 ≤ k) : rgA (addsS σ k b) k = (b, (-5, -5, -5, -5), σ 144 1, 0, σ 147 (121 + k)) := by
  unfold rgA addsS
  rw [zu_bxi (by omega), zu_bxi (by omega), zu_bxi (by omega), zu_bxi (by omega), zb_bxi (by omega), zb_bx rfl, zu_bxi (by omega), zu_bxi (by omega), zu_bxi (by omega), zu_bxi (by omega), zb_bx rfl, zu_i (by omega), zu_i (by omega), zu_i (by omega), zu_e rfl, zu_i (by omega), zu_i (by omega), zu_e rfl, zu_a (by decide), zu_a (by decide), zu_a (by decide), zu_a (by decide), zb_a (by decide), zb_a (by decide)]
theorem rgA_addo {σ : zS} {k t : Int} {b : Bx} (hk : 0 ≤ k) (ht : 0 ≤ t) (htk : t < k) : rgA (addsS σ k b) t = rgA σ t := by
  unfold rgA bxA
  rw [addsS_a (by omega), addsS_a (by omega), addsS_a (by omega), addsS_a (by omega), addsS_a (by omega), addsS_a (by omega), addsS_a (by omega), addsS_a (by omega), addsS_a (by omega), addsS_a (by omega), addsS_a (Or.inl (by decide))]
theorem rgA_w {s : zS} {k t : Int} : (rgA (trW s k) t).1 = (rgA s t).1 ∧ (rgA (trW s k) t).2.1 = (rgA s t).2.1 := by
  unfold rgA trW
  exact ⟨zu_bxa (by decide), zu_bxa (by decide)⟩
theorem addsS_N {σ : zS} {k : Int} {b : Bx} (h1 : 0 ≤ k) (h2 : k ≤ 1000) : addsS σ k b 144 0 = k + 1 := by
  unfold addsS
  rw [zu_e rfl, w32_id (by omega) (by omega)]
/-- a region more, where nothing has a place of it -/
theorem RI_adds {σ : zS} {N : Nat} {b : Bx} (hR : RI σ N) (hb : bOk b) (h : ∀ k : Nat, k < N → ¬ bMt (rgA σ (k : Int)).1 b) : RI (addsS σ (N : Int) b) (N + 1) := by
  have e : ∀ k : Nat, k < N → rgA (addsS σ (N : Int) b) (k : Int) = rgA σ (k : Int) := fun k hk => rgA_addo (by omega) (by omega) (by omega)
  have eN := rgA_adds (σ := σ) (k := (N : Int)) (b := b) (by omega)
  refine ⟨fun k hk => ?_, fun k1 k2 h1 h2 => ?_⟩
  · by_cases c : k = N
    · subst c
      rw [eN]
      exact ⟨hb, Or.inl (show (-5 : Int) < 0 by decide)⟩
    · rw [e k (by omega)]; exact hR.1 k (by omega)
  · rw [e k1 (by omega)]
    by_cases c : k2 = N
    · subst c
      rw [eN]
      exact h k1 h1
    · rw [e k2 (by omega)]; exact hR.2 k1 k2 h1 (by omega)
/-- what asking and adding leave -/
def frA (σ s : zS) : Prop := ∀ a j, (a ≠ 144 ∨ (4 ≤ j ∧ j < 340)) → (a ≠ 147 ∨ j < 121) → s a j = σ a j
theorem frA.trans {σ s t : zS} (h1 : frA σ s) (h2 : frA s t) : frA σ t := fun a j k1 k2 => (h2 a j k1 k2).trans (h1 a j k1 k2)
def askS (σ : zS) (c : Int) : zS := zu (zu σ 144 2 (w32 (σ 144 2 + 1))) 144 3 (w32 (σ 144 3 + c))
theorem askS_a {σ : zS} {c : Int} {a : Nat} {j : Int} (h : a ≠ 144 ∨ (j ≠ 2 ∧ j ≠ 3)) : askS σ c a j = σ a j := by
  unfold askS
  rw [zu_c (by omega), zu_c (by omega)]
theorem askS_bx {σ : zS} {c : Int} {a : Nat} {j : Int} (h : a ≠ 144 ∨ 4 ≤ j) : bxA (askS σ c) a j = bxA σ a j := by
  unfold bxA
  rw [askS_a (by omega), askS_a (by omega), askS_a (by omega), askS_a (by omega)]
theorem s_asks {a : Nat} {i : Int} {σ : zS} (h0 : a ≠ 144) (h1 : 0 ≤ i) (h2 : i + 3 < zLI a) (h3 : zLI a ≤ 100000) : g_m_asks a i σ = some ((), askS σ (costN σ (bxA σ a i))) := by
  unfold g_m_asks
  have e1 : bxA (zu σ 144 2 (w32 (σ 144 2 + 1))) a i = bxA σ a i := zu_bxa h0
  have e2 : costN (zu σ 144 2 (w32 (σ 144 2 + 1))) (bxA σ a i) = costN σ (bxA σ a i) := by
    unfold costN
    rw [zu_i (by decide), rowsN_fr (fun j k1 k2 => zu_i (by omega)) _]
  show (g_m_cost a i (zu σ 144 2 (w32 (σ 144 2 + 1)))).bind _ = _
  rw [s_cost h1 h2 h3, e1, e2]
  rw [Option.bind_some]
  try dsimp only
  rw [zu_i (by decide)]
  rfl
theorem rgA_ask {σ : zS} {c t : Int} (ht : 0 ≤ t) : rgA (askS σ c) t = rgA σ t := by
  unfold rgA
  rw [askS_bx (by omega), askS_bx (by omega), askS_a (by omega), askS_a (by omega), askS_a (Or.inl (by decide))]
theorem s_piece {σ : zS} {t M N : Nat} {p : Bx} (hM : σ 143 10 = (M : Int)) (htM : t < M) (hM2 : M ≤ 300) (hN : σ 144 0 = (N : Int)) (hN2 : N ≤ 238) (hp : bxA σ 150 (4 * (t : Int)) = p) (n : Nat) : g_m_queries_L112 (n + 1) (t : Int) σ = g_m_queries_L112 n ((t + 1 : Nat) : Int) (if σ 144 17 < bArea p then askS σ (costN σ p) else trW (addsS (askS σ (costN σ p)) (N : Int) p) (N : Int)) := by
  have l150 : zLI 150 = 2400 := rfl
  have l := l144
  conv => lhs; unfold g_m_queries_L112
  unfold g_m_queries_L166
  simp only [hM]
  rw [if_neg (by omega), w32_id (x := 4 * (t : Int)) (by omega) (by omega), s_asks (by decide) (by omega) (by omega) (by omega), hp]
  rw [Option.bind_some]
  try dsimp only
  rw [s_area (by omega) (by omega) (by omega), askS_bx (Or.inl (by decide)), hp]
  rw [Option.bind_some]
  try dsimp only
  have e17 : askS σ (costN σ p) 144 17 = σ 144 17 := askS_a (by omega)
  simp only [e17]
  rw [w32_id (x := (t : Int) + 1) (by omega) (by omega), show ((t + 1 : Nat) : Int) = (t : Int) + 1 by omega]
  by_cases c : σ 144 17 < bArea p
  · rw [if_pos c, if_pos c]
  · rw [if_neg c, if_neg c, s_adds (k := (N : Int)) (by rw [askS_a (by omega)]; exact hN) (by omega) (by omega) (by omega) (by omega) (by omega), askS_bx (Or.inl (by decide)), hp]
    rw [Option.bind_some]
    try dsimp only
    rw [s_weighs (by omega) (by omega)]
    rfl
theorem s_pieces {P : List Bx} {σ0 : zS} (okP : ∀ p ∈ P, bOk p) (hPP : P.Pairwise (fun a b => ¬ bMt a b)) (hlP : P.length ≤ 200) : ∀ (suf pre : List Bx) (n N : Nat) (σ : zS), P = pre ++ suf → suf.length < n → frA σ0 σ → σ 143 10 = (P.length : Int) → lstA σ 150 P.length = P → RI σ N → σ 144 0 = (N : Int) → N ≤ 20 + pre.length → (∀ k : Nat, k < N → ∀ p ∈ suf, ¬ bMt (rgA σ (k : Int)).1 p) → ∃ s N', g_m_queries_L112 n (pre.length : Int) σ = g_m_queries_L188 (if σ 144 15 = 1 then 1 else 0) s ∧ frA σ0 s ∧ RI s N' ∧ s 144 0 = (N' : Int) ∧ N' ≤ 20 + P.length
  | _, _, 0, _, _, _, h, _, _, _, _, _, _, _ => absurd h (Nat.not_lt_zero _)
  | [], pre, n + 1, N, σ, h, _, hf, hM, _, hR, hN, hNp, _ => by
    rw [List.append_nil] at h
    subst h
    refine ⟨σ, N, ?_, hf, hR, hN, hNp⟩
    unfold g_m_queries_L112
    simp only [hM]
    rw [if_pos (by omega)]
    show (if σ 144 15 ≠ 1 then _ else _) = _
    by_cases c : σ 144 15 = 1
    · rw [if_neg (fun e => e c), if_pos c]
    · rw [if_pos c, if_neg c]
  | p :: suf, pre, n + 1, N, σ, h, hn, hf, hM, hP, hR, hN, hNp, hd => by
    have hlen : P.length = pre.length + (suf.length + 1) := by rw [h, List.length_append, List.length_cons]
    have hp : bxA σ 150 (4 * (pre.length : Int)) = p := by
      have e1 := lstA_get (σ := σ) (a := 150) (n := P.length) (k := pre.length) (by omega)
      rw [hP] at e1
      have e2 : P[pre.length]? = some p := by rw [h, List.getElem?_append_right (Nat.le_refl _), Nat.sub_self]; rfl
      rw [e2] at e1
      exact (Option.some.inj e1).symm
    have okp : bOk p := okP p (by rw [h]; exact List.mem_append_right _ List.mem_cons_self)
    have hps : ∀ x ∈ suf, ¬ bMt p x := by
      rw [h] at hPP
      exact (List.pairwise_cons.mp (List.pairwise_append.mp hPP).2.1).1
    rw [s_piece hM (by omega) (by omega) hN (by omega) hp n]
    have h' : P = (pre ++ [p]) ++ suf := by rw [h, List.append_assoc]; rfl
    have hn' : suf.length < n := by rw [List.length_cons] at hn; omega
    have ek : (pre ++ [p]).length = pre.length + 1 := by rw [List.length_append, List.length_singleton]
    by_cases c : σ 144 17 < bArea p
    · rw [if_pos c]
      have := s_pieces okP hPP hlP suf (pre ++ [p]) n N (askS σ (costN σ p)) h' hn' (hf.trans (fun a j k1 k2 => askS_a (by omega))) (by rw [askS_a (Or.inl (by decide))]; exact hM) (by
        rw [← hP, lstA_len]
        unfold lstA
        congr 1) (RI_of hR (fun k hk => by rw [rgA_ask (by omega)]; exact ⟨rfl, rfl⟩)) (by rw [askS_a (by omega)]; exact hN) (by omega) (fun k hk x hx => by rw [rgA_ask (by omega)]; exact hd k hk x (List.mem_cons_of_mem _ hx))
      rw [ek, askS_a (by omega)] at this
      exact this
    · rw [if_neg c]
      have hR1 : RI (askS σ (costN σ p)) N := RI_of hR (fun k hk => by rw [rgA_ask (by omega)]; exact ⟨rfl, rfl⟩)
      have hR2 : RI (addsS (askS σ (costN σ p)) (N : Int) p) (N + 1) := RI_adds hR1 okp (fun k hk => by rw [rgA_ask (by omega)]; exact hd k hk p List.mem_cons_self)
      have wa : ∀ a j, (a ≠ 147 ∨ j ≠ 121 + (N : Int)) → trW (addsS (askS σ (costN σ p)) (N : Int) p) (N : Int) a j = addsS (askS σ (costN σ p)) (N : Int) p a j := fun a j h => zu_c h
      have fin : ∀ a j, (a ≠ 144 ∨ (4 ≤ j ∧ j < 340)) → (a ≠ 147 ∨ j < 121) → trW (addsS (askS σ (costN σ p)) (N : Int) p) (N : Int) a j = σ a j := fun a j k1 k2 => by
        rw [wa a j (by omega), addsS_a (by omega), askS_a (by omega)]
      have := s_pieces okP hPP hlP suf (pre ++ [p]) n (N + 1) (trW (addsS (askS σ (costN σ p)) (N : Int) p) (N : Int)) h' hn' (hf.trans fin) (by rw [fin 143 10 (Or.inl (by decide)) (Or.inl (by decide))]; exact hM) (by
        rw [← hP, lstA_len]
        unfold lstA
        congr 1) (RI_of hR2 (fun k hk => rgA_w)) (by
        rw [wa 144 0 (Or.inl (by decide)), addsS_N (by omega) (by omega)]
        omega) (by omega) (fun k hk x hx => by
        rw [rgA_w.1]
        by_cases ckN : k = N
        · subst ckN
          rw [rgA_adds (by omega)]
          exact hps x hx
        · rw [rgA_addo (by omega) (by omega) (by omega), rgA_ask (by omega)]
          exact hd k (by omega) x (List.mem_cons_of_mem _ hx))
      rw [ek, fin 144 15 (by omega) (Or.inl (by decide))] at this
      exact this
theorem s_merges : ∀ (d n : Nat) (σ : zS) (N : Nat), N ≤ d → d + 1 < n → RI σ N → σ 144 0 = (N : Int) → N ≤ 239 → ∃ s N', g_m_queries_L189 n 1 σ = (g_m_trims s).bind (fun o => some ((), o.2)) ∧ N' ≤ N ∧ RI s N' ∧ s 144 0 = (N' : Int) ∧ frR σ s
  | d, 0, _, _, _, h, _, _, _ => absurd h (Nat.not_lt_zero _)
  | d, n + 1, σ, N, hd, hn, hR, hN, hN2 => by
    have stop : ∀ (m : Nat) (t : zS), 0 < m → g_m_queries_L189 m 0 t = (g_m_trims t).bind (fun o => some ((), o.2)) := by
      intro m t hm
      obtain ⟨m', rfl⟩ : ∃ m', m = m' + 1 := ⟨m - 1, by omega⟩
      unfold g_m_queries_L189
      rw [if_pos rfl]
    have step : g_m_queries_L189 (n + 1) 1 σ = (g_m_isMerged σ).bind (fun o => g_m_queries_L189 n o.1 o.2) := by
      conv => lhs; unfold g_m_queries_L189
      rw [if_neg (by decide)]
    rw [step]
    rcases s_isMerged hR hN hN2 with ⟨i, j, k1, k2, k3, -, k5⟩ | ⟨-, k2⟩
    · rw [k5]
      rw [Option.bind_some]
      try dsimp only
      obtain ⟨f1, f2⟩ := jnS_fr (σ := σ) k1 k2 hN2
      cases d with
      | zero => omega
      | succ d =>
        obtain ⟨s, N', m1, m2, m3, m4, m5⟩ := s_merges d n _ (N - 1) (by omega) (by omega) (RI_join hR k1 k2 hN2 k3) f2 (by omega)
        exact ⟨s, N', m1, by omega, m3, m4, f1.trans m5⟩
    · rw [k2]
      rw [Option.bind_some]
      try dsimp only
      exact ⟨σ, N, stop n σ (by omega), Nat.le_refl _, hR, hN, frR.refl σ⟩
/-- all that a query leaves as it was -/
def frQ (σ s : zS) : Prop := ∀ a j, (a ≠ 144 ∨ (8 ≤ j ∧ j < 340)) → (a ≠ 147 ∨ (1 ≤ j ∧ j < 121)) → a ≠ 150 → a ≠ 151 → a ≠ 153 → (a ≠ 143 ∨ j ≠ 10) → s a j = σ a j
theorem RI_rbx {σ : zS} {N : Nat} (h : RI σ N) : (∀ r ∈ rbx σ N, bOk r) ∧ (rbx σ N).Pairwise (fun a b => ¬ bMt a b) := by
  have g : ∀ (k : Nat) (hk : k < (rbx σ N).length), (rbx σ N)[k] = (rgA σ (k : Int)).1 := by
    intro k hk
    have e := rbx_get (σ := σ) (n := N) (k := k) (by rw [rbx_len] at hk; exact hk)
    rw [List.getElem?_eq_getElem hk] at e
    exact Option.some.inj e
  constructor
  · intro r hr
    obtain ⟨k, hk, rfl⟩ := List.getElem_of_mem hr
    rw [g k hk]
    exact (h.1 k (by rw [rbx_len] at hk; exact hk)).1
  · rw [List.pairwise_iff_getElem]
    intro i j hi hj hij
    rw [g i hi, g j hj]
    exact h.2 i j hij (by rw [rbx_len] at hj; exact hj)
theorem s_queries {σ : zS} {N : Nat} {q : Bx} (hR : RI σ N) (hN : σ 144 0 = (N : Int)) (hN2 : N ≤ 12) (hq : bOk q) (hb : bxA σ 152 0 = q) (h13 : 1 ≤ σ 144 13) (h13b : σ 144 13 ≤ 12) (h12 : 1 ≤ σ 144 12) : ∃ s N', g_m_queries σ = some ((), s) ∧ RI s N' ∧ s 144 0 = (N' : Int) ∧ N' ≤ 12 ∧ frQ σ s := by
  obtain ⟨r1, r2⟩ := RI_rbx hR
  obtain ⟨s1, m1, m2, m3, m4⟩ := s_misses (σ := σ) (q := q) (rs := rbx σ N) hq hb r1 r2 (by rw [rbx_len]; exact hN2) (by rw [rbx_len]; exact hN) (by rw [rbx_len])
  have hinv := (bMissAll_inv hq (rbx σ N) r1 r2).1
  have h169 := bMissAll_169 hq r1 r2 (by rw [rbx_len]; exact hN2)
  generalize hP : bMissAll q (rbx σ N) = P at m3 m4 hinv h169
  have a1 : ∀ a j, a ≠ 150 → a ≠ 151 → (a ≠ 143 ∨ j ≠ 10) → s1 a j = σ a j := m2
  have e144 : ∀ j, s1 144 j = σ 144 j := fun j => a1 144 j (by decide) (by decide) (Or.inl (by decide))
  have e147 : ∀ j, s1 147 j = σ 147 j := fun j => a1 147 j (by decide) (by decide) (Or.inl (by decide))
  have hrg : ∀ k : Int, rgA s1 k = rgA σ k := fun k => by
    unfold rgA bxA
    rw [e144, e144, e144, e144, e144, e144, e144, e144, e144, e144, e147]
  have hN1 : s1 144 0 = (N : Int) := (e144 0).trans hN
  have hb1 : bxA s1 152 0 = q := (frM_bx m2 (by decide) (by decide) (by decide)).trans hb
  obtain ⟨s2, n1, n2, n3⟩ := s_hits hN1 (by omega) hb1 N 0 zK s1 (by omega) (by show _ < 1000000; omega) (fun _ _ _ _ _ => rfl) (fun t ht => by rw [if_neg (by omega)])
  have hR2 : RI s2 N := by
    refine ⟨fun k hk => ?_, fun k1 k2 h1 h2 => ?_⟩
    · rw [n3 k hk, hrg]
      by_cases c : bMt (rgA σ (k : Int)).1 q
      · rw [if_pos c]; exact mHit_ok (hR.1 k hk) hq c
      · rw [if_neg c]; exact hR.1 k hk
    · have eb : ∀ k : Nat, k < N → (rgA s2 (k : Int)).1 = (rgA σ (k : Int)).1 := by
        intro k hk
        rw [n3 k hk, hrg]
        split <;> rfl
      rw [eb k1 (by omega), eb k2 h2]
      exact hR.2 k1 k2 h1 h2
  have hl2 : lstA s2 150 P.length = P := by
    rw [← m4, lstA_len]
    unfold lstA
    congr 1
    funext k
    exact n2.bx (by decide) (by decide) (by decide)
  have hbx2 : ∀ k : Nat, k < N → (rgA s2 (k : Int)).1 = (rgA σ (k : Int)).1 := by
    intro k hk
    rw [n3 k hk, hrg]
    split <;> rfl
  obtain ⟨s3, N3, p1, p2, p3, p4, p5⟩ := s_pieces (P := P) (σ0 := s2) (fun p hp => (hinv.1 p hp).1) (List.Pairwise.imp_of_mem (fun {a b} ha hb' hab => bSep_not (hinv.1 a ha).1 (hinv.1 b hb').1 hab) hinv.2) (by omega) P [] zK N s2 rfl (by show _ < 1000000; omega) (fun _ _ _ _ => rfl) ((n2 143 10 (by decide) (Or.inl (by decide)) (Or.inl (by decide))).trans m3) hl2 hR2 ((n2 144 0 (by decide) (Or.inr (by decide)) (Or.inl (by decide))).trans hN1) (by omega) (fun k hk p hp hm => by
    rw [hbx2 k hk] at hm
    have hmem : (rgA σ (k : Int)).1 ∈ rbx σ N := List.mem_of_getElem? (rbx_get (σ := σ) hk)
    exact (hinv.1 p hp).2.2.2 _ hmem (bMt_comm hm))
  have f3 : frQ σ s3 := by
    intro a j k1 k2 k3 k4 k5 k6
    rw [p2 a j (by omega) (by omega), n2 a j k5 (by omega) (by omega), a1 a j k3 k4 k6]
  have e1 : g_m_queries σ = g_m_queries_L188 (if s2 144 15 = 1 then 1 else 0) s3 := by
    unfold g_m_queries
    rw [m1]
    rw [Option.bind_some]
    try dsimp only
    exact n1.trans p1
  have s3k : ∀ j : Int, 8 ≤ j → j < 340 → s3 144 j = σ 144 j := fun j h1 h2 => f3 144 j (Or.inr ⟨h1, h2⟩) (Or.inl (by decide)) (by decide) (by decide) (by decide) (Or.inl (by decide))
  have fin : ∀ (s4 : zS) (N4 : Nat), RI s4 N4 → s4 144 0 = (N4 : Int) → N4 ≤ 239 → frR s3 s4 → ∃ s N', (g_m_trims s4).bind (fun o => some ((), o.2)) = some ((), s) ∧ RI s N' ∧ s 144 0 = (N' : Int) ∧ N' ≤ 12 ∧ frQ σ s := by
    intro s4 N4 h1 h2 h3 h4
    have k13 : s4 144 13 = σ 144 13 := (h4 144 13 (by omega) (Or.inl (by decide))).trans (s3k 13 (by decide) (by decide))
    have k12 : s4 144 12 = σ 144 12 := (h4 144 12 (by omega) (Or.inl (by decide))).trans (s3k 12 (by decide) (by decide))
    obtain ⟨s5, N5, t1, t2, t3, t4, t5, t6⟩ := s_trims h1 h2 h3 (by omega) (by omega)
    refine ⟨s5, N5, by rw [t1]; rfl, t3, t4, by omega, fun a j c1 c2 c3 c4 c5 c6 => ?_⟩
    rw [t5 a j c1 c2, h4 a j c1 c2]
    exact f3 a j c1 c2 c3 c4 c5 c6
  rw [e1]
  unfold g_m_queries_L188
  by_cases c : s2 144 15 = 1
  · rw [if_pos c]
    obtain ⟨s4, N4, q1, q2, q3, q4, q5⟩ := s_merges N3 zK s3 N3 (Nat.le_refl _) (by show _ < 1000000; omega) p3 p4 (by omega)
    rw [q1]
    exact fin s4 N4 q3 q4 (by omega) q5
  · rw [if_neg c]
    have stop : g_m_queries_L189 zK 0 s3 = (g_m_trims s3).bind (fun o => some ((), o.2)) := by
      show g_m_queries_L189 (999999 + 1) 0 s3 = _
      unfold g_m_queries_L189
      rw [if_pos rfl]
    rw [stop]
    exact fin s3 N3 p3 p4 (by omega) (frR.refl s3)
end
section
/-! 39.ref9 -/
/-! THE REFERENCE over the typed memory: measures -/
theorem l154 : zLI 154 = 60 := rfl
theorem l155 : zLI 155 = 60 := rfl
def leC (σ : zS) : Nat → Int
  | 0 => σ 155 0
  | n + 1 => if σ 155 ((n + 1 : Nat) : Int) < leC σ n then σ 155 ((n + 1 : Nat) : Int) else leC σ n
def moC (σ : zS) : Nat → Int
  | 0 => σ 155 0
  | n + 1 => if moC σ n < σ 155 ((n + 1 : Nat) : Int) then σ 155 ((n + 1 : Nat) : Int) else moC σ n
theorem lCmp_ge0 {x y : Int} : 0 ≤ lCmp x y ↔ ¬ x < y := by
  constructor
  · intro h c
    have := lCmp_lt.mpr c
    omega
  · intro h
    have : ¬ lCmp x y < 0 := fun e => h (lCmp_lt.mp e)
    omega
theorem s_least9 {σ : zS} {M : Nat} (hM : σ 143 14 = (M : Int)) (hM2 : M ≤ 60) : ∀ (d k n : Nat), k + 1 + d = M → d < n → g_m_leastOf_L9 n (leC σ k) ((k + 1 : Nat) : Int) σ = some (leC σ (M - 1), σ)
  | _, _, 0, _, h => absurd h (Nat.not_lt_zero _)
  | 0, k, n + 1, hk, _ => by
    unfold g_m_leastOf_L9
    simp only [hM]
    rw [if_pos (by omega), show M - 1 = k by omega]
  | d + 1, k, n + 1, hk, hn => by
    have ih := s_least9 hM hM2 d (k + 1) n (by omega) (by omega)
    unfold g_m_leastOf_L9 g_m_leastOf_L38
    simp only [hM]
    rw [if_neg (by omega), if_pos (by omega), w32_id (x := ((k + 1 : Nat) : Int) + 1) (by omega) (by omega)]
    have ex : leC σ (k + 1) = if σ 155 ((k + 1 : Nat) : Int) < leC σ k then σ 155 ((k + 1 : Nat) : Int) else leC σ k := rfl
    rw [ex] at ih
    rw [show ((k + 1 : Nat) : Int) + 1 = ((k + 1 + 1 : Nat) : Int) by omega]
    by_cases c : σ 155 ((k + 1 : Nat) : Int) < leC σ k
    · rw [if_pos c] at ih
      rw [if_neg (fun e => lCmp_ge0.mp e c), if_pos (by omega)]
      exact ih
    · rw [if_neg c] at ih
      rw [if_pos (lCmp_ge0.mpr c)]
      exact ih
theorem s_leastOf {σ : zS} {M : Nat} (hM : σ 143 14 = (M : Int)) (hM2 : M ≤ 60) : g_m_leastOf σ = some (leC σ (M - 1), σ) := by
  unfold g_m_leastOf
  cases M with
  | zero =>
    show g_m_leastOf_L9 (999999 + 1) (σ 155 0) 1 σ = _
    unfold g_m_leastOf_L9
    simp only [hM]
    rw [if_pos (by omega)]
    rfl
  | succ m => exact s_least9 hM hM2 m 0 zK (by omega) (by show _ < 1000000; omega)
theorem s_most9 {σ : zS} {M : Nat} (hM : σ 143 14 = (M : Int)) (hM2 : M ≤ 60) : ∀ (d k n : Nat), k + 1 + d = M → d < n → g_m_mostOf_L9 n (moC σ k) ((k + 1 : Nat) : Int) σ = some (moC σ (M - 1), σ)
  | _, _, 0, _, h => absurd h (Nat.not_lt_zero _)
  | 0, k, n + 1, hk, _ => by
    unfold g_m_mostOf_L9
    simp only [hM]
    rw [if_pos (by omega), show M - 1 = k by omega]
  | d + 1, k, n + 1, hk, hn => by
    have ih := s_most9 hM hM2 d (k + 1) n (by omega) (by omega)
    unfold g_m_mostOf_L9 g_m_mostOf_L38
    simp only [hM]
    rw [if_neg (by omega), if_pos (by omega), w32_id (x := ((k + 1 : Nat) : Int) + 1) (by omega) (by omega)]
    have ex : moC σ (k + 1) = if moC σ k < σ 155 ((k + 1 : Nat) : Int) then σ 155 ((k + 1 : Nat) : Int) else moC σ k := rfl
    rw [ex] at ih
    rw [show ((k + 1 : Nat) : Int) + 1 = ((k + 1 + 1 : Nat) : Int) by omega]
    by_cases c : moC σ k < σ 155 ((k + 1 : Nat) : Int)
    · rw [if_pos c] at ih
      rw [if_neg (fun e => lCmp_gt.mp e c), if_pos (by omega)]
      exact ih
    · rw [if_neg c] at ih
      rw [if_pos (lCmp_gt.mpr c)]
      exact ih
theorem s_mostOf {σ : zS} {M : Nat} (hM : σ 143 14 = (M : Int)) (hM2 : M ≤ 60) : g_m_mostOf σ = some (moC σ (M - 1), σ) := by
  unfold g_m_mostOf
  cases M with
  | zero =>
    show g_m_mostOf_L9 (999999 + 1) (σ 155 0) 1 σ = _
    unfold g_m_mostOf_L9
    simp only [hM]
    rw [if_pos (by omega)]
    rfl
  | succ m => exact s_most9 hM hM2 m 0 zK (by omega) (by show _ < 1000000; omega)
/-- the sum of the first, and whether one so far was over -/
def suC (σ : zS) : Nat → Int
  | 0 => 0
  | n + 1 => w64 (suC σ n + σ 155 (n : Int))
def ovC (σ : zS) : Nat → Int
  | 0 => 0
  | n + 1 => iOr (ovC σ n) (if lXor (suC σ n) (suC σ (n + 1)) < 0 ∧ lXor (σ 155 (n : Int)) (suC σ (n + 1)) < 0 then 1 else 0)
theorem iOr_01 {x y : Int} (hx : x = 0 ∨ x = 1) (hy : y = 0 ∨ y = 1) : iOr x y = 0 ∨ iOr x y = 1 := by
  rcases hx with rfl | rfl <;> rcases hy with rfl | rfl <;> decide
theorem iAnd_01 {x y : Int} (hx : x = 0 ∨ x = 1) (hy : y = 0 ∨ y = 1) : iAnd x y = 0 ∨ iAnd x y = 1 := by
  rcases hx with rfl | rfl <;> rcases hy with rfl | rfl <;> decide
theorem ovC_01 (σ : zS) : ∀ n : Nat, ovC σ n = 0 ∨ ovC σ n = 1
  | 0 => Or.inl rfl
  | n + 1 => iOr_01 (ovC_01 σ n) (by split <;> simp)
theorem s_sum9 {σ : zS} {M : Nat} (hM : σ 143 14 = (M : Int)) (hM2 : M ≤ 60) : ∀ (d k n : Nat), k + d = M → d < n → g_m_sumOf_L9 n (suC σ k) (k : Int) (zu σ 143 15 (ovC σ k)) = some (suC σ M, zu σ 143 15 (ovC σ M))
  | _, _, 0, _, h => absurd h (Nat.not_lt_zero _)
  | 0, k, n + 1, hk, _ => by
    have : k = M := by omega
    subst this
    unfold g_m_sumOf_L9
    show (if zu σ 143 15 (ovC σ k) 143 14 ≤ (k : Int) then _ else _) = _
    rw [zu_i (by decide), hM, if_pos (Int.le_refl _)]
  | d + 1, k, n + 1, hk, hn => by
    have ih := s_sum9 hM hM2 d (k + 1) n (by omega) (by omega)
    have fin : ∀ (o : Int), (o = if lXor (suC σ k) (suC σ (k + 1)) < 0 ∧ lXor (σ 155 (k : Int)) (suC σ (k + 1)) < 0 then 1 else 0) → g_m_sumOf_L60 (g_m_sumOf_L9 n) (k : Int) (suC σ (k + 1)) o (ovC σ k) (zu σ 143 15 (ovC σ k)) = some (suC σ M, zu σ 143 15 (ovC σ M)) := by
      intro o ho
      have e1 : ovC σ (k + 1) = iOr (ovC σ k) o := by rw [ho]; rfl
      unfold g_m_sumOf_L60
      rw [if_pos (by rw [← e1]; exact ovC_01 σ (k + 1)), w32_id (x := (k : Int) + 1) (by omega) (by omega)]
      rw [← ih, ← e1]
      show g_m_sumOf_L9 n (suC σ (k + 1)) ((k : Int) + 1) (zu (zu σ 143 15 (ovC σ k)) 143 15 (ovC σ (k + 1))) = _
      rw [show ((k + 1 : Nat) : Int) = (k : Int) + 1 by omega]
      congr 1
      funext a j
      unfold zu
      by_cases h : a = 143 ∧ j = 15
      · rw [if_pos h, if_pos h]
      · rw [if_neg h, if_neg h, if_neg h]
    unfold g_m_sumOf_L9 g_m_sumOf_L59
    show (if zu σ 143 15 (ovC σ k) 143 14 ≤ (k : Int) then _ else _) = _
    rw [zu_i (by decide), hM, if_neg (by omega), if_pos (by omega)]
    simp only [zu_a (show (155 : Nat) ≠ 143 by decide), zu_e (show (15 : Int) = 15 from rfl)]
    show (if 0 ≤ lCmp (lXor (suC σ k) (suC σ (k + 1))) 0 then g_m_sumOf_L60 (g_m_sumOf_L9 n) (k : Int) (suC σ (k + 1)) 0 (ovC σ k) _ else (if 0 ≤ (k : Int) ∧ (k : Int) < 60 then (if 0 ≤ lCmp (lXor (σ 155 (k : Int)) (suC σ (k + 1))) 0 then g_m_sumOf_L60 (g_m_sumOf_L9 n) (k : Int) (suC σ (k + 1)) 0 (ovC σ k) _ else g_m_sumOf_L60 (g_m_sumOf_L9 n) (k : Int) (suC σ (k + 1)) 1 (ovC σ k) _) else none)) = _
    by_cases c1 : lXor (suC σ k) (suC σ (k + 1)) < 0
    · rw [if_neg (fun e => lCmp_ge0.mp e c1), if_pos (show 0 ≤ (k : Int) ∧ (k : Int) < 60 by omega)]
      by_cases c2 : lXor (σ 155 (k : Int)) (suC σ (k + 1)) < 0
      · rw [if_neg (fun e => lCmp_ge0.mp e c2)]
        exact fin 1 (by rw [if_pos ⟨c1, c2⟩])
      · rw [if_pos (lCmp_ge0.mpr c2)]
        exact fin 0 (by rw [if_neg (fun e => c2 e.2)])
    · rw [if_pos (lCmp_ge0.mpr c1)]
      exact fin 0 (by rw [if_neg (fun e => c1 e.1)])
theorem s_sumOf {σ : zS} {M : Nat} (hM : σ 143 14 = (M : Int)) (hM2 : M ≤ 60) : g_m_sumOf σ = some (suC σ M, zu σ 143 15 (ovC σ M)) := by
  unfold g_m_sumOf
  exact s_sum9 hM hM2 M 0 zK (by omega) (by show _ < 1000000; omega)
def kiI (σ : zS) (x : Int) : Nat → Int
  | 0 => 1
  | n + 1 => iAnd (kiI σ x n) (if σ 155 (n : Int) = x then 0 else 1)
theorem kiI_01 (σ : zS) (x : Int) : ∀ n : Nat, kiI σ x n = 0 ∨ kiI σ x n = 1
  | 0 => Or.inr rfl
  | n + 1 => iAnd_01 (kiI_01 σ x n) (by split <;> simp)
def kiC (σ : zS) : Nat → Int
  | 0 => 0
  | n + 1 => kiC σ n + kiI σ (σ 155 (n : Int)) n
theorem kiC_bd (σ : zS) : ∀ n : Nat, 0 ≤ kiC σ n ∧ kiC σ n ≤ n
  | 0 => ⟨Int.le_refl _, Int.le_refl _⟩
  | n + 1 => by
    have ih := kiC_bd σ n
    have := kiI_01 σ (σ 155 (n : Int)) n
    show 0 ≤ kiC σ n + _ ∧ kiC σ n + _ ≤ ((n + 1 : Nat) : Int)
    omega
theorem s_kinds17 {g : Int → Int → zS → Option (Int × zS)} {σ : zS} {x : Int} {k : Nat} (hk : k < 60) (hx : x + 1 < 2147483648) (hx0 : 0 ≤ x) : ∀ (d e n : Nat), e + d = k → d < n → g_m_kindsOf_L17 g n x (k : Int) (kiI σ (σ 155 (k : Int)) e) (e : Int) σ = g (x + kiI σ (σ 155 (k : Int)) k) ((k + 1 : Nat) : Int) σ
  | _, _, 0, _, h => absurd h (Nat.not_lt_zero _)
  | 0, e, n + 1, he, _ => by
    have : e = k := by omega
    subst this
    have h01 := kiI_01 σ (σ 155 (e : Int)) e
    unfold g_m_kindsOf_L17 g_m_kindsOf_L64
    rw [if_pos (Int.le_refl _), w32_id (x := (e : Int) + 1) (by omega) (by omega), w32_id (x := x + 0) (by omega) (by omega), w32_id (x := x + 1) (by omega) (by omega), show ((e + 1 : Nat) : Int) = (e : Int) + 1 by omega]
    rcases h01 with h | h
    · rw [if_pos h, h]
    · rw [if_neg (by omega), h]
  | d + 1, e, n + 1, he, hn => by
    have ih := s_kinds17 (g := g) (σ := σ) hk hx hx0 d (e + 1) n (by omega) (by omega)
    have ex : kiI σ (σ 155 (k : Int)) (e + 1) = iAnd (kiI σ (σ 155 (k : Int)) e) (if σ 155 (e : Int) = σ 155 (k : Int) then 0 else 1) := rfl
    rw [ex, show ((e + 1 : Nat) : Int) = (e : Int) + 1 by omega] at ih
    unfold g_m_kindsOf_L17 g_m_kindsOf_L46
    rw [if_neg (by omega), if_pos (by omega), if_pos (by omega), w32_id (x := (e : Int) + 1) (by omega) (by omega)]
    show (if lCmp (σ 155 (e : Int)) (σ 155 (k : Int)) = 0 then _ else _) = _
    by_cases c : σ 155 (e : Int) = σ 155 (k : Int)
    · rw [if_pos (lCmp_eq.mpr c)]
      rw [if_pos c] at ih
      exact ih
    · rw [if_neg (fun h => c (lCmp_eq.mp h))]
      rw [if_neg c] at ih
      exact ih
theorem s_kinds4 {σ : zS} {M : Nat} (hM : σ 143 14 = (M : Int)) (hM2 : M ≤ 60) : ∀ (d k n : Nat), k + d = M → d < n → g_m_kindsOf_L4 n (kiC σ k) (k : Int) σ = some (kiC σ M, σ)
  | _, _, 0, _, h => absurd h (Nat.not_lt_zero _)
  | 0, k, n + 1, hk, _ => by
    have : k = M := by omega
    subst this
    unfold g_m_kindsOf_L4
    simp only [hM]
    rw [if_pos (Int.le_refl _)]
  | d + 1, k, n + 1, hk, hn => by
    have b := kiC_bd σ k
    have ih := s_kinds4 hM hM2 d (k + 1) n (by omega) (by omega)
    have e := s_kinds17 (g := g_m_kindsOf_L4 n) (σ := σ) (x := kiC σ k) (k := k) (by omega) (by omega) b.1 k 0 zK (by omega) (by show _ < 1000000; omega)
    conv => lhs; unfold g_m_kindsOf_L4
    simp only [hM]
    rw [if_neg (by omega)]
    exact e.trans ih
theorem s_kindsOf {σ : zS} {M : Nat} (hM : σ 143 14 = (M : Int)) (hM2 : M ≤ 60) : g_m_kindsOf σ = some (kiC σ M, σ) := s_kinds4 hM hM2 M 0 zK (by omega) (by show _ < 1000000; omega)
/-- the measure of what was gathered -/
theorem s_measured {σ : zS} {M : Nat} (x : Int) (hM : σ 143 14 = (M : Int)) (hM2 : M ≤ 60) : ∃ v o, g_m_measured x σ = some (v, zu σ 143 15 o) := by
  have h0 : zu σ 143 15 0 143 14 = (M : Int) := by rw [zu_i (by decide)]; exact hM
  have zz : ∀ a b, zu (zu σ 143 15 a) 143 15 b = zu σ 143 15 b := by
    intro a b
    funext c j
    unfold zu
    by_cases h : c = 143 ∧ j = 15
    · rw [if_pos h, if_pos h]
    · rw [if_neg h, if_neg h, if_neg h]
  have f102 : ∀ y o, ∃ v o', g_m_measured_L102 y (zu σ 143 15 o) = some (v, zu σ 143 15 o') := by
    intro y o
    unfold g_m_measured_L102
    show ∃ v o', (if zu σ 143 15 o 143 15 = 0 then _ else _) = _
    by_cases c : zu σ 143 15 o 143 15 = 0
    · rw [if_pos c]; exact ⟨_, _, rfl⟩
    · rw [if_neg c]; exact ⟨_, _, rfl⟩
  have f25 : (M = 0 → ¬ (2 ≤ x ∧ x ≤ 5)) → ∃ v o, g_m_measured_L25 x (zu σ 143 15 0) = some (v, zu σ 143 15 o) := by
    intro hg
    unfold g_m_measured_L25
    by_cases c0 : x = 0
    · rw [if_neg (fun e => e c0)]; exact f102 _ _
    · rw [if_pos c0]
      by_cases c1 : x = 1
      · rw [if_neg (fun e => e c1), s_sumOf h0 hM2, Option.bind_some, zz]; exact f102 _ _
      · rw [if_pos c1]
        by_cases c2 : x = 2
        · rw [if_neg (fun e => e c2), s_leastOf h0 hM2, Option.bind_some]; exact f102 _ _
        · rw [if_pos c2]
          by_cases c3 : x = 3
          · rw [if_neg (fun e => e c3), s_mostOf h0 hM2, Option.bind_some]; exact f102 _ _
          · rw [if_pos c3]
            by_cases c4 : x = 4
            · rw [if_neg (fun e => e c4)]
              unfold g_m_meanOf
              rw [s_sumOf h0 hM2, Option.bind_some, zz]
              have hM0 : ¬ zu σ 143 15 (ovC (zu σ 143 15 0) M) 143 14 = 0 := by
                rw [zu_i (by decide), hM]
                intro e
                exact hg (by omega) (by omega)
              show ∃ v o, (Option.bind (if zu σ 143 15 (ovC (zu σ 143 15 0) M) 143 14 = 0 then none else if zu σ 143 15 (ovC (zu σ 143 15 0) M) 143 14 = 0 then none else _) _) = _
              rw [if_neg hM0, if_neg hM0]
              split
              · exact f102 _ _
              · exact f102 _ _
            · rw [if_pos c4]
              by_cases c5 : x = 5
              · rw [if_neg (fun e => e c5)]
                unfold g_m_spanOf g_m_spanOf_L28
                rw [s_mostOf h0 hM2]
                rw [Option.bind_some]
                try dsimp only
                rw [s_leastOf h0 hM2]
                rw [Option.bind_some]
                try dsimp only
                rw [if_pos (Or.inl rfl), if_pos (Or.inr rfl)]
                split
                · simp only [Option.bind_some, zz]; exact f102 _ _
                · simp only [Option.bind_some, zz]; exact f102 _ _
              · rw [if_pos c5, s_kindsOf h0 hM2, Option.bind_some]; exact f102 _ _
  unfold g_m_measured
  show ∃ v o, (if zu σ 143 15 0 143 14 ≠ 0 then _ else _) = _
  by_cases c : M = 0
  · rw [if_neg (by rw [h0]; omega)]
    by_cases c2 : 2 ≤ x ∧ x ≤ 5
    · rw [s_isIn_t c2.1 c2.2]
      exact ⟨_, _, rfl⟩
    · rw [s_isIn_f (by omega)]
      exact f25 (fun _ => c2)
  · rw [if_pos (by rw [h0]; omega)]
    exact f25 (fun e => absurd e c)
end
section
/-! 40.refa -/
/-! THE REFERENCE over the typed memory: the rows of a box in their order; a query with its answer -/
/-- all but what gathering and measuring write -/
def frG (σ s : zS) : Prop := ∀ a j, (a ≠ 143 ∨ (j ≠ 14 ∧ j ≠ 15 ∧ j ≠ 21 ∧ j ≠ 22 ∧ j ≠ 23)) → a ≠ 154 → a ≠ 155 → s a j = σ a j
theorem frG.refl (σ : zS) : frG σ σ := fun _ _ _ _ _ => rfl
theorem frG.trans {σ s t : zS} (h1 : frG σ s) (h2 : frG s t) : frG σ t := fun a j k1 k2 k3 => (h2 a j k1 k2 k3).trans (h1 a j k1 k2 k3)
theorem frG.bx {σ s : zS} (h : frG σ s) {a : Nat} {i : Int} (h1 : a ≠ 143) (h2 : a ≠ 154) (h3 : a ≠ 155) : bxA s a i = bxA σ a i := by
  unfold bxA
  rw [h a _ (Or.inl h1) h2 h3, h a _ (Or.inl h1) h2 h3, h a _ (Or.inl h1) h2 h3, h a _ (Or.inl h1) h2 h3]
def vRow (v : Int) : Prop := 0 ≤ v ∧ v < 60
theorem s_orderOf {v : Int} {σ : zS} (h1 : 0 ≤ v) (h2 : v < 60) : g_m_orderOf v σ = some (w32 ((w32 (32 * σ 144 (21 + 3 * v))) + σ 144 (22 + 3 * v)), σ) := by
  unfold g_m_orderOf
  rw [s_rowAt (by omega) (by omega)]
  rw [Option.bind_some]
  try dsimp only
  rw [w32_id (x := 20 + 3 * v + 1) (by omega) (by omega), if_pos (by omega), s_rowAt (by omega) (by omega)]
  rw [Option.bind_some]
  try dsimp only
  rw [w32_id (x := 20 + 3 * v + 2) (by omega) (by omega), if_pos (by omega), show 20 + 3 * v + 1 = 21 + 3 * v by omega, show 20 + 3 * v + 2 = 22 + 3 * v by omega]
theorem s_g139 {a : Nat} {g : Int → Int → Int → zS → Option (Unit × zS)} {i t r : Int} {k m : Nat} {s : zS} (hr : vRow r) (hm : s 143 14 = (m : Int)) (hm2 : m < 60) (hk : k ≤ m) (hv : ∀ j : Nat, j ≤ m → j ≠ k → vRow (s 154 (j : Int))) : ∃ s', g_m_gathers_L139 a g i t r (k : Int) s = g i t (r + 1) s' ∧ s' 143 14 = ((m + 1 : Nat) : Int) ∧ (∀ j : Nat, j < m + 1 → vRow (s' 154 (j : Int))) ∧ frG s s' := by
  have hr' := hr
  unfold vRow at hr'
  refine ⟨zu (zu s 154 (k : Int) r) 143 14 ((m : Int) + 1), ?_, ?_, fun j hj => ?_, fun b j h1 h2 h3 => ?_⟩
  · unfold g_m_gathers_L139 g_m_gathers_L158
    rw [if_pos (by omega)]
    simp only [zu_a (show (143 : Nat) ≠ 154 by decide), hm]
    rw [w32_id (x := (m : Int) + 1) (by omega) (by omega), w32_id (x := r + 1) (by omega) (by omega)]
  · rw [zu_e rfl]; omega
  · rw [zu_a (by decide)]
    by_cases c : j = k
    · subst c
      rw [zu_e rfl]; exact hr
    · rw [zu_i (by omega)]; exact hv j (by omega) c
  · rw [zu_c (by omega), zu_a h2]
theorem s_g90 {a : Nat} {g : Int → Int → Int → zS → Option (Unit × zS)} {i t r : Int} {m : Nat} (hr : vRow r) (hm2 : m < 60) : ∀ (k n : Nat) (s : zS), k < n → k ≤ m → s 143 14 = (m : Int) → (∀ j : Nat, j ≤ m → j ≠ k → vRow (s 154 (j : Int))) → ∃ s', g_m_gathers_L90 a g n i t r (k : Int) s = g i t (r + 1) s' ∧ s' 143 14 = ((m + 1 : Nat) : Int) ∧ (∀ j : Nat, j < m + 1 → vRow (s' 154 (j : Int))) ∧ frG s s'
  | _, 0, _, h, _, _, _ => absurd h (Nat.not_lt_zero _)
  | 0, n + 1, s, _, hk, hm, hv => by
    obtain ⟨s', e1, e2, e3, e4⟩ := s_g139 (a := a) (g := g) (i := i) (t := t) hr hm hm2 hk hv
    refine ⟨s', ?_, e2, e3, e4⟩
    unfold g_m_gathers_L90
    rw [if_pos (by omega)]
    exact e1
  | k + 1, n + 1, s, hn, hk, hm, hv => by
    have hr' := hr
    unfold vRow at hr'
    have hv1 := hv k (by omega) (by omega)
    have hv1' := hv1
    unfold vRow at hv1'
    unfold g_m_gathers_L90
    rw [if_neg (by omega), w32_id (x := ((k + 1 : Nat) : Int) - 1) (by omega) (by omega), if_pos (by omega), show ((k + 1 : Nat) : Int) - 1 = (k : Int) by omega]
    show ∃ s', (g_m_orderOf (s 154 (k : Int)) s).bind _ = _ ∧ _
    rw [s_orderOf hv1'.1 hv1'.2]
    rw [Option.bind_some]
    try dsimp only
    rw [s_orderOf hr'.1 hr'.2]
    rw [Option.bind_some]
    try dsimp only
    split
    · obtain ⟨s', e1, e2, e3, e4⟩ := s_g139 (a := a) (g := g) (i := i) (t := t) hr hm hm2 hk hv
      exact ⟨s', e1, e2, e3, e4⟩
    · rw [if_pos (by omega), if_pos (by omega)]
      obtain ⟨s', e1, e2, e3, e4⟩ := s_g90 (a := a) (g := g) (i := i) (t := t) hr hm2 k n (zu s 154 ((k + 1 : Nat) : Int) (s 154 (k : Int))) (by omega) (by omega) (by rw [zu_a (by decide)]; exact hm) (fun j hj hjk => by
        by_cases c : j = k + 1
        · subst c
          rw [zu_e rfl]; exact hv1
        · rw [zu_i (by omega)]; exact hv j hj c)
      exact ⟨s', e1, e2, e3, fun b j h1 h2 h3 => (e4 b j h1 h2 h3).trans (zu_a h2)⟩
/-- a test of a row: it comes to an answer, and writes nothing but where it reads -/
def tstOk (σ : zS) (t : Int) : Prop := t < 0 ∨ ∀ s : zS, frG σ s → ∀ r : Int, 0 ≤ r → r < 60 → ∃ b s', g_grp231 zR 231 r (zu s 143 21 t) = some (b, s') ∧ ∀ a j, (a ≠ 143 ∨ (j ≠ 21 ∧ j ≠ 22 ∧ j ≠ 23)) → s' a j = s a j
theorem s_g8 {a : Nat} {i t : Int} {σ : zS} (h1 : 0 ≤ i) (h2 : i + 3 < zLI a) (h3 : zLI a ≤ 100000) (ht : tstOk σ t) : ∀ (d k n m : Nat) (s : zS), k + d = 60 → d < n → m ≤ k → frG σ s → s 143 14 = (m : Int) → (∀ j : Nat, j < m → vRow (s 154 (j : Int))) → ∃ s' m', g_m_gathers_L8 a n i t (k : Int) s = g_m_gathers_L167 a zK 0 s' ∧ m' ≤ 60 ∧ frG σ s' ∧ s' 143 14 = ((m' : Nat) : Int) ∧ ∀ j : Nat, j < m' → vRow (s' 154 (j : Int))
  | _, _, 0, _, _, _, h, _, _, _, _ => absurd h (Nat.not_lt_zero _)
  | 0, k, n + 1, m, s, hk, _, hmk, hf, hm, hv => by
    refine ⟨s, m, ?_, by omega, hf, hm, hv⟩
    unfold g_m_gathers_L8
    rw [if_pos (by omega)]
  | d + 1, k, n + 1, m, s, hk, hn, hmk, hf, hm, hv => by
    have ek : ((k + 1 : Nat) : Int) = (k : Int) + 1 := by omega
    have skip : ∀ s2 : zS, frG s s2 → s2 143 14 = (m : Int) → (∀ j : Nat, j < m → vRow (s2 154 (j : Int))) → ∃ s' m', g_m_gathers_L158 a (g_m_gathers_L8 a n) i t (k : Int) s2 = g_m_gathers_L167 a zK 0 s' ∧ m' ≤ 60 ∧ frG σ s' ∧ s' 143 14 = ((m' : Nat) : Int) ∧ ∀ j : Nat, j < m' → vRow (s' 154 (j : Int)) := by
      intro s2 g1 g2 g3
      unfold g_m_gathers_L158
      rw [w32_id (x := (k : Int) + 1) (by omega) (by omega), ← ek]
      exact s_g8 h1 h2 h3 ht d (k + 1) n m s2 (by omega) (by omega) (by omega) (hf.trans g1) g2 g3
    have take : ∀ s2 : zS, frG s s2 → s2 143 14 = (m : Int) → (∀ j : Nat, j < m → vRow (s2 154 (j : Int))) → ∃ s' m', g_m_gathers_L84 a (g_m_gathers_L8 a n) i t (k : Int) s2 = g_m_gathers_L167 a zK 0 s' ∧ m' ≤ 60 ∧ frG σ s' ∧ s' 143 14 = ((m' : Nat) : Int) ∧ ∀ j : Nat, j < m' → vRow (s' 154 (j : Int)) := by
      intro s2 g1 g2 g3
      unfold g_m_gathers_L84
      show ∃ s' m', g_m_gathers_L90 a (g_m_gathers_L8 a n) zK i t (k : Int) (s2 143 14) s2 = _ ∧ _
      rw [g2]
      obtain ⟨s3, e1, e2, e3, e4⟩ := s_g90 (a := a) (g := g_m_gathers_L8 a n) (i := i) (t := t) (r := (k : Int)) (m := m) (show 0 ≤ (k : Int) ∧ (k : Int) < 60 by omega) (by omega) m zK s2 (by show _ < 1000000; omega) (Nat.le_refl _) g2 (fun j hj hjm => g3 j (by omega))
      rw [e1, ← ek]
      exact s_g8 h1 h2 h3 ht d (k + 1) n (m + 1) s3 (by omega) (by omega) (by omega) (hf.trans (g1.trans e4)) e2 e3
    unfold g_m_gathers_L8
    rw [if_neg (by omega), s_rowAt (by omega) (by omega)]
    rw [Option.bind_some]
    try dsimp only
    rw [if_pos (by omega)]
    split
    · exact skip s (frG.refl s) hm hv
    · rw [s_rowAt (by omega) (by omega), Option.bind_some]
      dsimp only
      rw [w32_id (x := 20 + 3 * (k : Int) + 1) (by omega) (by omega), if_pos (by omega), s_rowAt (by omega) (by omega), Option.bind_some]
      dsimp only
      rw [w32_id (x := 20 + 3 * (k : Int) + 2) (by omega) (by omega), if_pos (by omega), s_has h1 h2 h3]
      rw [Option.bind_some]
      try dsimp only
      by_cases c : bIn (bxA s a i) (s 144 (20 + 3 * (k : Int) + 1)) (s 144 (20 + 3 * (k : Int) + 2))
      · rw [if_pos c, if_pos (by decide)]
        have fz : frG s (zu s 143 21 t) := fun b j k1 k2 k3 => zu_c (by omega)
        by_cases c2 : t < 0
        · rw [if_pos c2]
          exact take _ fz (by rw [zu_i (by decide)]; exact hm) (fun j hj => by rw [zu_a (by decide)]; exact hv j hj)
        · rw [if_neg c2]
          rcases ht with ht | ht
          · exact absurd ht c2
          · obtain ⟨b, s', e1, e2⟩ := ht s hf (k : Int) (by omega) (by omega)
            rw [e1]
            rw [Option.bind_some]
            try dsimp only
            have fs : frG s s' := fun x j k1 k2 k3 => e2 x j (by omega)
            have m1 : s' 143 14 = (m : Int) := by rw [e2 143 14 (by omega)]; exact hm
            have v1 : ∀ j : Nat, j < m → vRow (s' 154 (j : Int)) := fun j hj => by rw [e2 154 _ (Or.inl (by decide))]; exact hv j hj
            split
            · exact take s' fs m1 v1
            · exact skip s' fs m1 v1
      · rw [if_neg c, if_neg (by decide)]
        exact skip s (frG.refl s) hm hv
theorem s_g167 {a : Nat} {m : Nat} (hm2 : m ≤ 60) : ∀ (d k n : Nat) (s : zS), k + d = m → d < n → s 143 14 = (m : Int) → (∀ j : Nat, j < m → vRow (s 154 (j : Int))) → ∃ s', g_m_gathers_L167 a n (k : Int) s = some ((), s') ∧ (∀ x j, x ≠ 155 → s' x j = s x j)
  | _, _, 0, _, _, h, _, _ => absurd h (Nat.not_lt_zero _)
  | 0, k, n + 1, s, hk, _, hm, _ => by
    refine ⟨s, ?_, fun _ _ _ => rfl⟩
    unfold g_m_gathers_L167
    simp only [hm]
    rw [if_pos (by omega)]
  | d + 1, k, n + 1, s, hk, hn, hm, hv => by
    have hv1 := hv k (by omega)
    unfold vRow at hv1
    obtain ⟨s', e1, e2⟩ := s_g167 (a := a) hm2 d (k + 1) n (zu s 155 (k : Int) (s 147 (1 + s 154 (k : Int)))) (by omega) (by omega) (by rw [zu_a (by decide)]; exact hm) (fun j hj => by rw [zu_a (by decide)]; exact hv j hj)
    refine ⟨s', ?_, fun x j hx => (e2 x j hx).trans (zu_a hx)⟩
    unfold g_m_gathers_L167
    simp only [hm]
    rw [if_neg (by omega), if_pos (by omega), w32_id (x := 1 + s 154 (k : Int)) (by omega) (by omega), if_pos (by omega), if_pos (by omega), w32_id (x := (k : Int) + 1) (by omega) (by omega)]
    rw [show ((k + 1 : Nat) : Int) = (k : Int) + 1 by omega] at e1
    exact e1
theorem s_gathers {a : Nat} {i t : Int} {σ : zS} (h1 : 0 ≤ i) (h2 : i + 3 < zLI a) (h3 : zLI a ≤ 100000) (ht : tstOk σ t) : ∃ s m, g_m_gathers a i t σ = some ((), s) ∧ m ≤ 60 ∧ frG σ s ∧ s 143 14 = ((m : Nat) : Int) ∧ ∀ j : Nat, j < m → vRow (s 154 (j : Int)) := by
  obtain ⟨s1, m, e1, e2, e3, e4, e5⟩ := s_g8 (a := a) (i := i) (t := t) (σ := σ) h1 h2 h3 ht 60 0 zK 0 (zu σ 143 14 0) (by omega) (by show _ < 1000000; omega) (Nat.le_refl _) (fun b j k1 k2 k3 => zu_c (by omega)) (zu_e rfl) (fun j hj => absurd hj (Nat.not_lt_zero _))
  obtain ⟨s2, f1, f2⟩ := s_g167 (a := a) e2 m 0 zK s1 (by omega) (by show _ < 1000000; omega) e4 e5
  refine ⟨s2, m, ?_, e2, ?_, ?_, ?_⟩
  · unfold g_m_gathers
    exact e1.trans f1
  · exact e3.trans (fun b j _ _ k3 => f2 b j k3)
  · rw [f2 143 14 (by decide)]; exact e4
  · intro j hj
    rw [f2 154 _ (by decide)]
    exact e5 j hj
theorem frG.of15 {σ : zS} {o : Int} : frG σ (zu σ 143 15 o) := fun b j k1 k2 k3 => zu_c (by omega)
/-- all that a query with its answer leaves as it was -/
def frK (σ s : zS) : Prop := ∀ a j, (a ≠ 144 ∨ (9 ≤ j ∧ j < 200) ∨ (260 ≤ j ∧ j < 340)) → (a ≠ 147 ∨ (1 ≤ j ∧ j < 61)) → a ≠ 150 → a ≠ 151 → a ≠ 153 → a ≠ 154 → a ≠ 155 → (a ≠ 143 ∨ (j ≠ 10 ∧ j ≠ 14 ∧ j ≠ 15 ∧ j ≠ 21 ∧ j ≠ 22 ∧ j ≠ 23)) → s a j = σ a j
theorem s_asked27 {x : Int} {m : Nat} (hm2 : m ≤ 60) : ∀ (d k n : Nat) (s : zS), k + d = m → d < n → s 143 14 = (m : Int) → ∃ v s', g_m_asked_L27 n x (k : Int) s = some (v, s') ∧ ∀ a j, (a ≠ 144 ∨ j < 200 ∨ 260 ≤ j) → (a ≠ 147 ∨ j < 61 ∨ 121 ≤ j) → (a ≠ 143 ∨ j ≠ 15) → s' a j = s a j
  | _, _, 0, _, _, h, _ => absurd h (Nat.not_lt_zero _)
  | 0, k, n + 1, s, hk, _, hm => by
    obtain ⟨v, o, e⟩ := s_measured x hm hm2
    refine ⟨v, zu s 143 15 o, ?_, fun a j _ _ h => zu_c h⟩
    unfold g_m_asked_L27
    simp only [hm]
    rw [if_pos (by omega), e]
    rfl
  | d + 1, k, n + 1, s, hk, hn, hm => by
    obtain ⟨v, s', e1, e2⟩ := s_asked27 (x := x) hm2 d (k + 1) n (zu (zu s 144 (200 + (k : Int)) (s 154 (k : Int))) 147 (61 + (k : Int)) (zu s 144 (200 + (k : Int)) (s 154 (k : Int)) 155 (k : Int))) (by omega) (by omega) (by rw [zu_a (by decide), zu_a (by decide)]; exact hm)
    refine ⟨v, s', ?_, fun a j h1 h2 h3 => ?_⟩
    · unfold g_m_asked_L27
      simp only [hm]
      rw [if_neg (by omega), if_pos (by omega), w32_id (x := 200 + (k : Int)) (by omega) (by omega), if_pos (by omega), if_pos (by omega), w32_id (x := 61 + (k : Int)) (by omega) (by omega), if_pos (by omega), w32_id (x := (k : Int) + 1) (by omega) (by omega)]
      rw [show ((k + 1 : Nat) : Int) = (k : Int) + 1 by omega] at e1
      exact e1
    · rw [e2 a j h1 h2 h3, zu_c (by omega), zu_c (by omega)]
theorem s_asked {σ : zS} {N : Nat} {q : Bx} {x t : Int} (hR : RI σ N) (hN : σ 144 0 = (N : Int)) (hN2 : N ≤ 12) (hq : bOk q) (hb : bxA σ 152 0 = q) (h13 : 1 ≤ σ 144 13) (h13b : σ 144 13 ≤ 12) (h12 : 1 ≤ σ 144 12) (ht : ∀ s, frQ σ s → tstOk s t) : ∃ v s N', g_m_asked x t σ = some (v, s) ∧ RI s N' ∧ s 144 0 = (N' : Int) ∧ N' ≤ 12 ∧ frK σ s ∧ 0 ≤ s 144 8 ∧ s 144 8 ≤ 60 := by
  have l152 : zLI 152 = 4 := rfl
  obtain ⟨s1, N1, e1, e2, e3, e4, e5⟩ := s_queries hR hN hN2 hq hb h13 h13b h12
  obtain ⟨s2, m, f1, f2, f3, f4, f5⟩ := s_gathers (a := 152) (i := 0) (t := t) (σ := s1) (by omega) (by omega) (by omega) (ht s1 e5)
  obtain ⟨v, s3, g1, g2⟩ := s_asked27 (x := x) f2 m 0 zK (zu s2 144 8 (m : Int)) (by omega) (by show _ < 1000000; omega) (by rw [zu_a (by decide)]; exact f4)
  have k144 : ∀ j : Int, (j < 8 ∨ 340 ≤ j) → s3 144 j = s1 144 j := fun j h => by
    rw [g2 144 j (by omega) (Or.inl (by decide)) (Or.inl (by decide)), zu_i (by omega), f3 144 j (Or.inl (by decide)) (by decide) (by decide)]
  have k147 : ∀ j : Int, 121 ≤ j → s3 147 j = s1 147 j := fun j h => by
    rw [g2 147 j (Or.inl (by decide)) (by omega) (Or.inl (by decide)), zu_a (by decide), f3 147 j (Or.inl (by decide)) (by decide) (by decide)]
  refine ⟨v, s3, N1, ?_, ?_, ?_, e4, ?_, ?_⟩
  · unfold g_m_asked
    rw [e1]
    rw [Option.bind_some]
    try dsimp only
    rw [f1]
    simp only [Option.bind_some, f4]
    exact g1
  · refine RI_of e2 (fun k hk => ?_)
    unfold rgA bxA
    rw [k144 _ (by omega), k144 _ (by omega), k144 _ (by omega), k144 _ (by omega), k144 _ (by omega), k144 _ (by omega), k144 _ (by omega), k144 _ (by omega)]
    exact ⟨rfl, rfl⟩
  · rw [k144 0 (by omega)]; exact e3
  · intro a j h1 h2 h3 h4 h5 h6 h7 h8
    rw [g2 a j (by omega) (by omega) (by omega), zu_c (by omega), f3 a j (by omega) h6 h7]
    exact e5 a j (by omega) (by omega) h3 h4 h5 (by omega)
  · have : s3 144 8 = (m : Int) := by rw [g2 144 8 (by omega) (Or.inl (by decide)) (Or.inl (by decide)), zu_e rfl]
    omega
end
section
/-! 41.refb -/
/-! THE REFERENCE over the typed memory: a write -/
def frW (σ s : zS) : Prop := ∀ a j, (a ≠ 144 ∨ (8 ≤ j ∧ j < 340)) → (a ≠ 147 ∨ (1 ≤ j ∧ j < 121)) → a ≠ 151 → a ≠ 156 → a ≠ 157 → s a j = σ a j
theorem frW.refl (σ : zS) : frW σ σ := fun _ _ _ _ _ _ _ => rfl
theorem frW.trans {σ s t : zS} (h1 : frW σ s) (h2 : frW s t) : frW σ t := fun a j k1 k2 k3 k4 k5 => (h2 a j k1 k2 k3 k4 k5).trans (h1 a j k1 k2 k3 k4 k5)
theorem RI_hot {s : zS} {N : Nat} {h : Bx} (hR : RI s (N + 1)) (h1 : bOk h) (h2 : bSub h (rgA s (N : Int)).1) : RI (zb s 144 (344 + 10 * (N : Int)) h) (N + 1) := by
  have e1 : ∀ k : Nat, k < N + 1 → (rgA (zb s 144 (344 + 10 * (N : Int)) h) (k : Int)).1 = (rgA s (k : Int)).1 := by
    intro k hk
    exact zb_bxi (by omega)
  refine ⟨fun k hk => ?_, fun k1 k2 hk1 hk2 => by rw [e1 k1 (by omega), e1 k2 hk2]; exact hR.2 k1 k2 hk1 hk2⟩
  have e2 := e1 k hk
  unfold rOk
  rw [e2]
  by_cases c : k = N
  · subst c
    have e3 : (rgA (zb s 144 (344 + 10 * (k : Int)) h) (k : Int)).2.1 = h := zb_bx rfl
    rw [e3]
    exact ⟨(hR.1 k hk).1, Or.inr ⟨h1, h2⟩⟩
  · have e3 : (rgA (zb s 144 (344 + 10 * (N : Int)) h) (k : Int)).2.1 = (rgA s (k : Int)).2.1 := zb_bxi (by omega)
    rw [e3]
    exact hR.1 k hk
/-- a piece of a cut region: a region with its hits, its weight, its HOT as far as it reaches -/
def cutS (s : zS) (N : Int) (p : Bx) (w : Int) : zS := zu (zu (addsS s N p) 144 (349 + 10 * N) (s 156 9)) 147 (121 + N) w
theorem cutS_a {s : zS} {N w : Int} {p : Bx} {a : Nat} {j : Int} (hN : 0 ≤ N) (h : (a ≠ 144 ∨ (2 ≤ j ∧ j < 340)) ∧ (a ≠ 147 ∨ j < 121)) : cutS s N p w a j = s a j := by
  unfold cutS
  rw [zu_c (by omega), zu_c (by omega), addsS_a (by omega)]
theorem cutS_bx {s : zS} {N w : Int} {p : Bx} {a : Nat} {j : Int} (h : a ≠ 144) (h2 : a ≠ 147) : bxA (cutS s N p w) a j = bxA s a j := by
  unfold bxA cutS
  rw [zu_a h2, zu_a h2, zu_a h2, zu_a h2, zu_a h, zu_a h, zu_a h, zu_a h, addsS_a (Or.inl h), addsS_a (Or.inl h), addsS_a (Or.inl h), addsS_a (Or.inl h)]
theorem cutS_rg {s : zS} {N w : Int} {p : Bx} {k : Int} : (rgA (cutS s N p w) k).1 = (rgA (addsS s N p) k).1 ∧ (rgA (cutS s N p w) k).2.1 = (rgA (addsS s N p) k).2.1 := by
  unfold rgA cutS
  dsimp only
  rw [zu_bxa (a := 147) (c := 144) (j := 340 + 10 * k) (by decide), zu_bxa (a := 147) (c := 144) (j := 344 + 10 * k) (by decide)]
  constructor
  · by_cases h : k ≤ N
    · exact zu_bxi (by omega)
    · exact zu_bxi (by omega)
  · by_cases h : k ≤ N
    · exact zu_bxi (by omega)
    · exact zu_bxi (by omega)
theorem s_cut86 {C : List Bx} {gh : Bx} {w : Int} (hgh : gh.1 < 0 ∨ bOk gh) (okC : ∀ p ∈ C, bOk p) (hCC : C.Pairwise (fun a b => ¬ bMt a b)) (hlC : C.length ≤ 4) : ∀ (suf pre : List Bx) (n N : Nat) (s : zS), C = pre ++ suf → suf.length < n → bxA s 156 4 = gh → (∀ (k : Nat) (hk : k < C.length), bxA s 151 (4 * (k : Int)) = C[k]) → RI s N → s 144 0 = (N : Int) → N ≤ 100 + pre.length → (∀ k : Nat, k < N → ∀ p ∈ suf, ¬ bMt (rgA s (k : Int)).1 p) → ∃ s', g_m_cuts_L86 n w (C.length : Int) (pre.length : Int) s = some ((), s') ∧ RI s' (N + suf.length) ∧ s' 144 0 = ((N + suf.length : Nat) : Int) ∧ frW s s'
  | _, _, 0, _, _, _, h, _, _, _, _, _, _ => absurd h (Nat.not_lt_zero _)
  | [], pre, n + 1, N, s, h, _, _, _, hR, hN, _, _ => by
    rw [List.append_nil] at h
    subst h
    refine ⟨s, ?_, hR, hN, frW.refl s⟩
    unfold g_m_cuts_L86
    rw [if_pos (Int.le_refl _)]
  | p :: suf, pre, n + 1, N, s, h, hn, hg, hP, hR, hN, hNp, hd => by
    have l151 : zLI 151 = 2400 := rfl
    have l156 : zLI 156 = 10 := rfl
    have l := l144
    have hlen : C.length = pre.length + (suf.length + 1) := by rw [h, List.length_append, List.length_cons]
    have hCp : C[pre.length]'(by omega) = p := by
      have e2 : C[pre.length]? = some p := by rw [h, List.getElem?_append_right (Nat.le_refl _), Nat.sub_self]; rfl
      rw [List.getElem?_eq_getElem (by omega)] at e2
      exact Option.some.inj e2
    have hp : bxA s 151 (4 * (pre.length : Int)) = p := (hP pre.length (by omega)).trans hCp
    have okp : bOk p := okC p (by rw [h]; exact List.mem_append_right _ List.mem_cons_self)
    have hps : ∀ x ∈ suf, ¬ bMt p x := by
      rw [h] at hCC
      exact (List.pairwise_cons.mp (List.pairwise_append.mp hCC).2.1).1
    have h' : C = (pre ++ [p]) ++ suf := by rw [h, List.append_assoc]; rfl
    have hn' : suf.length < n := by rw [List.length_cons] at hn; omega
    have ek : (pre ++ [p]).length = pre.length + 1 := by rw [List.length_append, List.length_singleton]
    have hR1 : RI (cutS s (N : Int) p w) (N + 1) := RI_of (RI_adds hR okp (fun k hk => hd k hk p List.mem_cons_self)) (fun k hk => cutS_rg)
    have bN : (rgA (cutS s (N : Int) p w) (N : Int)).1 = p := by rw [cutS_rg.1, rgA_adds (by omega)]
    have bo : ∀ k : Nat, k < N → (rgA (cutS s (N : Int) p w) (k : Int)).1 = (rgA s (k : Int)).1 := fun k hk => by rw [cutS_rg.1, rgA_addo (by omega) (by omega) (by omega)]
    have go : ∀ s2 : zS, RI s2 (N + 1) → (∀ a j, (a ≠ 144 ∨ j < 344 + 10 * (N : Int) ∨ 348 + 10 * (N : Int) ≤ j) → s2 a j = cutS s (N : Int) p w a j) → ∃ s', g_m_cuts_L194 (g_m_cuts_L86 n) w (C.length : Int) (pre.length : Int) s2 = some ((), s') ∧ RI s' (N + (p :: suf).length) ∧ s' 144 0 = ((N + (p :: suf).length : Nat) : Int) ∧ frW s s' := by
      intro s2 r2 f2
      have f3 : ∀ a j, ((a ≠ 144 ∨ (2 ≤ j ∧ j < 340)) ∧ (a ≠ 147 ∨ j < 121)) → s2 a j = s a j := fun a j hh => by
        rw [f2 a j (by omega), cutS_a (by omega) hh]
      have bx2 : ∀ (a : Nat) (j : Int), a ≠ 144 → a ≠ 147 → bxA s2 a j = bxA s a j := fun a j h1 h2 => by
        unfold bxA
        rw [f3 a _ ⟨Or.inl h1, Or.inl h2⟩, f3 a _ ⟨Or.inl h1, Or.inl h2⟩, f3 a _ ⟨Or.inl h1, Or.inl h2⟩, f3 a _ ⟨Or.inl h1, Or.inl h2⟩]
      have rb2 : ∀ k : Nat, k < N + 1 → (rgA s2 (k : Int)).1 = (rgA (cutS s (N : Int) p w) (k : Int)).1 := fun k hk => by
        show bxA s2 144 _ = bxA _ 144 _
        unfold bxA
        rw [f2 144 _ (by omega), f2 144 _ (by omega), f2 144 _ (by omega), f2 144 _ (by omega)]
      obtain ⟨s', g1, g2, g3, g4⟩ := s_cut86 (w := w) hgh okC hCC hlC suf (pre ++ [p]) n (N + 1) s2 h' hn' (by rw [bx2 156 4 (by decide) (by decide)]; exact hg) (fun k hk => by rw [bx2 151 _ (by decide) (by decide)]; exact hP k hk) r2 (by
        rw [f2 144 0 (by omega)]
        unfold cutS
        rw [zu_a (by decide), zu_i (by omega), addsS_N (by omega) (by omega)]
        omega) (by omega) (fun k hk x hx => by
        rw [rb2 k hk]
        by_cases c : k = N
        · subst c
          rw [bN]
          exact hps x hx
        · rw [bo k (by omega)]
          exact hd k (by omega) x (List.mem_cons_of_mem _ hx))
      refine ⟨s', ?_, ?_, ?_, ?_⟩
      · unfold g_m_cuts_L194
        rw [w32_id (x := (pre.length : Int) + 1) (by omega) (by omega)]
        rw [ek, show ((pre.length + 1 : Nat) : Int) = (pre.length : Int) + 1 by omega] at g1
        exact g1
      · rw [List.length_cons, show N + (suf.length + 1) = N + 1 + suf.length by omega]; exact g2
      · rw [List.length_cons, show N + (suf.length + 1) = N + 1 + suf.length by omega]; exact g3
      · intro a j k1 k2 k3 k4 k5
        rw [g4 a j k1 k2 k3 k4 k5]
        exact f3 a j ⟨by omega, by omega⟩
    unfold g_m_cuts_L86
    rw [if_neg (by omega), w32_id (x := 4 * (pre.length : Int)) (by omega) (by omega), s_adds (k := (N : Int)) hN (by omega) (by omega) (by omega) (by omega) (by omega), hp]
    rw [Option.bind_some]
    try dsimp only
    rw [s_region (by omega) (by omega)]
    rw [Option.bind_some]
    try dsimp only
    rw [w32_id (x := 340 + 10 * (N : Int) + 9) (by omega) (by omega), if_pos (by omega), w32_id (x := 121 + (N : Int)) (by omega) (by omega), if_pos (by omega), show 340 + 10 * (N : Int) + 9 = 349 + 10 * (N : Int) by omega]
    have e156 : addsS s (N : Int) p 156 9 = s 156 9 := addsS_a (Or.inl (by decide))
    rw [e156]
    show ∃ s', (if cutS s (N : Int) p w 156 4 < 0 then g_m_cuts_L194 (g_m_cuts_L86 n) w (C.length : Int) (pre.length : Int) (cutS s (N : Int) p w) else (g_m_doMeet 156 151 4 (4 * (pre.length : Int)) (cutS s (N : Int) p w)).bind _) = _ ∧ _
    have e4 : cutS s (N : Int) p w 156 4 = gh.1 := by
      rw [cutS_a (by omega) ⟨Or.inl (by decide), Or.inl (by decide)⟩, ← hg]
      rfl
    by_cases c1 : gh.1 < 0
    · rw [if_pos (by rw [e4]; exact c1)]
      exact go _ hR1 (fun _ _ _ => rfl)
    · rw [if_neg (by rw [e4]; exact c1), s_doMeet (by omega) (by omega) (by omega) (by omega) (by omega) (by omega), cutS_bx (by decide) (by decide), cutS_bx (by decide) (by decide), hg, hp]
      rw [Option.bind_some]
      try dsimp only
      by_cases c2 : bMt gh p
      · rw [if_pos c2, if_neg (by decide), s_region (by omega) (by omega)]
        rw [Option.bind_some]
        try dsimp only
        rw [w32_id (x := 340 + 10 * (N : Int) + 4) (by omega) (by omega), s_commons (by omega) (by omega) (by omega) (by omega) (by omega) (by omega) (by omega) (by omega) (by omega), cutS_bx (by decide) (by decide), cutS_bx (by decide) (by decide), hg, hp, show 340 + 10 * (N : Int) + 4 = 344 + 10 * (N : Int) by omega]
        rw [Option.bind_some]
        try dsimp only
        obtain ⟨o1, o2, o3⟩ := bCom_ok (hgh.resolve_left c1) okp c2
        refine go _ (RI_hot hR1 o1 (by rw [bN]; exact o3)) (fun a j hh => ?_)
        rcases hh with hh | hh
        · exact zb_a hh
        · exact zb_i (by omega)
      · rw [if_neg c2, if_pos rfl]
        exact go _ hR1 (fun _ _ _ => rfl)
theorem s_cut3 {σ : zS} {i N : Nat} {x y : Int} (hi : i < N) (hN2 : N ≤ 100) : ∀ (d e n : Nat) (s : zS), e + d = 10 → d < n → (∀ a j, a ≠ 156 → s a j = σ a j) → (∀ t : Nat, t < e → s 156 (t : Int) = σ 144 (340 + 10 * (i : Int) + (t : Int))) → ∃ s', g_m_cuts_L3 n (i : Int) x y (e : Int) s = g_m_cuts_L3 1 (i : Int) x y 10 s' ∧ (∀ a j, a ≠ 156 → s' a j = σ a j) ∧ (∀ t : Nat, t < 10 → s' 156 (t : Int) = σ 144 (340 + 10 * (i : Int) + (t : Int)))
  | _, _, 0, _, _, h, _, _ => absurd h (Nat.not_lt_zero _)
  | 0, e, n + 1, s, he, _, hf, hg => by
    have : e = 10 := by omega
    subst this
    refine ⟨s, ?_, hf, hg⟩
    unfold g_m_cuts_L3
    rw [if_pos (show (10 : Int) ≤ ((10 : Nat) : Int) by omega), if_pos (show (10 : Int) ≤ 10 by omega)]
  | d + 1, e, n + 1, s, he, hn, hf, hg => by
    obtain ⟨s', e1, e2, e3⟩ := s_cut3 (σ := σ) (x := x) (y := y) hi hN2 d (e + 1) n (zu s 156 (e : Int) (s 144 (340 + 10 * (i : Int) + (e : Int)))) (by omega) (by omega) (fun a j h => by rw [zu_a h]; exact hf a j h) (fun t ht => by
      by_cases c : t = e
      · subst c
        rw [zu_e rfl]
        exact hf 144 _ (by decide)
      · rw [zu_i (by omega)]; exact hg t (by omega))
    refine ⟨s', ?_, e2, e3⟩
    rw [← e1]
    conv => lhs; unfold g_m_cuts_L3
    rw [if_neg (by omega), s_region (by omega) (by omega)]
    rw [Option.bind_some]
    try dsimp only
    rw [w32_id (x := 340 + 10 * (i : Int) + (e : Int)) (by omega) (by omega), if_pos (by omega), if_pos (by omega), w32_id (x := (e : Int) + 1) (by omega) (by omega), show ((e + 1 : Nat) : Int) = (e : Int) + 1 by omega]
theorem RI_goes {σ : zS} {i N : Nat} (hR : RI σ N) (hi : i < N) (hN2 : N ≤ 239) : RI (zu (gS2 σ (i : Int) (N : Int) 0) 144 0 ((N : Int) - 1)) (N - 1) ∧ frR σ (zu (gS2 σ (i : Int) (N : Int) 0) 144 0 ((N : Int) - 1)) ∧ (∀ k : Nat, k < N - 1 → ∃ t : Nat, t < N ∧ t ≠ i ∧ (rgA (zu (gS2 σ (i : Int) (N : Int) 0) 144 0 ((N : Int) - 1)) (k : Int)).1 = (rgA σ (t : Int)).1) := by
  have e0 : ∀ k : Nat, k < N - 1 → rgA (zu (gS2 σ (i : Int) (N : Int) 0) 144 0 ((N : Int) - 1)) (k : Int) = if k < i then rgA σ (k : Int) else rgA σ ((k + 1 : Nat) : Int) := by
    intro k hk
    rw [rgA_gS2 (by omega) (by omega) (by omega) (by omega)]
    by_cases h : k < i
    · rw [if_pos h, if_pos (by omega)]
    · rw [if_neg h, if_neg (by omega), show (k : Int) + 1 = ((k + 1 : Nat) : Int) by omega]
  refine ⟨⟨fun k hk => ?_, fun k1 k2 hk1 hk2 => ?_⟩, fun a j h1 h2 => ?_, fun k hk => ?_⟩
  · rw [e0 k hk]
    split
    · exact hR.1 k (by omega)
    · exact hR.1 (k + 1) (by omega)
  · rw [e0 k1 (by omega), e0 k2 hk2]
    by_cases a1 : k1 < i
    · rw [if_pos a1]
      by_cases a2 : k2 < i
      · rw [if_pos a2]; exact hR.2 k1 k2 hk1 (by omega)
      · rw [if_neg a2]; exact hR.2 k1 (k2 + 1) (by omega) (by omega)
    · rw [if_neg a1, if_neg (by omega)]
      exact hR.2 (k1 + 1) (k2 + 1) (by omega) (by omega)
  · rw [zu_c (by omega)]
    unfold gS2
    rw [if_neg (fun e => by omega), if_neg (fun e => by omega)]
  · rw [e0 k hk]
    by_cases h : k < i
    · rw [if_pos h]; exact ⟨k, by omega, by omega, rfl⟩
    · rw [if_neg h]; exact ⟨k + 1, by omega, by omega, rfl⟩
theorem s_cuts {σ : zS} {i N : Nat} {x y : Int} (hR : RI σ N) (hN : σ 144 0 = (N : Int)) (hi : i < N) (hN2 : N ≤ 100) (hx : 0 ≤ x ∧ x ≤ 31) (hy : 0 ≤ y ∧ y ≤ 31) : ∃ s N', g_m_cuts (i : Int) x y σ = some ((), s) ∧ RI s N' ∧ s 144 0 = (N' : Int) ∧ N' ≤ N + 3 ∧ frW σ s := by
  have l156 : zLI 156 = 10 := rfl
  have l157 : zLI 157 = 4 := rfl
  have l151 : zLI 151 = 2400 := rfl
  obtain ⟨s1, e1, e2, e3⟩ := s_cut3 (σ := σ) (x := x) (y := y) hi hN2 10 0 zK σ (by omega) (by show _ < 1000000; omega) (fun _ _ _ => rfl) (fun t ht => absurd ht (Nat.not_lt_zero _))
  have hR1 : RI s1 N := RI_of hR (fun k hk => by
    unfold rgA bxA
    dsimp only
    rw [e2 144 _ (by decide), e2 144 _ (by decide), e2 144 _ (by decide), e2 144 _ (by decide), e2 144 _ (by decide), e2 144 _ (by decide), e2 144 _ (by decide), e2 144 _ (by decide)]
    exact ⟨rfl, rfl⟩)
  have hN1 : s1 144 0 = (N : Int) := (e2 144 0 (by decide)).trans hN
  obtain ⟨g1, g2, g3⟩ := RI_goes hR1 hi (by omega)
  generalize hs2 : zu (gS2 s1 (i : Int) (N : Int) 0) 144 0 ((N : Int) - 1) = s2 at g1 g2 g3
  have hN2' : s2 144 0 = ((N - 1 : Nat) : Int) := by rw [← hs2, zu_e rfl]; omega
  have gb : bxA s1 156 0 = (rgA σ (i : Int)).1 := by
    have q := fun (t : Nat) (ht : t < 10) => e3 t ht
    show (s1 156 0, s1 156 (0 + 1), s1 156 (0 + 2), s1 156 (0 + 3)) = (σ 144 (340 + 10 * (i : Int)), σ 144 (340 + 10 * (i : Int) + 1), σ 144 (340 + 10 * (i : Int) + 2), σ 144 (340 + 10 * (i : Int) + 3))
    have q0 := q 0 (by decide)
    have q1 := q 1 (by decide)
    have q2 := q 2 (by decide)
    have q3 := q 3 (by decide)
    rw [show ((0 : Nat) : Int) = 0 from rfl, Int.add_zero] at q0
    rw [q0, show (0 : Int) + 1 = ((1 : Nat) : Int) from rfl, show (0 : Int) + 2 = ((2 : Nat) : Int) from rfl, show (0 : Int) + 3 = ((3 : Nat) : Int) from rfl, q1, q2, q3]
    rfl
  have gh : bxA s1 156 4 = (rgA σ (i : Int)).2.1 := by
    have q := fun (t : Nat) (ht : t < 10) => e3 t ht
    have q4 := q 4 (by decide)
    have q5 := q 5 (by decide)
    have q6 := q 6 (by decide)
    have q7 := q 7 (by decide)
    show (s1 156 4, s1 156 (4 + 1), s1 156 (4 + 2), s1 156 (4 + 3)) = (σ 144 (344 + 10 * (i : Int)), σ 144 (344 + 10 * (i : Int) + 1), σ 144 (344 + 10 * (i : Int) + 2), σ 144 (344 + 10 * (i : Int) + 3))
    rw [show (4 : Int) + 1 = ((5 : Nat) : Int) from rfl, show (4 : Int) + 2 = ((6 : Nat) : Int) from rfl, show (4 : Int) + 3 = ((7 : Nat) : Int) from rfl, show s1 156 4 = s1 156 ((4 : Nat) : Int) from rfl, q4, q5, q6, q7]
    rw [show 340 + 10 * (i : Int) + ((4 : Nat) : Int) = 344 + 10 * (i : Int) by omega, show 340 + 10 * (i : Int) + ((5 : Nat) : Int) = 344 + 10 * (i : Int) + 1 by omega, show 340 + 10 * (i : Int) + ((6 : Nat) : Int) = 344 + 10 * (i : Int) + 2 by omega, show 340 + 10 * (i : Int) + ((7 : Nat) : Int) = 344 + 10 * (i : Int) + 3 by omega]
  have okb : bOk (rgA σ (i : Int)).1 := (hR.1 i hi).1
  have okp : bOk (x, x, y, y) := ⟨hx.1, Int.le_refl _, hx.2, hy.1, Int.le_refl _, hy.2⟩
  have s2b : ∀ a j, a ≠ 144 → a ≠ 147 → bxA s2 a j = bxA s1 a j := fun a j h1 h2 => by
    unfold bxA
    rw [g2 a _ (Or.inl h1) (Or.inl h2), g2 a _ (Or.inl h1) (Or.inl h2), g2 a _ (Or.inl h1) (Or.inl h2), g2 a _ (Or.inl h1) (Or.inl h2)]
  generalize hs3 : zb s2 157 0 (x, x, y, y) = s3
  have b3 : bxA s3 156 0 = (rgA σ (i : Int)).1 := by rw [← hs3, zb_bxa (by decide), s2b _ _ (by decide) (by decide)]; exact gb
  have p3 : bxA s3 157 0 = (x, x, y, y) := by rw [← hs3]; exact zb_bx rfl
  have h3' : bxA s3 156 4 = (rgA σ (i : Int)).2.1 := by rw [← hs3, zb_bxa (by decide), s2b _ _ (by decide) (by decide)]; exact gh
  generalize hC : bRest (rgA σ (i : Int)).1 (x, x, y, y) = C
  have okC : ∀ p ∈ C, bOk p ∧ bSub p (rgA σ (i : Int)).1 := fun p hp => bRest_sub okb okp (by rw [hC]; exact hp)
  have hsep : C.Pairwise (bSep [(x, x, y, y)]) := by rw [← hC]; exact bRest_sep okb okp _ List.mem_cons_self
  have hCC : C.Pairwise (fun a b => ¬ bMt a b) := List.Pairwise.imp_of_mem (fun {a b} ha hb hab => bSep_not (okC a ha).1 (okC b hb).1 hab) hsep
  have hlC : C.length ≤ 4 := by
    have := bRest_len (rgA σ (i : Int)).1 (x, x, y, y)
    rw [hC] at this
    refine Nat.le_trans this ?_
    split <;> split <;> split <;> omega
  have hR4 : RI (zbs 151 s3 0 C) (N - 1) := RI_of g1 (fun k hk => by
    unfold rgA
    dsimp only
    rw [zbs_bx (Or.inl (by decide)), zbs_bx (Or.inl (by decide)), ← hs3, zb_bxa (by decide), zb_bxa (by decide)]
    exact ⟨rfl, rfl⟩)
  obtain ⟨s5, k1, k2, k3, k4⟩ := s_cut86 (C := C) (gh := (rgA σ (i : Int)).2.1) (w := s1 147 (121 + (i : Int))) ((hR.1 i hi).2.imp id (fun h => h.1)) (fun p hp => (okC p hp).1) hCC hlC C [] zK (N - 1) (zbs 151 s3 0 C) rfl (by show _ < 1000000; omega) (by rw [zbs_bx (Or.inl (by decide))]; exact h3') (fun k hk => by
      have := zbs_get (t := 151) C s3 0 k hk
      rw [Int.zero_add] at this
      exact this) hR4 (by rw [zbs_fr _ _ _ _ _ (Or.inl (by decide)), ← hs3, zb_a (by decide)]; exact hN2') (by omega) (fun k hk p hp hm => by
      have eb : (rgA (zbs 151 s3 0 C) (k : Int)).1 = (rgA s2 (k : Int)).1 := by
        show bxA _ 144 _ = bxA _ 144 _
        rw [zbs_bx (Or.inl (by decide)), ← hs3, zb_bxa (by decide)]
      rw [eb] at hm
      obtain ⟨t, t1, t2, t3⟩ := g3 k hk
      have t4 : (rgA s1 (t : Int)).1 = (rgA σ (t : Int)).1 := by
        show bxA _ 144 _ = bxA _ 144 _
        unfold bxA
        rw [e2 144 _ (by decide), e2 144 _ (by decide), e2 144 _ (by decide), e2 144 _ (by decide)]
      rw [t3, t4] at hm
      have hm2 : bMt (rgA σ (t : Int)).1 (rgA σ (i : Int)).1 := bMt_sub ⟨Int.le_refl _, Int.le_refl _, Int.le_refl _, Int.le_refl _⟩ (okC p hp).2 hm
      rcases Nat.lt_or_ge t i with c | c
      · exact hR.2 t i c hi hm2
      · exact hR.2 i t (by omega) t1 (bMt_comm hm2))
  refine ⟨s5, N - 1 + C.length, ?_, k2, k3, by omega, fun a j h1 h2 h3 h4 h5 => ?_⟩
  · have e1' : g_m_cuts (i : Int) x y σ = g_m_cuts_L3 1 (i : Int) x y 10 s1 := e1
    rw [e1']
    unfold g_m_cuts_L3
    rw [if_pos (by decide), w32_id (x := 121 + (i : Int)) (by omega) (by omega), if_pos (by omega), s_goes hi hN1 (by omega), hs2]
    rw [Option.bind_some]
    try dsimp only
    rw [s_sets (by omega) (by omega) (by omega), hs3]
    rw [Option.bind_some]
    try dsimp only
    rw [s_rests (by rw [b3]; exact okb) (by rw [p3]; exact okp) (by decide) (by decide) (by omega) (by omega) (by omega) (by omega) (by omega) (by omega) (by omega) (by omega) (by omega), b3, p3, hC]
    rw [Option.bind_some]
    try dsimp only
    exact k1
  · rw [k4 a j h1 h2 h3 h4 h5, zbs_fr _ _ _ _ _ (Or.inl h3), ← hs3, zb_a h5, g2 a j (by omega) (by omega)]
    exact e2 a j h4
theorem s_writes2 {σ : zS} {N : Nat} {x y : Int} (hR : RI σ N) (hN : σ 144 0 = (N : Int)) (hN2 : N ≤ 100) (hx : 0 ≤ x ∧ x ≤ 31) (hy : 0 ≤ y ∧ y ≤ 31) : ∀ (d k n : Nat), k + d = N → d < n → ∃ s N', g_m_writes_L2 n x y (k : Int) σ = some ((), s) ∧ RI s N' ∧ s 144 0 = (N' : Int) ∧ N' ≤ N + 3 ∧ frW σ s
  | _, _, 0, _, h => absurd h (Nat.not_lt_zero _)
  | 0, k, n + 1, hk, _ => by
    refine ⟨σ, N, ?_, hR, hN, by omega, frW.refl σ⟩
    unfold g_m_writes_L2
    simp only [hN]
    rw [if_pos (by omega)]
  | d + 1, k, n + 1, hk, hn => by
    have l := l144
    have hkN : k < N := by omega
    unfold g_m_writes_L2
    simp only [hN]
    rw [if_neg (by omega), s_region (by omega) (by omega)]
    rw [Option.bind_some]
    try dsimp only
    rw [s_has (by omega) (by omega) (by omega)]
    rw [Option.bind_some]
    try dsimp only
    by_cases c : bIn (bxA σ 144 (340 + 10 * (k : Int))) x y
    · rw [if_pos c, if_pos (by decide)]
      generalize hs1 : zu σ 144 7 (w32 (σ 144 7 + 1)) = s1
      have f1 : ∀ a j, (a ≠ 144 ∨ j ≠ 7) → s1 a j = σ a j := fun a j h => by rw [← hs1]; exact zu_c h
      have hR1 : RI s1 N := RI_of hR (fun t ht => by
        rw [← hs1]
        exact ⟨zu_bxi (by omega), zu_bxi (by omega)⟩)
      have hN1 : s1 144 0 = (N : Int) := (f1 144 0 (by omega)).trans hN
      have fr1 : frW σ s1 := fun a j h1 _ _ _ _ => f1 a j (by omega)
      show ∃ s N', (if s1 144 14 ≠ 1 then g_m_writes_L62 x y (k : Int) s1 else (g_m_goes (k : Int) s1).bind _) = _ ∧ _
      by_cases c1 : s1 144 14 = 1
      · obtain ⟨g1, g2, -⟩ := RI_goes hR1 hkN (by omega)
        refine ⟨zu (gS2 s1 (k : Int) (N : Int) 0) 144 0 ((N : Int) - 1), N - 1, ?_, g1, ?_, by omega, ?_⟩
        · rw [if_neg (fun e => e c1), s_goes hkN hN1 (by omega)]
          rw [Option.bind_some]
          try dsimp only
          unfold g_m_writes_L62
          have e14 : zu (gS2 s1 (k : Int) (N : Int) 0) 144 0 ((N : Int) - 1) 144 14 = 1 := by rw [g2 144 14 (by omega) (Or.inl (by decide))]; exact c1
          simp only [e14]
          rw [if_pos (by decide)]
        · rw [zu_e rfl]; omega
        · exact fr1.trans (fun a j h1 h2 _ _ _ => g2 a j h1 h2)
      · rw [if_pos c1]
        unfold g_m_writes_L62
        show ∃ s N', (if s1 144 14 ≠ 2 then _ else _) = _ ∧ _
        by_cases c2 : s1 144 14 = 2
        · rw [if_neg (fun e => e c2)]
          obtain ⟨s2, N2, q1, q2, q3, q4, q5⟩ := s_cuts hR1 hN1 hkN hN2 hx hy
          rw [q1]
          exact ⟨s2, N2, rfl, q2, q3, q4, fr1.trans q5⟩
        · rw [if_pos c2]
          exact ⟨s1, N, rfl, hR1, hN1, by omega, fr1⟩
    · rw [if_neg c, if_neg (by decide), w32_id (x := (k : Int) + 1) (by omega) (by omega)]
      have ih := s_writes2 hR hN hN2 hx hy d (k + 1) n (by omega) (by omega)
      rw [show ((k + 1 : Nat) : Int) = (k : Int) + 1 by omega] at ih
      exact ih
theorem s_writes {σ : zS} {N : Nat} {x y : Int} (hR : RI σ N) (hN : σ 144 0 = (N : Int)) (hN2 : N ≤ 100) (hx : 0 ≤ x ∧ x ≤ 31) (hy : 0 ≤ y ∧ y ≤ 31) : ∃ s N', g_m_writes x y σ = some ((), s) ∧ RI s N' ∧ s 144 0 = (N' : Int) ∧ N' ≤ N + 3 ∧ frW σ s := s_writes2 hR hN hN2 hx hy N 0 zK (by omega) (by show _ < 1000000; omega)
end
section
/-! 42.refc -/
/-! THE REFERENCE over the typed memory: what always holds of it; rows come and go, watches -/
/-- of the head of the row of ints: settings, counts, rows' places, the trace -/
def HI (σ : zS) : Prop := (1 ≤ σ 144 12 ∧ σ 144 12 ≤ 99) ∧ (1 ≤ σ 144 13 ∧ σ 144 13 ≤ 12) ∧ (0 ≤ σ 144 8 ∧ σ 144 8 ≤ 60) ∧ (0 ≤ σ 144 9 ∧ σ 144 9 ≤ 10) ∧ (0 ≤ σ 144 10 ∧ σ 144 10 ≤ 6) ∧ (∀ t : Nat, (t : Int) < σ 144 9 → bOk (bxA σ 144 (260 + 4 * (t : Int)))) ∧ (∀ r : Nat, r < 60 → (0 ≤ σ 144 (21 + 3 * (r : Int)) ∧ σ 144 (21 + 3 * (r : Int)) ≤ 31) ∧ (0 ≤ σ 144 (22 + 3 * (r : Int)) ∧ σ 144 (22 + 3 * (r : Int)) ≤ 31))
theorem HI_fr {σ s : zS} (h : HI σ) (e : ∀ j : Int, (9 ≤ j ∧ j < 200) ∨ (260 ≤ j ∧ j < 340) → s 144 j = σ 144 j) (h8 : 0 ≤ s 144 8 ∧ s 144 8 ≤ 60) : HI s := by
  obtain ⟨h1, h2, h3, h4, h5, h6, h7⟩ := h
  refine ⟨by rw [e 12 (by omega)]; exact h1, by rw [e 13 (by omega)]; exact h2, h8, by rw [e 9 (by omega)]; exact h4, by rw [e 10 (by omega)]; exact h5, fun t ht => ?_, fun r hr => ?_⟩
  · rw [e 9 (by omega)] at ht
    unfold bxA
    rw [e _ (by omega), e _ (by omega), e _ (by omega), e _ (by omega)]
    exact h6 t ht
  · rw [e _ (by omega), e _ (by omega)]
    exact h7 r hr
theorem HI_fr8 {σ s : zS} (h : HI σ) (e : ∀ j : Int, 8 ≤ j → j < 340 → s 144 j = σ 144 j) : HI s := HI_fr h (fun j hj => e j (by omega) (by omega)) (by rw [e 8 (by omega) (by omega)]; exact h.2.2.1)
/-- of the regions -/
def NI (σ : zS) : Prop := ∃ N : Nat, N ≤ 12 ∧ σ 144 0 = (N : Int) ∧ RI σ N
theorem NI_fr {σ s : zS} (h : NI σ) (e : ∀ j : Int, j = 0 ∨ (340 ≤ j ∧ j < 2740) → s 144 j = σ 144 j) : NI s := by
  obtain ⟨N, h1, h2, h3⟩ := h
  refine ⟨N, h1, by rw [e 0 (Or.inl rfl)]; exact h2, RI_of h3 (fun k hk => ?_)⟩
  unfold rgA bxA
  dsimp only
  rw [e _ (by omega), e _ (by omega), e _ (by omega), e _ (by omega), e _ (by omega), e _ (by omega), e _ (by omega), e _ (by omega)]
  exact ⟨rfl, rfl⟩
theorem s_isWatch {k : Int} {σ : zS} (h : 0 ≤ σ 144 10 ∧ σ 144 10 ≤ 6) : g_m_isWatch k σ = some (if 0 ≤ k ∧ k < σ 144 10 then 1 else 0, σ) := by
  unfold g_m_isWatch
  show (g_m_isIn k 0 (w32 (σ 144 10 - 1)) σ).bind _ = _
  rw [w32_id (x := σ 144 10 - 1) (by omega) (by omega)]
  by_cases c : 0 ≤ k ∧ k < σ 144 10
  · rw [s_isIn_t c.1 (by omega), if_pos c]
    rw [Option.bind_some]
    try dsimp only
    rw [if_pos (Or.inr rfl)]
  · rw [s_isIn_f (by omega), if_neg c]
    rw [Option.bind_some]
    try dsimp only
    rw [if_pos (Or.inl rfl)]
theorem s_value {k : Int} {σ : zS} (h : 0 ≤ σ 144 10 ∧ σ 144 10 ≤ 6) : ∃ v s, g_m_value k σ = some (v, s) ∧ frG σ s := by
  have l := l144
  unfold g_m_value
  rw [s_isWatch h]
  rw [Option.bind_some]
  try dsimp only
  by_cases c : 0 ≤ k ∧ k < σ 144 10
  · rw [if_pos c, if_pos (by decide), w32_id (x := 6 * k) (by omega) (by omega), w32_id (x := 300 + 6 * k) (by omega) (by omega), w32_id (x := 300 + 6 * k + 1) (by omega) (by omega)]
    obtain ⟨s, m, e1, e2, e3, e4, e5⟩ := s_gathers (a := 144) (i := 300 + 6 * k + 1) (t := -1) (σ := σ) (by omega) (by omega) (by omega) (Or.inl (by decide))
    rw [e1]
    rw [Option.bind_some]
    try dsimp only
    rw [if_pos (by omega)]
    obtain ⟨v, o, f⟩ := s_measured (s 144 (300 + 6 * k)) e4 e2
    show ∃ v s', (g_m_measured (s 144 (300 + 6 * k)) s).bind _ = _ ∧ _
    rw [f]
    exact ⟨v, _, rfl, e3.trans frG.of15⟩
  · rw [if_neg c, if_neg (by decide)]
    exact ⟨_, σ, rfl, frG.refl σ⟩
/-- what valuing watches writes -/
def frV (σ s : zS) : Prop := ∀ a j, (a ≠ 143 ∨ (j ≠ 14 ∧ j ≠ 15 ∧ j ≠ 21 ∧ j ≠ 22 ∧ j ≠ 23)) → a ≠ 154 → a ≠ 155 → a ≠ 158 → s a j = σ a j
theorem s_values2 {σ : zS} {W : Nat} (hW : σ 144 10 = (W : Int)) (hW2 : W ≤ 6) : ∀ (d k n : Nat) (s : zS), k + d = W → d < n → frV σ s → ∃ s', g_m_values_L2 n (k : Int) s = some ((), s') ∧ frV σ s'
  | _, _, 0, _, _, h, _ => absurd h (Nat.not_lt_zero _)
  | 0, k, n + 1, s, hk, _, hf => by
    refine ⟨s, ?_, hf⟩
    unfold g_m_values_L2
    simp only [hf 144 10 (Or.inl (by decide)) (by decide) (by decide) (by decide), hW]
    rw [if_pos (by omega)]
  | d + 1, k, n + 1, s, hk, hn, hf => by
    have e10 : s 144 10 = (W : Int) := (hf 144 10 (Or.inl (by decide)) (by decide) (by decide) (by decide)).trans hW
    obtain ⟨v, s1, e1, e2⟩ := s_value (k := (k : Int)) (σ := s) (by omega)
    obtain ⟨s', f1, f2⟩ := s_values2 hW hW2 d (k + 1) n (zu s1 158 (k : Int) v) (by omega) (by omega) (fun a j h1 h2 h3 h4 => by rw [zu_a h4, e2 a j h1 h2 h3]; exact hf a j h1 h2 h3 h4)
    refine ⟨s', ?_, f2⟩
    unfold g_m_values_L2
    simp only [e10]
    rw [if_neg (by omega), e1]
    rw [Option.bind_some]
    try dsimp only
    rw [if_pos (by omega), w32_id (x := (k : Int) + 1) (by omega) (by omega)]
    rw [show ((k + 1 : Nat) : Int) = (k : Int) + 1 by omega] at f1
    exact f1
theorem s_values {σ : zS} (h : 0 ≤ σ 144 10 ∧ σ 144 10 ≤ 6) : ∃ s, g_m_values σ = some ((), s) ∧ frV σ s := by
  obtain ⟨W, hW⟩ : ∃ W : Nat, σ 144 10 = (W : Int) := ⟨(σ 144 10).toNat, by omega⟩
  exact s_values2 hW (by omega) W 0 zK σ (by omega) (by show _ < 1000000; omega) (fun _ _ _ _ _ _ => rfl)
/-- what the end of a write of a row leaves as it was -/
def frB (σ s : zS) : Prop := ∀ a j, (a ≠ 144 ∨ (8 ≤ j ∧ j < 300)) → (a ≠ 147 ∨ (1 ≤ j ∧ j < 121)) → (a ≠ 143 ∨ (j ≠ 14 ∧ j ≠ 15 ∧ j ≠ 21 ∧ j ≠ 22 ∧ j ≠ 23)) → a ≠ 154 → a ≠ 155 → a ≠ 158 → s a j = σ a j
theorem s_behind6 {σ : zS} {W : Nat} (hW : σ 144 10 = (W : Int)) (hW2 : W ≤ 6) : ∀ (d k n : Nat) (s : zS), k + d = W → d < n → s 144 10 = (W : Int) → ∃ v s', g_m_behind_L6 n (k : Int) s = some (v, s') ∧ v = s 144 0 ∧ ∀ a j, (a ≠ 144 ∨ j < 300 ∨ 340 ≤ j) → (a ≠ 143 ∨ (j ≠ 14 ∧ j ≠ 15 ∧ j ≠ 21 ∧ j ≠ 22 ∧ j ≠ 23)) → a ≠ 154 → a ≠ 155 → s' a j = s a j
  | _, _, 0, _, _, h, _ => absurd h (Nat.not_lt_zero _)
  | 0, k, n + 1, s, hk, _, h10 => by
    refine ⟨s 144 0, s, ?_, rfl, fun _ _ _ _ _ _ => rfl⟩
    unfold g_m_behind_L6
    simp only [h10]
    rw [if_pos (by omega)]
  | d + 1, k, n + 1, s, hk, hn, h10 => by
    obtain ⟨v, s1, e1, e2⟩ := s_value (k := (k : Int)) (σ := s) (by omega)
    have go : ∀ o : Int, ∃ v s', g_m_behind_L53 (g_m_behind_L6 n) (k : Int) o (s 144 (300 + 6 * (k : Int) + 5)) (300 + 6 * (k : Int) + 5) s1 = some (v, s') ∧ v = s 144 0 ∧ ∀ a j, (a ≠ 144 ∨ j < 300 ∨ 340 ≤ j) → (a ≠ 143 ∨ (j ≠ 14 ∧ j ≠ 15 ∧ j ≠ 21 ∧ j ≠ 22 ∧ j ≠ 23)) → a ≠ 154 → a ≠ 155 → s' a j = s a j := by
      intro o
      generalize hs2 : zu s1 144 (300 + 6 * (k : Int) + 5) (w32 (s 144 (300 + 6 * (k : Int) + 5) + o)) = s2
      have f2 : ∀ a j, (a ≠ 144 ∨ j < 300 ∨ 340 ≤ j) → (a ≠ 143 ∨ (j ≠ 14 ∧ j ≠ 15 ∧ j ≠ 21 ∧ j ≠ 22 ∧ j ≠ 23)) → a ≠ 154 → a ≠ 155 → s2 a j = s a j := fun a j h1 h2 h3 h4 => by
        rw [← hs2, zu_c (by omega)]
        exact e2 a j h2 h3 h4
      obtain ⟨v', s', g1, g2, g3⟩ := s_behind6 hW hW2 d (k + 1) n s2 (by omega) (by omega) ((f2 144 10 (by omega) (Or.inl (by decide)) (by decide) (by decide)).trans h10)
      refine ⟨v', s', ?_, ?_, fun a j h1 h2 h3 h4 => (g3 a j h1 h2 h3 h4).trans (f2 a j h1 h2 h3 h4)⟩
      · unfold g_m_behind_L53
        rw [if_pos (by omega), w32_id (x := (k : Int) + 1) (by omega) (by omega)]
        rw [show ((k + 1 : Nat) : Int) = (k : Int) + 1 by omega, ← hs2] at g1
        exact g1
      · rw [g2]
        exact f2 144 0 (by omega) (Or.inl (by decide)) (by decide) (by decide)
    unfold g_m_behind_L6
    simp only [h10]
    rw [if_neg (by omega), w32_id (x := 6 * (k : Int)) (by omega) (by omega), w32_id (x := 300 + 6 * (k : Int)) (by omega) (by omega), w32_id (x := 300 + 6 * (k : Int) + 5) (by omega) (by omega), if_pos (by omega), e1]
    rw [Option.bind_some]
    try dsimp only
    rw [if_pos (by omega)]
    split
    · exact go 0
    · exact go 1
theorem s_behind {σ : zS} {N : Nat} (hH : HI σ) (hR : RI σ N) (hN : σ 144 0 = (N : Int)) (hN2 : N ≤ 239) : ∃ v s, g_m_behind σ = some (v, s) ∧ NI s ∧ v = s 144 0 ∧ frB σ s := by
  obtain ⟨h12, h13, h8, h9, h10, -, -⟩ := hH
  obtain ⟨s1, N', e1, e2, e3, e4, e5, e6⟩ := s_trims hR hN hN2 h13.1 h12.1
  obtain ⟨W, hW⟩ : ∃ W : Nat, σ 144 10 = (W : Int) := ⟨(σ 144 10).toNat, by omega⟩
  obtain ⟨v, s2, f1, f2, f3⟩ := s_behind6 hW (by omega) W 0 zK s1 (by omega) (by show _ < 1000000; omega) ((e5 144 10 (by omega) (Or.inl (by decide))).trans hW)
  have n1 : NI s1 := ⟨N', by omega, e4, e3⟩
  refine ⟨v, s2, ?_, NI_fr n1 (fun j hj => f3 144 j (by omega) (Or.inl (by decide)) (by decide) (by decide)), ?_, fun a j h1 h2 h3 h4 h5 h6 => ?_⟩
  · unfold g_m_behind
    rw [e1]
    exact f1
  · rw [f2, f3 144 0 (by omega) (Or.inl (by decide)) (by decide) (by decide)]
  · rw [f3 a j (by omega) h3 h4 h5, e5 a j (by omega) h2]
theorem s_isRow {r : Int} {σ : zS} : g_m_isRow r σ = some (if 0 ≤ r ∧ r < 60 then 1 else 0, σ) := by
  unfold g_m_isRow
  by_cases c : 0 ≤ r ∧ r < 60
  · rw [s_isIn_t c.1 (by omega), if_pos c]
    rw [Option.bind_some]
    try dsimp only
    rw [if_pos (Or.inr rfl)]
  · rw [s_isIn_f (by omega), if_neg c]
    rw [Option.bind_some]
    try dsimp only
    rw [if_pos (Or.inl rfl)]
theorem s_out {σ : zS} {N : Nat} {r : Int} (hH : HI σ) (hR : RI σ N) (hN : σ 144 0 = (N : Int)) (hN2 : N ≤ 100) (hr : 0 ≤ r ∧ r < 60) : ∃ s N', g_m_out r σ = some ((), s) ∧ RI s N' ∧ s 144 0 = (N' : Int) ∧ N' ≤ N + 3 ∧ frW (zu σ 144 (20 + 3 * r) 0) s := by
  obtain ⟨k, rfl⟩ : ∃ k : Nat, r = (k : Int) := ⟨r.toNat, by omega⟩
  obtain ⟨hx, hy⟩ := hH.2.2.2.2.2.2 k (by omega)
  generalize hs1 : zu σ 144 (20 + 3 * (k : Int)) 0 = s1
  have e21 : s1 144 (21 + 3 * (k : Int)) = σ 144 (21 + 3 * (k : Int)) := by rw [← hs1]; exact zu_i (by omega)
  have e22 : s1 144 (22 + 3 * (k : Int)) = σ 144 (22 + 3 * (k : Int)) := by rw [← hs1]; exact zu_i (by omega)
  have hR1 : RI s1 N := RI_of hR (fun t ht => by
    rw [← hs1]
    exact ⟨zu_bxi (by omega), zu_bxi (by omega)⟩)
  have hN1 : s1 144 0 = (N : Int) := by rw [← hs1, zu_i (by omega)]; exact hN
  obtain ⟨s, N', g1, g2, g3, g4, g5⟩ := s_writes (x := σ 144 (21 + 3 * (k : Int))) (y := σ 144 (22 + 3 * (k : Int))) hR1 hN1 hN2 hx hy
  refine ⟨s, N', ?_, g2, g3, g4, g5⟩
  unfold g_m_out
  rw [s_rowAt (by omega) (by omega)]
  rw [Option.bind_some]
  try dsimp only
  rw [if_pos (by omega), s_rowAt (by omega) (by omega)]
  rw [Option.bind_some]
  try dsimp only
  rw [w32_id (x := 20 + 3 * (k : Int) + 1) (by omega) (by omega), if_pos (by omega), s_rowAt (by omega) (by omega)]
  rw [Option.bind_some]
  try dsimp only
  rw [w32_id (x := 20 + 3 * (k : Int) + 2) (by omega) (by omega), if_pos (by omega), hs1, show 20 + 3 * (k : Int) + 1 = 21 + 3 * (k : Int) by omega, show 20 + 3 * (k : Int) + 2 = 22 + 3 * (k : Int) by omega, e21, e22, g1]
  rfl
/-- what put() and take() leave as it was -/
def frP (σ s : zS) : Prop := ∀ a j, (a ≠ 144 ∨ (8 ≤ j ∧ j < 20) ∨ (200 ≤ j ∧ j < 300)) → (a ≠ 147 ∨ (61 ≤ j ∧ j < 121)) → (a ≠ 143 ∨ (j ≠ 14 ∧ j ≠ 15 ∧ j ≠ 21 ∧ j ≠ 22 ∧ j ≠ 23)) → a ≠ 151 → a ≠ 154 → a ≠ 155 → a ≠ 156 → a ≠ 157 → a ≠ 158 → s a j = σ a j
theorem HI_P {σ s : zS} (h : HI σ) (e : ∀ j : Int, (8 ≤ j ∧ j < 20) ∨ (200 ≤ j ∧ j < 300) → s 144 j = σ 144 j) (hr : ∀ r : Nat, r < 60 → (0 ≤ s 144 (21 + 3 * (r : Int)) ∧ s 144 (21 + 3 * (r : Int)) ≤ 31) ∧ (0 ≤ s 144 (22 + 3 * (r : Int)) ∧ s 144 (22 + 3 * (r : Int)) ≤ 31)) : HI s := by
  obtain ⟨h1, h2, h3, h4, h5, h6, h7⟩ := h
  refine ⟨by rw [e 12 (by omega)]; exact h1, by rw [e 13 (by omega)]; exact h2, by rw [e 8 (by omega)]; exact h3, by rw [e 9 (by omega)]; exact h4, by rw [e 10 (by omega)]; exact h5, fun t ht => ?_, hr⟩
  rw [e 9 (by omega)] at ht
  unfold bxA
  rw [e _ (by omega), e _ (by omega), e _ (by omega), e _ (by omega)]
  exact h6 t ht
theorem s_put72 {σ : zS} {N : Nat} {r x y v : Int} (hH : HI σ) (hR : RI σ N) (hN : σ 144 0 = (N : Int)) (hN2 : N ≤ 100) (hr : 0 ≤ r ∧ r < 60) (hx : 0 ≤ x ∧ x ≤ 31) (hy : 0 ≤ y ∧ y ≤ 31) : ∃ c s, g_m_put_L72 r x y v σ = some (c, s) ∧ NI s ∧ HI s ∧ frP σ s := by
  obtain ⟨k, rfl⟩ : ∃ k : Nat, r = (k : Int) := ⟨r.toNat, by omega⟩
  generalize hs1 : zu (zu (zu (zu σ 144 (20 + 3 * (k : Int)) 1) 144 (21 + 3 * (k : Int)) x) 144 (22 + 3 * (k : Int)) y) 147 (1 + (k : Int)) v = s1
  have f1 : ∀ a j, (a ≠ 144 ∨ j < 20 + 3 * (k : Int) ∨ 23 + 3 * (k : Int) ≤ j) → (a ≠ 147 ∨ j ≠ 1 + (k : Int)) → s1 a j = σ a j := fun a j h1 h2 => by
    rw [← hs1, zu_c h2, zu_c (by omega), zu_c (by omega), zu_c (by omega)]
  have rows1 : ∀ t : Nat, t < 60 → (0 ≤ s1 144 (21 + 3 * (t : Int)) ∧ s1 144 (21 + 3 * (t : Int)) ≤ 31) ∧ (0 ≤ s1 144 (22 + 3 * (t : Int)) ∧ s1 144 (22 + 3 * (t : Int)) ≤ 31) := fun t ht => by
    by_cases c : t = k
    · subst c
      have e1 : s1 144 (21 + 3 * (t : Int)) = x := by rw [← hs1, zu_a (by decide), zu_i (by omega), zu_e rfl]
      have e2 : s1 144 (22 + 3 * (t : Int)) = y := by rw [← hs1, zu_a (by decide), zu_e rfl]
      rw [e1, e2]
      exact ⟨hx, hy⟩
    · rw [f1 144 _ (by omega) (Or.inl (by decide)), f1 144 _ (by omega) (Or.inl (by decide))]
      exact hH.2.2.2.2.2.2 t ht
  have hH1 : HI s1 := HI_P hH (fun j hj => f1 144 j (by omega) (Or.inl (by decide))) rows1
  have hR1 : RI s1 N := RI_of hR (fun t ht => by
    unfold rgA bxA
    dsimp only
    rw [f1 144 _ (by omega) (Or.inl (by decide)), f1 144 _ (by omega) (Or.inl (by decide)), f1 144 _ (by omega) (Or.inl (by decide)), f1 144 _ (by omega) (Or.inl (by decide)), f1 144 _ (by omega) (Or.inl (by decide)), f1 144 _ (by omega) (Or.inl (by decide)), f1 144 _ (by omega) (Or.inl (by decide)), f1 144 _ (by omega) (Or.inl (by decide))]
    exact ⟨rfl, rfl⟩)
  have hN1 : s1 144 0 = (N : Int) := (f1 144 0 (by omega) (Or.inl (by decide))).trans hN
  obtain ⟨s2, N2, g1, g2, g3, g4, g5⟩ := s_writes hR1 hN1 hN2 hx hy
  have hH2 : HI s2 := HI_fr8 hH1 (fun j h1 h2 => g5 144 j (Or.inr ⟨h1, h2⟩) (Or.inl (by decide)) (by decide) (by decide) (by decide))
  obtain ⟨c, s3, k1, k2, k3, k4⟩ := s_behind hH2 g2 g3 (by omega)
  have e3 : ∀ j : Int, 8 ≤ j → j < 300 → s3 144 j = s1 144 j := fun j h1 h2 => by
    rw [k4 144 j (by omega) (Or.inl (by decide)) (Or.inl (by decide)) (by decide) (by decide) (by decide)]
    exact g5 144 j (by omega) (Or.inl (by decide)) (by decide) (by decide) (by decide)
  refine ⟨c, s3, ?_, k2, HI_P hH1 (fun j hj => e3 j (by omega) (by omega)) (fun t ht => by rw [e3 _ (by omega) (by omega), e3 _ (by omega) (by omega)]; exact rows1 t ht), fun a j h1 h2 h3 h4 h5 h6 h7 h8 h9 => ?_⟩
  · unfold g_m_put_L72
    rw [s_rowAt (by omega) (by omega)]
    rw [Option.bind_some]
    try dsimp only
    rw [if_pos (by omega), s_rowAt (by omega) (by omega)]
    rw [Option.bind_some]
    try dsimp only
    rw [w32_id (x := 20 + 3 * (k : Int) + 1) (by omega) (by omega), if_pos (by omega), s_rowAt (by omega) (by omega)]
    rw [Option.bind_some]
    try dsimp only
    rw [w32_id (x := 20 + 3 * (k : Int) + 2) (by omega) (by omega), if_pos (by omega), w32_id (x := 1 + (k : Int)) (by omega) (by omega), if_pos (by omega), show 20 + 3 * (k : Int) + 1 = 21 + 3 * (k : Int) by omega, show 20 + 3 * (k : Int) + 2 = 22 + 3 * (k : Int) by omega, hs1, g1]
    rw [Option.bind_some]
    try dsimp only
    rw [k1]
    rfl
  · rw [k4 a j (by omega) (by omega) h3 h5 h6 h9, g5 a j (by omega) (by omega) h4 h7 h8]
    exact f1 a j (by omega) (by omega)
theorem HI_V {σ s : zS} (h : HI σ) (e : frV σ s) : HI s := HI_fr8 h (fun j _ _ => e 144 j (Or.inl (by decide)) (by decide) (by decide) (by decide))
theorem s_put {σ : zS} {r x y v : Int} (hH : HI σ) (hI : NI σ) : ∃ c s, g_m_put r x y v σ = some (c, s) ∧ NI s ∧ HI s ∧ frP σ s := by
  have same : ∀ c : Int, ∃ c' s, (some (c, σ) : Option (Int × zS)) = some (c', s) ∧ NI s ∧ HI s ∧ frP σ s := fun c => ⟨c, σ, rfl, hI, hH, fun _ _ _ _ _ _ _ _ _ _ _ => rfl⟩
  unfold g_m_put
  rw [s_isRow]
  rw [Option.bind_some]
  try dsimp only
  by_cases c1 : 0 ≤ r ∧ r < 60
  · rw [if_pos c1, if_pos (by decide)]
    by_cases c2 : 0 ≤ x ∧ x ≤ 31
    · rw [s_isIn_t c2.1 c2.2]
      rw [Option.bind_some]
      try dsimp only
      rw [if_neg (by decide)]
      by_cases c3 : 0 ≤ y ∧ y ≤ 31
      · rw [s_isIn_t c3.1 c3.2]
        rw [Option.bind_some]
        try dsimp only
        rw [if_neg (by decide)]
        split
        · exact same _
        · split
          · obtain ⟨s1, e1, e2⟩ := s_values (σ := σ) hH.2.2.2.2.1
            rw [e1]
            rw [Option.bind_some]
            try dsimp only
            rw [s_rowAt (by omega) (by omega)]
            rw [Option.bind_some]
            try dsimp only
            rw [if_pos (by omega)]
            have hH1 := HI_V hH e2
            have e144 : ∀ j, s1 144 j = σ 144 j := fun j => e2 144 j (Or.inl (by decide)) (by decide) (by decide) (by decide)
            obtain ⟨N, n1, n2, n3⟩ := NI_fr (s := s1) hI (fun j _ => e144 j)
            have fin : ∀ (s : zS), frP s1 s → frP σ s := fun s h a j k1 k2 k3 k4 k5 k6 k7 k8 k9 => (h a j k1 k2 k3 k4 k5 k6 k7 k8 k9).trans (e2 a j k3 k5 k6 k9)
            split
            · obtain ⟨c, s, g1, g2, g3, g4⟩ := s_put72 (v := v) hH1 n3 n2 (by omega) c1 c2 c3
              exact ⟨c, s, g1, g2, g3, fin s g4⟩
            · obtain ⟨s2, N2, g1, g2, g3, g4, g5⟩ := s_out hH1 n3 n2 (by omega) c1
              rw [g1]
              rw [Option.bind_some]
              try dsimp only
              have z1 : HI (zu s1 144 (20 + 3 * r) 0) := HI_P hH1 (fun j hj => zu_i (by omega)) (fun t ht => by rw [zu_i (by omega), zu_i (by omega)]; exact hH1.2.2.2.2.2.2 t ht)
              have hH2 : HI s2 := HI_fr8 z1 (fun j h1 h2 => g5 144 j (Or.inr ⟨h1, h2⟩) (Or.inl (by decide)) (by decide) (by decide) (by decide))
              obtain ⟨c, s, k1, k2, k3, k4⟩ := s_put72 (v := v) hH2 g2 g3 (by omega) c1 c2 c3
              refine ⟨c, s, k1, k2, k3, fin s (fun a j h1 h2 h3 h4 h5 h6 h7 h8 h9 => ?_)⟩
              rw [k4 a j h1 h2 h3 h4 h5 h6 h7 h8 h9, g5 a j (by omega) (by omega) h4 h7 h8, zu_c (by omega)]
          · exact same _
      · rw [s_isIn_f (by omega)]
        exact same _
    · rw [s_isIn_f (by omega)]
      exact same _
  · rw [if_neg c1, if_neg (by decide)]
    exact same _
theorem s_take {σ : zS} {r : Int} (hH : HI σ) (hI : NI σ) : ∃ c s, g_m_take r σ = some (c, s) ∧ NI s ∧ HI s ∧ frP σ s := by
  have same : ∀ c : Int, ∃ c' s, (some (c, σ) : Option (Int × zS)) = some (c', s) ∧ NI s ∧ HI s ∧ frP σ s := fun c => ⟨c, σ, rfl, hI, hH, fun _ _ _ _ _ _ _ _ _ _ _ => rfl⟩
  unfold g_m_take
  rw [s_isRow]
  rw [Option.bind_some]
  try dsimp only
  by_cases c1 : 0 ≤ r ∧ r < 60
  · rw [if_pos c1, if_pos (by decide), s_rowAt (by omega) (by omega)]
    rw [Option.bind_some]
    try dsimp only
    rw [if_pos (by omega)]
    split
    · obtain ⟨s1, e1, e2⟩ := s_values (σ := σ) hH.2.2.2.2.1
      rw [e1]
      rw [Option.bind_some]
      try dsimp only
      have hH1 := HI_V hH e2
      have e144 : ∀ j, s1 144 j = σ 144 j := fun j => e2 144 j (Or.inl (by decide)) (by decide) (by decide) (by decide)
      obtain ⟨N, n1, n2, n3⟩ := NI_fr (s := s1) hI (fun j _ => e144 j)
      obtain ⟨s2, N2, g1, g2, g3, g4, g5⟩ := s_out hH1 n3 n2 (by omega) c1
      rw [g1]
      rw [Option.bind_some]
      try dsimp only
      have rz : ∀ t : Nat, t < 60 → (0 ≤ zu s1 144 (20 + 3 * r) 0 144 (21 + 3 * (t : Int)) ∧ zu s1 144 (20 + 3 * r) 0 144 (21 + 3 * (t : Int)) ≤ 31) ∧ (0 ≤ zu s1 144 (20 + 3 * r) 0 144 (22 + 3 * (t : Int)) ∧ zu s1 144 (20 + 3 * r) 0 144 (22 + 3 * (t : Int)) ≤ 31) := fun t ht => by rw [zu_i (by omega), zu_i (by omega)]; exact hH1.2.2.2.2.2.2 t ht
      have z1 : HI (zu s1 144 (20 + 3 * r) 0) := HI_P hH1 (fun j hj => zu_i (by omega)) rz
      have e5 : ∀ j : Int, 8 ≤ j → j < 340 → s2 144 j = zu s1 144 (20 + 3 * r) 0 144 j := fun j h1 h2 => g5 144 j (Or.inr ⟨h1, h2⟩) (Or.inl (by decide)) (by decide) (by decide) (by decide)
      have hH2 : HI s2 := HI_fr8 z1 e5
      obtain ⟨c, s, k1, k2, k3, k4⟩ := s_behind hH2 g2 g3 (by omega)
      rw [k1]
      have e6 : ∀ j : Int, 8 ≤ j → j < 300 → s 144 j = s2 144 j := fun j h1 h2 => k4 144 j (by omega) (Or.inl (by decide)) (Or.inl (by decide)) (by decide) (by decide) (by decide)
      refine ⟨c, s, rfl, k2, HI_P hH2 (fun j hj => e6 j (by omega) (by omega)) (fun t ht => by rw [e6 _ (by omega) (by omega), e6 _ (by omega) (by omega)]; exact hH2.2.2.2.2.2.2 t ht), fun a j h1 h2 h3 h4 h5 h6 h7 h8 h9 => ?_⟩
      rw [k4 a j (by omega) (by omega) h3 h5 h6 h9, g5 a j (by omega) (by omega) h4 h7 h8, zu_c (by omega)]
      exact e2 a j h3 h5 h6 h9
    · exact same _
  · rw [if_neg c1, if_neg (by decide)]
    exact same _
end
section
/-! 43.refd -/
/-! THE REFERENCE over the typed memory: kept and brought back; done again; the plain answers -/
def kpS (σ : zS) (a b : Nat) : zS := fun x j => if x = a ∧ 0 ≤ j ∧ j < 2740 then σ 144 j else if x = b ∧ 0 ≤ j ∧ j < 361 then σ 147 j else σ x j
theorem s_keeps26 {σ : zS} {a b : Nat} (ha : a ≠ 144 ∧ a ≠ 147 ∧ b ≠ 144 ∧ b ≠ 147 ∧ a ≠ b) : ∀ (d k n : Nat) (s : zS), k + d = 361 → d < n → s = (fun x j => if x = a ∧ 0 ≤ j ∧ j < 2740 then σ 144 j else if x = b ∧ 0 ≤ j ∧ j < (k : Int) then σ 147 j else σ x j) → g_m_keeps_L26 a b n (k : Int) s = some ((), kpS σ a b)
  | _, _, 0, _, _, h, _ => absurd h (Nat.not_lt_zero _)
  | 0, k, n + 1, s, hk, _, hs => by
    have : k = 361 := by omega
    subst this
    unfold g_m_keeps_L26
    rw [if_pos (by omega), hs]
    rfl
  | d + 1, k, n + 1, s, hk, hn, hs => by
    have e147 : s 147 (k : Int) = σ 147 (k : Int) := by
      rw [hs]
      show (if 147 = a ∧ _ then _ else if 147 = b ∧ _ then _ else _) = _
      rw [if_neg (fun e => ha.2.1 e.1.symm), if_neg (fun e => ha.2.2.2.1 e.1.symm)]
    have ih := s_keeps26 (σ := σ) ha d (k + 1) n (zu s b (k : Int) (s 147 (k : Int))) (by omega) (by omega) (by
      funext x j
      rw [e147, hs]
      unfold zu
      show (if x = b ∧ j = (k : Int) then σ 147 (k : Int) else if x = a ∧ 0 ≤ j ∧ j < 2740 then σ 144 j else if x = b ∧ 0 ≤ j ∧ j < (k : Int) then σ 147 j else σ x j) = if x = a ∧ 0 ≤ j ∧ j < 2740 then σ 144 j else if x = b ∧ 0 ≤ j ∧ j < ((k + 1 : Nat) : Int) then σ 147 j else σ x j
      by_cases hx : x = b
      · subst hx
        by_cases hj : j = (k : Int)
        · subst hj
          rw [if_pos ⟨rfl, rfl⟩, if_neg (fun e => ha.2.2.2.2 e.1.symm), if_pos ⟨rfl, by omega, by omega⟩]
        · have hna : ¬ (x = a ∧ 0 ≤ j ∧ j < 2740) := fun e => ha.2.2.2.2 e.1.symm
          rw [if_neg (fun e => hj e.2), if_neg hna, if_neg hna]
          by_cases hc : 0 ≤ j ∧ j < (k : Int)
          · rw [if_pos ⟨rfl, hc⟩, if_pos ⟨rfl, by omega, by omega⟩]
          · rw [if_neg (fun e => hc e.2), if_neg (fun e => hc ⟨e.2.1, by omega⟩)]
      · rw [if_neg (fun e => hx e.1), if_neg (show ¬ (x = b ∧ 0 ≤ j ∧ j < (k : Int)) from fun e => hx e.1), if_neg (show ¬ (x = b ∧ 0 ≤ j ∧ j < ((k + 1 : Nat) : Int)) from fun e => hx e.1)])
    unfold g_m_keeps_L26
    rw [if_neg (by omega), if_pos (by omega), if_pos (by omega), w32_id (x := (k : Int) + 1) (by omega) (by omega)]
    rw [show ((k + 1 : Nat) : Int) = (k : Int) + 1 by omega] at ih
    exact ih
theorem s_keeps2 {σ : zS} {a b : Nat} (ha : a ≠ 144 ∧ a ≠ 147 ∧ b ≠ 144 ∧ b ≠ 147 ∧ a ≠ b) : ∀ (d k n : Nat) (s : zS), k + d = 2740 → d < n → s = (fun x j => if x = a ∧ 0 ≤ j ∧ j < (k : Int) then σ 144 j else σ x j) → g_m_keeps_L2 a b n (k : Int) s = some ((), kpS σ a b)
  | _, _, 0, _, _, h, _ => absurd h (Nat.not_lt_zero _)
  | 0, k, n + 1, s, hk, _, hs => by
    have : k = 2740 := by omega
    subst this
    unfold g_m_keeps_L2
    rw [if_pos (by omega)]
    refine s_keeps26 ha 361 0 zK s (by omega) (by show _ < 1000000; omega) ?_
    rw [hs]
    funext x j
    show (if x = a ∧ 0 ≤ j ∧ j < 2740 then σ 144 j else σ x j) = if x = a ∧ 0 ≤ j ∧ j < 2740 then σ 144 j else if x = b ∧ 0 ≤ j ∧ j < ((0 : Nat) : Int) then σ 147 j else σ x j
    rw [if_neg (show ¬ (x = b ∧ 0 ≤ j ∧ j < ((0 : Nat) : Int)) from fun e => by omega)]
  | d + 1, k, n + 1, s, hk, hn, hs => by
    have e144 : s 144 (k : Int) = σ 144 (k : Int) := by
      rw [hs]
      show (if 144 = a ∧ _ then _ else _) = _
      rw [if_neg (fun e => ha.1 e.1.symm)]
    have ih := s_keeps2 (σ := σ) ha d (k + 1) n (zu s a (k : Int) (s 144 (k : Int))) (by omega) (by omega) (by
      funext x j
      rw [e144, hs]
      unfold zu
      show (if x = a ∧ j = (k : Int) then σ 144 (k : Int) else if x = a ∧ 0 ≤ j ∧ j < (k : Int) then σ 144 j else σ x j) = if x = a ∧ 0 ≤ j ∧ j < ((k + 1 : Nat) : Int) then σ 144 j else σ x j
      by_cases hx : x = a
      · subst hx
        by_cases hj : j = (k : Int)
        · subst hj
          rw [if_pos ⟨rfl, rfl⟩, if_pos ⟨rfl, by omega, by omega⟩]
        · rw [if_neg (fun e => hj e.2)]
          by_cases hc : 0 ≤ j ∧ j < (k : Int)
          · rw [if_pos ⟨rfl, hc⟩, if_pos ⟨rfl, by omega, by omega⟩]
          · rw [if_neg (fun e => hc e.2), if_neg (fun e => hc ⟨e.2.1, by omega⟩)]
      · rw [if_neg (fun e => hx e.1), if_neg (fun e => hx e.1), if_neg (fun e => hx e.1)])
    unfold g_m_keeps_L2
    rw [if_neg (by omega), if_pos (by omega), if_pos (by omega), w32_id (x := (k : Int) + 1) (by omega) (by omega)]
    rw [show ((k + 1 : Nat) : Int) = (k : Int) + 1 by omega] at ih
    exact ih
theorem s_keeps {σ : zS} {a b : Nat} (ha : a ≠ 144 ∧ a ≠ 147 ∧ b ≠ 144 ∧ b ≠ 147 ∧ a ≠ b) : g_m_keeps a b σ = some ((), kpS σ a b) := by
  unfold g_m_keeps
  refine s_keeps2 ha 2740 0 zK σ (by omega) (by show _ < 1000000; omega) ?_
  funext x j
  rw [if_neg (fun e => by omega)]
def bkS (σ : zS) (a b : Nat) : zS := fun x j => if x = 144 ∧ 0 ≤ j ∧ j < 2740 then σ a j else if x = 147 ∧ 0 ≤ j ∧ j < 361 then σ b j else σ x j
theorem s_back26 {σ : zS} {a b : Nat} (ha : a ≠ 144 ∧ a ≠ 147 ∧ b ≠ 144 ∧ b ≠ 147) : ∀ (d k n : Nat) (s : zS), k + d = 361 → d < n → s = (fun x j => if x = 144 ∧ 0 ≤ j ∧ j < 2740 then σ a j else if x = 147 ∧ 0 ≤ j ∧ j < (k : Int) then σ b j else σ x j) → g_m_back_L26 a b n (k : Int) s = some ((), bkS σ a b)
  | _, _, 0, _, _, h, _ => absurd h (Nat.not_lt_zero _)
  | 0, k, n + 1, s, hk, _, hs => by
    have : k = 361 := by omega
    subst this
    unfold g_m_back_L26
    rw [if_pos (by omega), hs]
    rfl
  | d + 1, k, n + 1, s, hk, hn, hs => by
    have eb : s b (k : Int) = σ b (k : Int) := by
      rw [hs]
      show (if b = 144 ∧ _ then _ else if b = 147 ∧ _ then _ else _) = _
      rw [if_neg (fun e => ha.2.2.1 e.1), if_neg (fun e => ha.2.2.2 e.1)]
    have ih := s_back26 (σ := σ) ha d (k + 1) n (zu s 147 (k : Int) (s b (k : Int))) (by omega) (by omega) (by
      funext x j
      rw [eb, hs]
      unfold zu
      show (if x = 147 ∧ j = (k : Int) then σ b (k : Int) else if x = 144 ∧ 0 ≤ j ∧ j < 2740 then σ a j else if x = 147 ∧ 0 ≤ j ∧ j < (k : Int) then σ b j else σ x j) = if x = 144 ∧ 0 ≤ j ∧ j < 2740 then σ a j else if x = 147 ∧ 0 ≤ j ∧ j < ((k + 1 : Nat) : Int) then σ b j else σ x j
      by_cases hx : x = 147
      · subst hx
        by_cases hj : j = (k : Int)
        · subst hj
          rw [if_pos ⟨rfl, rfl⟩, if_neg (fun e => by omega), if_pos ⟨rfl, by omega, by omega⟩]
        · have hna : ¬ (147 = 144 ∧ 0 ≤ j ∧ j < 2740) := fun e => absurd e.1 (by decide)
          rw [if_neg (fun e => hj e.2), if_neg hna, if_neg hna]
          by_cases hc : 0 ≤ j ∧ j < (k : Int)
          · rw [if_pos ⟨rfl, hc⟩, if_pos ⟨rfl, by omega, by omega⟩]
          · rw [if_neg (fun e => hc e.2), if_neg (fun e => hc ⟨e.2.1, by omega⟩)]
      · rw [if_neg (fun e => hx e.1), if_neg (show ¬ (x = 147 ∧ 0 ≤ j ∧ j < (k : Int)) from fun e => hx e.1), if_neg (show ¬ (x = 147 ∧ 0 ≤ j ∧ j < ((k + 1 : Nat) : Int)) from fun e => hx e.1)])
    unfold g_m_back_L26
    rw [if_neg (by omega), if_pos (by omega), if_pos (by omega), w32_id (x := (k : Int) + 1) (by omega) (by omega)]
    rw [show ((k + 1 : Nat) : Int) = (k : Int) + 1 by omega] at ih
    exact ih
theorem s_back2 {σ : zS} {a b : Nat} (ha : a ≠ 144 ∧ a ≠ 147 ∧ b ≠ 144 ∧ b ≠ 147) : ∀ (d k n : Nat) (s : zS), k + d = 2740 → d < n → s = (fun x j => if x = 144 ∧ 0 ≤ j ∧ j < (k : Int) then σ a j else σ x j) → g_m_back_L2 a b n (k : Int) s = some ((), bkS σ a b)
  | _, _, 0, _, _, h, _ => absurd h (Nat.not_lt_zero _)
  | 0, k, n + 1, s, hk, _, hs => by
    have : k = 2740 := by omega
    subst this
    unfold g_m_back_L2
    rw [if_pos (by omega)]
    refine s_back26 ha 361 0 zK s (by omega) (by show _ < 1000000; omega) ?_
    rw [hs]
    funext x j
    show (if x = 144 ∧ 0 ≤ j ∧ j < 2740 then σ a j else σ x j) = if x = 144 ∧ 0 ≤ j ∧ j < 2740 then σ a j else if x = 147 ∧ 0 ≤ j ∧ j < ((0 : Nat) : Int) then σ b j else σ x j
    rw [if_neg (show ¬ (x = 147 ∧ 0 ≤ j ∧ j < ((0 : Nat) : Int)) from fun e => by omega)]
  | d + 1, k, n + 1, s, hk, hn, hs => by
    have ea : s a (k : Int) = σ a (k : Int) := by
      rw [hs]
      show (if a = 144 ∧ _ then _ else _) = _
      rw [if_neg (fun e => ha.1 e.1)]
    have ih := s_back2 (σ := σ) ha d (k + 1) n (zu s 144 (k : Int) (s a (k : Int))) (by omega) (by omega) (by
      funext x j
      rw [ea, hs]
      unfold zu
      show (if x = 144 ∧ j = (k : Int) then σ a (k : Int) else if x = 144 ∧ 0 ≤ j ∧ j < (k : Int) then σ a j else σ x j) = if x = 144 ∧ 0 ≤ j ∧ j < ((k + 1 : Nat) : Int) then σ a j else σ x j
      by_cases hx : x = 144
      · subst hx
        by_cases hj : j = (k : Int)
        · subst hj
          rw [if_pos ⟨rfl, rfl⟩, if_pos ⟨rfl, by omega, by omega⟩]
        · rw [if_neg (fun e => hj e.2)]
          by_cases hc : 0 ≤ j ∧ j < (k : Int)
          · rw [if_pos ⟨rfl, hc⟩, if_pos ⟨rfl, by omega, by omega⟩]
          · rw [if_neg (fun e => hc e.2), if_neg (fun e => hc ⟨e.2.1, by omega⟩)]
      · rw [if_neg (fun e => hx e.1), if_neg (fun e => hx e.1), if_neg (fun e => hx e.1)])
    unfold g_m_back_L2
    rw [if_neg (by omega), if_pos (by omega), if_pos (by omega), w32_id (x := (k : Int) + 1) (by omega) (by omega)]
    rw [show ((k + 1 : Nat) : Int) = (k : Int) + 1 by omega] at ih
    exact ih
theorem s_back {σ : zS} {a b : Nat} (ha : a ≠ 144 ∧ a ≠ 147 ∧ b ≠ 144 ∧ b ≠ 147) : g_m_back a b σ = some ((), bkS σ a b) := by
  unfold g_m_back
  refine s_back2 ha 2740 0 zK σ (by omega) (by show _ < 1000000; omega) ?_
  funext x j
  rw [if_neg (fun e => by omega)]
end
section
/-! 44.refe -/
/-! THE REFERENCE over the typed memory: a trace done again; an image; the plain answers -/
/-- what a trace done again leaves as it was, but for the rows of ints and longs, which come back -/
def frD (σ s : zS) : Prop := ∀ a j, a ≠ 144 → a ≠ 147 → a ≠ 146 → a ≠ 149 → a ≠ 150 → a ≠ 151 → a ≠ 152 → a ≠ 153 → (a ≠ 143 ∨ j ≠ 10) → s a j = σ a j
def sameIn (σ s : zS) (a b : Nat) (n : Int) : Prop := ∀ j : Int, 0 ≤ j → j < n → s a j = σ b j
theorem HI_in {σ s : zS} (h : HI σ) (e : sameIn σ s 144 144 2740) : HI s := HI_fr8 h (fun j h1 h2 => e j (by omega) (by omega))
theorem NI_in {σ s : zS} (h : NI σ) (e : sameIn σ s 144 144 2740) : NI s := NI_fr h (fun j hj => e j (by omega) (by omega))
theorem s_done57 {σ : zS} {x : Int} {T : Nat} (hx : 0 ≤ x ∧ x ≤ 5) : ∀ (d k n : Nat) (s : zS), k + d = T → d < n → s 144 9 = (T : Int) → HI s → NI s → sameIn σ s 146 144 2740 → sameIn σ s 149 147 361 → frD σ s → ∃ v s', g_m_done_L57 n x (k : Int) s = some (v, s') ∧ sameIn σ s' 144 144 2740 ∧ sameIn σ s' 147 147 361 ∧ frD σ s'
  | _, _, 0, _, _, h, _, _, _, _, _, _ => absurd h (Nat.not_lt_zero _)
  | 0, k, n + 1, s, hk, _, hT, hH, hI, h1, h2, h3 => by
    have fin : ∀ v : Int, ∃ v' s', g_m_done_L148 v s = some (v', s') ∧ sameIn σ s' 144 144 2740 ∧ sameIn σ s' 147 147 361 ∧ frD σ s' := by
      intro v
      refine ⟨v, bkS s 146 149, ?_, fun j j1 j2 => ?_, fun j j1 j2 => ?_, fun a j k1 k2 k3 k4 k5 k6 k7 k8 k9 => ?_⟩
      · unfold g_m_done_L148
        rw [s_back ⟨by decide, by decide, by decide, by decide⟩]
        rfl
      · unfold bkS
        rw [if_pos ⟨rfl, j1, j2⟩]
        exact h1 j j1 j2
      · unfold bkS
        rw [if_neg (fun e => by omega), if_pos ⟨rfl, j1, j2⟩]
        exact h2 j j1 j2
      · unfold bkS
        rw [if_neg (fun e => k1 e.1), if_neg (fun e => k2 e.1)]
        exact h3 a j k1 k2 k3 k4 k5 k6 k7 k8 k9
    unfold g_m_done_L57
    simp only [hT]
    rw [if_pos (by omega)]
    by_cases c0 : x = 0
    · rw [if_neg (fun e => e c0)]; exact fin _
    · rw [if_pos c0]
      by_cases c1 : x = 1
      · rw [if_neg (fun e => e c1)]; exact fin _
      · rw [if_pos c1]
        by_cases c5 : 5 ≤ x
        · rw [if_pos c5]; exact fin _
        · rw [if_neg c5, w32_id (x := 4 + x) (by omega) (by omega), w32_id (x := 4 + x - 2) (by omega) (by omega), if_pos (by omega)]
          exact fin _
  | d + 1, k, n + 1, s, hk, hn, hT, hH, hI, h1, h2, h3 => by
    have l := l144
    have l152 : zLI 152 = 4 := rfl
    have hH' := hH
    obtain ⟨g12, g13, g8, g9, g10, gt, gr⟩ := hH'
    obtain ⟨N, n1, n2, n3⟩ := hI
    have okq : bOk (bxA s 144 (260 + 4 * (k : Int))) := gt k (by omega)
    generalize hs1 : zb s 152 0 (bxA s 144 (260 + 4 * (k : Int))) = s1
    have f1 : ∀ a j, a ≠ 152 → s1 a j = s a j := fun a j h => by rw [← hs1]; exact zb_a h
    have hR1 : RI s1 N := RI_of n3 (fun t ht => by
      unfold rgA bxA
      dsimp only
      rw [f1 144 _ (by decide), f1 144 _ (by decide), f1 144 _ (by decide), f1 144 _ (by decide), f1 144 _ (by decide), f1 144 _ (by decide), f1 144 _ (by decide), f1 144 _ (by decide)]
      exact ⟨rfl, rfl⟩)
    obtain ⟨s2, N2, q1, q2, q3, q4, q5⟩ := s_queries (q := bxA s 144 (260 + 4 * (k : Int))) hR1 ((f1 144 0 (by decide)).trans n2) n1 okq (by rw [← hs1]; exact zb_bx rfl) (by rw [f1 144 13 (by decide)]; exact g13.1) (by rw [f1 144 13 (by decide)]; exact g13.2) (by rw [f1 144 12 (by decide)]; exact g12.1)
    have e2 : ∀ j : Int, 8 ≤ j → j < 340 → s2 144 j = s 144 j := fun j j1 j2 => by
      rw [q5 144 j (Or.inr ⟨j1, j2⟩) (Or.inl (by decide)) (by decide) (by decide) (by decide) (Or.inl (by decide))]
      exact f1 144 j (by decide)
    have fo : ∀ a j, a ≠ 144 → a ≠ 147 → a ≠ 150 → a ≠ 151 → a ≠ 152 → a ≠ 153 → (a ≠ 143 ∨ j ≠ 10) → s2 a j = s a j := fun a j k1 k2 k3 k4 k5 k6 k7 => by
      rw [q5 a j (Or.inl k1) (Or.inl k2) k3 k4 k6 k7]
      exact f1 a j k5
    obtain ⟨v, s', p1, p2, p3, p4⟩ := s_done57 (σ := σ) (x := x) (T := T) hx d (k + 1) n s2 (by omega) (by omega) ((e2 9 (by decide) (by decide)).trans hT) (HI_fr8 hH e2) ⟨N2, q4, q3, q2⟩ (fun j j1 j2 => (fo 146 j (by decide) (by decide) (by decide) (by decide) (by decide) (by decide) (Or.inl (by decide))).trans (h1 j j1 j2)) (fun j j1 j2 => (fo 149 j (by decide) (by decide) (by decide) (by decide) (by decide) (by decide) (Or.inl (by decide))).trans (h2 j j1 j2)) (fun a j k1 k2 k3 k4 k5 k6 k7 k8 k9 => (fo a j k1 k2 k5 k6 k7 k8 k9).trans (h3 a j k1 k2 k3 k4 k5 k6 k7 k8 k9))
    refine ⟨v, s', ?_, p2, p3, p4⟩
    unfold g_m_done_L57
    simp only [hT]
    rw [if_neg (by omega), w32_id (x := 4 * (k : Int)) (by omega) (by omega), w32_id (x := 260 + 4 * (k : Int)) (by omega) (by omega), s_copies (by omega) (by omega) (by omega) (by omega) (by omega) (by omega), hs1]
    rw [Option.bind_some]
    try dsimp only
    rw [q1]
    rw [Option.bind_some]
    try dsimp only
    rw [w32_id (x := (k : Int) + 1) (by omega) (by omega)]
    rw [show ((k + 1 : Nat) : Int) = (k : Int) + 1 by omega] at p1
    exact p1
theorem s_done28 {x y : Int} : ∀ (d k n : Nat) (s : zS), k + d = 8 → 2 ≤ k → d < n → ∃ s', g_m_done_L28 n x y (k : Int) s = g_m_done_L57 zK y 0 (zu s' 144 12 x) ∧ ∀ a j, (a ≠ 144 ∨ j < 2 ∨ 8 ≤ j) → s' a j = s a j
  | _, _, 0, _, _, _, h => absurd h (Nat.not_lt_zero _)
  | 0, k, n + 1, s, hk, _, _ => by
    refine ⟨s, ?_, fun _ _ _ => rfl⟩
    unfold g_m_done_L28
    rw [if_pos (by omega)]
  | d + 1, k, n + 1, s, hk, hk2, hn => by
    obtain ⟨s', e1, e2⟩ := s_done28 (x := x) (y := y) d (k + 1) n (zu s 144 (k : Int) 0) (by omega) (by omega) (by omega)
    refine ⟨s', ?_, fun a j h => (e2 a j h).trans (zu_c (by omega))⟩
    unfold g_m_done_L28
    rw [if_neg (by omega), if_pos (by omega), w32_id (x := (k : Int) + 1) (by omega) (by omega)]
    rw [show ((k + 1 : Nat) : Int) = (k : Int) + 1 by omega] at e1
    exact e1
theorem s_done {σ : zS} {x y : Int} (hH : HI σ) (hx : 1 ≤ x ∧ x ≤ 99) (hy : 0 ≤ y ∧ y ≤ 5) : ∃ v s, g_m_done x y σ = some (v, s) ∧ sameIn σ s 144 144 2740 ∧ sameIn σ s 147 147 361 ∧ frD σ s := by
  obtain ⟨T, hT⟩ : ∃ T : Nat, σ 144 9 = (T : Int) := ⟨(σ 144 9).toNat, by have := hH.2.2.2.1; omega⟩
  have hT10 := hH.2.2.2.1
  obtain ⟨s1, e1, e2⟩ := s_done28 (x := x) (y := y) 6 2 zK (zu (zu (kpS σ 146 149) 144 0 0) 147 0 0) (by omega) (by omega) (by show _ < 1000000; omega)
  generalize hs2 : zu s1 144 12 x = s2 at e1
  have kp : ∀ a j, a ≠ 146 → a ≠ 149 → kpS σ 146 149 a j = σ a j := fun a j h1 h2 => by
    unfold kpS
    rw [if_neg (fun e => h1 e.1), if_neg (fun e => h2 e.1)]
  have f2 : ∀ a j, a ≠ 146 → a ≠ 149 → (a ≠ 144 ∨ (8 ≤ j ∧ j ≠ 12)) → (a ≠ 147 ∨ j ≠ 0) → s2 a j = σ a j := fun a j h1 h2 h3 h4 => by
    rw [← hs2, zu_c (by omega), e2 a j (by omega), zu_c h4, zu_c (by omega)]
    exact kp a j h1 h2
  have hH2 : HI s2 := by
    obtain ⟨g12, g13, g8, g9, g10, gt, gr⟩ := hH
    have q : ∀ j : Int, 8 ≤ j → j ≠ 12 → s2 144 j = σ 144 j := fun j h1 h2 => f2 144 j (by decide) (by decide) (Or.inr ⟨h1, h2⟩) (Or.inl (by decide))
    refine ⟨by rw [← hs2, zu_e rfl]; exact hx, by rw [q 13 (by decide) (by decide)]; exact g13, by rw [q 8 (by decide) (by decide)]; exact g8, by rw [q 9 (by decide) (by decide)]; exact g9, by rw [q 10 (by decide) (by decide)]; exact g10, fun t ht => ?_, fun r hr => ?_⟩
    · rw [q 9 (by decide) (by decide)] at ht
      unfold bxA
      rw [q _ (by omega) (by omega), q _ (by omega) (by omega), q _ (by omega) (by omega), q _ (by omega) (by omega)]
      exact gt t ht
    · rw [q _ (by omega) (by omega), q _ (by omega) (by omega)]
      exact gr r hr
  have hI2 : NI s2 := ⟨0, by decide, by rw [← hs2, zu_i (by decide), e2 144 0 (by omega), zu_a (by decide), zu_e rfl]; rfl, fun k hk => absurd hk (Nat.not_lt_zero _), fun k1 k2 _ h => absurd h (Nat.not_lt_zero _)⟩
  obtain ⟨v, s3, g1, g2, g3, g4⟩ := s_done57 (σ := σ) (x := y) (T := T) hy T 0 zK s2 (by omega) (by show _ < 1000000; omega) ((f2 144 9 (by decide) (by decide) (by omega) (Or.inl (by decide))).trans hT) hH2 hI2 (fun j j1 j2 => by
    rw [← hs2, zu_a (by decide), e2 146 j (Or.inl (by decide)), zu_a (by decide), zu_a (by decide)]
    unfold kpS
    rw [if_pos ⟨rfl, j1, j2⟩]) (fun j j1 j2 => by
    rw [← hs2, zu_a (by decide), e2 149 j (Or.inl (by decide)), zu_a (by decide), zu_a (by decide)]
    unfold kpS
    rw [if_neg (fun e => by omega), if_pos ⟨rfl, j1, j2⟩]) (fun a j k1 k2 k3 k4 k5 k6 k7 k8 k9 => f2 a j k3 k4 (Or.inl k1) (Or.inl k2))
  refine ⟨v, s3, ?_, g2, g3, g4⟩
  unfold g_m_done
  rw [s_keeps ⟨by decide, by decide, by decide, by decide, by decide⟩]
  rw [Option.bind_some]
  try dsimp only
  exact e1.trans g1
theorem s_again {σ : zS} {x y : Int} (hH : HI σ) : ∃ v s, g_m_again x y σ = some (v, s) ∧ sameIn σ s 144 144 2740 ∧ sameIn σ s 147 147 361 ∧ frD σ s := by
  have same : ∀ c : Int, ∃ c' s, (some (c, σ) : Option (Int × zS)) = some (c', s) ∧ sameIn σ s 144 144 2740 ∧ sameIn σ s 147 147 361 ∧ frD σ s := fun c => ⟨c, σ, rfl, fun _ _ _ => rfl, fun _ _ _ => rfl, fun _ _ _ _ _ _ _ _ _ _ _ => rfl⟩
  unfold g_m_again
  by_cases c1 : 0 ≤ y ∧ y ≤ 5
  · rw [s_isIn_t c1.1 c1.2]
    rw [Option.bind_some]
    try dsimp only
    rw [if_pos (by decide)]
    by_cases c2 : 1 ≤ x ∧ x ≤ 99
    · rw [s_isIn_t c2.1 c2.2]
      rw [Option.bind_some]
      try dsimp only
      rw [if_pos (by decide)]
      obtain ⟨v, s, e1, e2, e3, e4⟩ := s_done hH c2 c1
      rw [e1]
      exact ⟨v, s, rfl, e2, e3, e4⟩
    · rw [s_isIn_f (by omega)]
      rw [Option.bind_some]
      try dsimp only
      rw [if_neg (by decide)]
      exact same _
  · rw [s_isIn_f (by omega)]
    rw [Option.bind_some]
    try dsimp only
    rw [if_neg (by decide)]
    exact same _
theorem s_least2 {σ : zS} {x : Int} (hH : HI σ) : ∀ (d k n : Nat) (s : zS), k + d = 100 → 1 ≤ k → d < n → sameIn σ s 144 144 2740 → sameIn σ s 147 147 361 → frD σ s → ∃ v s', g_m_least_L2 n x (k : Int) s = some (v, s') ∧ sameIn σ s' 144 144 2740 ∧ sameIn σ s' 147 147 361 ∧ frD σ s'
  | _, _, 0, _, _, _, h, _, _, _ => absurd h (Nat.not_lt_zero _)
  | 0, k, n + 1, s, hk, _, _, h1, h2, h3 => by
    refine ⟨-5, s, ?_, h1, h2, h3⟩
    unfold g_m_least_L2
    rw [if_pos (by omega)]
  | d + 1, k, n + 1, s, hk, hk1, hn, h1, h2, h3 => by
    obtain ⟨v, s1, e1, e2, e3, e4⟩ := s_done (σ := s) (x := (k : Int)) (y := 0) (HI_in hH h1) (by omega) (by decide)
    have t1 : sameIn σ s1 144 144 2740 := fun j a b => (e2 j a b).trans (h1 j a b)
    have t2 : sameIn σ s1 147 147 361 := fun j a b => (e3 j a b).trans (h2 j a b)
    have t3 : frD σ s1 := fun a j k1 k2 k3 k4 k5 k6 k7 k8 k9 => (e4 a j k1 k2 k3 k4 k5 k6 k7 k8 k9).trans (h3 a j k1 k2 k3 k4 k5 k6 k7 k8 k9)
    unfold g_m_least_L2
    rw [if_neg (by omega), e1]
    rw [Option.bind_some]
    try dsimp only
    split
    · rw [w32_id (x := (k : Int) + 1) (by omega) (by omega), show (k : Int) + 1 = ((k + 1 : Nat) : Int) by omega]
      exact s_least2 hH d (k + 1) n s1 (by omega) (by omega) (by omega) t1 t2 t3
    · exact ⟨_, s1, rfl, t1, t2, t3⟩
theorem s_least {σ : zS} {x : Int} (hH : HI σ) : ∃ v s, g_m_least x σ = some (v, s) ∧ sameIn σ s 144 144 2740 ∧ sameIn σ s 147 147 361 ∧ frD σ s := s_least2 hH 99 1 zK σ (by omega) (by omega) (by show _ < 1000000; omega) (fun _ _ _ => rfl) (fun _ _ _ => rfl) (fun _ _ _ _ _ _ _ _ _ _ _ => rfl)
theorem s_query {σ : zS} {x x0 x1 y0 y1 : Int} (hH : HI σ) (hI : NI σ) : ∃ v s, g_m_query x x0 x1 y0 y1 σ = some (v, s) ∧ NI s ∧ HI s ∧ ∀ a j, a ≠ 152 → (a ≠ 144 ∨ (9 ≤ j ∧ j < 200) ∨ (260 ≤ j ∧ j < 340)) → (a ≠ 147 ∨ (1 ≤ j ∧ j < 61)) → a ≠ 150 → a ≠ 151 → a ≠ 153 → a ≠ 154 → a ≠ 155 → (a ≠ 143 ∨ (j ≠ 10 ∧ j ≠ 14 ∧ j ≠ 15 ∧ j ≠ 21 ∧ j ≠ 22 ∧ j ≠ 23)) → s a j = σ a j := by
  have l152 : zLI 152 = 4 := rfl
  have same : ∀ c : Int, ∃ c' s, (some (c, σ) : Option (Int × zS)) = some (c', s) ∧ NI s ∧ HI s ∧ ∀ a j, a ≠ 152 → (a ≠ 144 ∨ (9 ≤ j ∧ j < 200) ∨ (260 ≤ j ∧ j < 340)) → (a ≠ 147 ∨ (1 ≤ j ∧ j < 61)) → a ≠ 150 → a ≠ 151 → a ≠ 153 → a ≠ 154 → a ≠ 155 → (a ≠ 143 ∨ (j ≠ 10 ∧ j ≠ 14 ∧ j ≠ 15 ∧ j ≠ 21 ∧ j ≠ 22 ∧ j ≠ 23)) → s a j = σ a j := fun c => ⟨c, σ, rfl, hI, hH, fun _ _ _ _ _ _ _ _ _ _ _ => rfl⟩
  unfold g_m_query
  by_cases c1 : 0 ≤ x ∧ x ≤ 6
  · rw [s_isIn_t c1.1 c1.2]
    rw [Option.bind_some]
    try dsimp only
    rw [if_neg (by decide)]
    by_cases c2 : bOk (x0, x1, y0, y1)
    · rw [s_isBox_t c2]
      rw [Option.bind_some]
      try dsimp only
      rw [if_pos (by decide), s_sets (by omega) (by omega) (by omega)]
      rw [Option.bind_some]
      try dsimp only
      obtain ⟨N, n1, n2, n3⟩ := hI
      generalize hs1 : zb σ 152 0 (x0, x1, y0, y1) = s1
      have f1 : ∀ a j, a ≠ 152 → s1 a j = σ a j := fun a j h => by rw [← hs1]; exact zb_a h
      have hR1 : RI s1 N := RI_of n3 (fun t ht => by
        unfold rgA bxA
        dsimp only
        rw [f1 144 _ (by decide), f1 144 _ (by decide), f1 144 _ (by decide), f1 144 _ (by decide), f1 144 _ (by decide), f1 144 _ (by decide), f1 144 _ (by decide), f1 144 _ (by decide)]
        exact ⟨rfl, rfl⟩)
      obtain ⟨v, s, N', e1, e2, e3, e4, e5, e6⟩ := s_asked (x := x) (t := -1) (q := (x0, x1, y0, y1)) hR1 ((f1 144 0 (by decide)).trans n2) n1 c2 (by rw [← hs1]; exact zb_bx rfl) (by rw [f1 144 13 (by decide)]; exact hH.2.1.1) (by rw [f1 144 13 (by decide)]; exact hH.2.1.2) (by rw [f1 144 12 (by decide)]; exact hH.1.1) (fun _ _ => Or.inl (by decide))
      rw [e1]
      refine ⟨v, s, rfl, ⟨N', e4, e3, e2⟩, HI_fr hH (fun j hj => ?_) e6, fun a j k0 k1 k2 k3 k4 k5 k6 k7 k8 => ?_⟩
      · rw [e5 144 j (by omega) (Or.inl (by decide)) (by decide) (by decide) (by decide) (by decide) (by decide) (Or.inl (by decide))]
        exact f1 144 j (by decide)
      · rw [e5 a j k1 k2 k3 k4 k5 k6 k7 k8]
        exact f1 a j k0
    · rw [s_isBox_f c2]
      rw [Option.bind_some]
      try dsimp only
      rw [if_neg (by decide)]
      exact same _
  · rw [s_isIn_f (by omega)]
    exact same _
end
section
/-! 45.reff -/
/-! THE REFERENCE over the typed memory: what holds between calls; the plain calls -/
def XI (σ : zS) : Prop := (0 ≤ σ 143 20 ∧ σ 143 20 ≤ 160) ∧ (0 ≤ σ 143 27 ∧ σ 143 27 ≤ 8) ∧ (0 ≤ σ 143 29 ∧ σ 143 29 ≤ 40000) ∧ (0 ≤ σ 143 32 ∧ σ 143 32 ≤ 600) ∧ (∀ k : Nat, k < 6 → -1 ≤ σ 166 (k : Int) ∧ σ 166 (k : Int) ≤ 60)
def imgS (σ : zS) : zS := fun a j => if a = 144 then σ 145 j else if a = 147 then σ 148 j else σ a j
def II (σ : zS) : Prop := σ 143 6 ≠ 0 → NI (imgS σ) ∧ HI (imgS σ)
def MI (σ : zS) : Prop := NI σ ∧ HI σ ∧ XI σ ∧ II σ
theorem XI_fr {σ s : zS} (h : XI σ) (e : ∀ j : Int, j = 20 ∨ j = 27 ∨ j = 29 ∨ j = 32 → s 143 j = σ 143 j) (e2 : ∀ j : Int, s 166 j = σ 166 j) : XI s := by
  unfold XI at *
  rw [e 20 (by omega), e 27 (by omega), e 29 (by omega), e 32 (by omega)]
  refine ⟨h.1, h.2.1, h.2.2.1, h.2.2.2.1, fun k hk => ?_⟩
  rw [e2]
  exact h.2.2.2.2 k hk
theorem II_fr {σ s : zS} (h : II σ) (e : s 143 6 = σ 143 6) (e2 : ∀ j : Int, s 145 j = σ 145 j) : II s := by
  intro h6
  rw [e] at h6
  obtain ⟨h1, h2⟩ := h h6
  have q : ∀ j, imgS s 144 j = imgS σ 144 j := fun j => by
    show s 145 j = σ 145 j
    exact e2 j
  exact ⟨NI_fr h1 (fun j _ => q j), HI_fr8 h2 (fun j _ _ => q j)⟩
/-- nothing but the lists is another -/
def frM2 (σ s : zS) : Prop := ∀ a j, a ≠ 166 ∧ a ≠ 167 → s a j = σ a j
/-- only the lists' contents are others -/
def frL (σ s : zS) : Prop := ∀ a j, a ≠ 167 → s a j = σ a j
theorem frL.m {σ s : zS} (h : frL σ s) : frM2 σ s := fun a j k => h a j k.2
theorem frL.refl (σ : zS) : frL σ σ := fun _ _ _ => rfl
theorem MI_same {σ : zS} (h : MI σ) (c : Int) : ∃ v s, (some (c, σ) : Option (Int × zS)) = some (v, s) ∧ MI s ∧ frM2 σ s := ⟨c, σ, rfl, h, fun _ _ _ => rfl⟩
/-- a call that changes but places that no invariant names -/
theorem MI_144 {σ s : zS} (h : MI σ) (e : ∀ a j, a = 144 ∨ a = 145 ∨ a = 166 ∨ (a = 143 ∧ (j = 6 ∨ j = 20 ∨ j = 27 ∨ j = 29 ∨ j = 32)) → s a j = σ a j) : MI s :=
  ⟨NI_fr h.1 (fun j _ => e 144 j (Or.inl rfl)), HI_fr8 h.2.1 (fun j _ _ => e 144 j (Or.inl rfl)), XI_fr h.2.2.1 (fun j hj => e 143 j (by omega)) (fun j => e 166 j (by omega)), II_fr h.2.2.2 (e 143 6 (by omega)) (fun j => e 145 j (by omega))⟩
theorem m_isList {l : Int} {σ : zS} : g_m_isList l σ = some (if 0 ≤ l ∧ l < 6 then 1 else 0, σ) := by
  unfold g_m_isList
  by_cases c : 0 ≤ l ∧ l < 6
  · rw [s_isIn_t c.1 (by omega), if_pos c]
    rw [Option.bind_some]
    try dsimp only
    rw [if_pos (Or.inr rfl)]
  · rw [s_isIn_f (by omega), if_neg c]
    rw [Option.bind_some]
    try dsimp only
    rw [if_pos (Or.inl rfl)]
theorem m_wrong {l : Int} {σ : zS} : g_m_wrong l σ = some (if 0 ≤ l ∧ l < 6 then (if 0 ≤ σ 166 l then 0 else -11) else -1, σ) := by
  unfold g_m_wrong
  rw [m_isList]
  rw [Option.bind_some]
  try dsimp only
  by_cases c : 0 ≤ l ∧ l < 6
  · rw [if_pos c, if_pos c, if_pos (by decide), if_pos c]
    show (if 0 ≤ σ 166 l then _ else _) = _
    by_cases c2 : 0 ≤ σ 166 l
    · rw [if_pos c2, if_pos c2]
    · rw [if_neg c2, if_neg c2]
  · rw [if_neg c, if_neg c, if_neg (by decide)]
    rw [if_neg c]
theorem XI.len {σ : zS} (h : XI σ) {l : Int} (hl : 0 ≤ l ∧ l < 6) : -1 ≤ σ 166 l ∧ σ 166 l ≤ 60 := by
  obtain ⟨k, rfl⟩ : ∃ k : Nat, l = (k : Int) := ⟨l.toNat, by omega⟩
  exact h.2.2.2.2 k (by omega)
theorem m_list34 {l : Int} (hl : 0 ≤ l ∧ l < 6) : ∀ (d k n : Nat) (s : zS), k + d = 60 → d < n → ∃ s', g_m_list_L34 n l (k : Int) s = some (1, s') ∧ ∀ a j, a ≠ 167 → s' a j = s a j
  | _, _, 0, _, _, h => absurd h (Nat.not_lt_zero _)
  | 0, k, n + 1, s, hk, _ => by
    refine ⟨s, ?_, fun _ _ _ => rfl⟩
    unfold g_m_list_L34
    rw [if_pos (by omega)]
  | d + 1, k, n + 1, s, hk, hn => by
    obtain ⟨s', e1, e2⟩ := m_list34 hl d (k + 1) n (zu s 167 (60 * l + (k : Int)) 0) (by omega) (by omega)
    refine ⟨s', ?_, fun a j h => (e2 a j h).trans (zu_a h)⟩
    unfold g_m_list_L34
    rw [if_neg (by omega), w32_id (x := 60 * l) (by omega) (by omega), w32_id (x := 60 * l + (k : Int)) (by omega) (by omega), if_pos (by omega), w32_id (x := (k : Int) + 1) (by omega) (by omega)]
    rw [show ((k + 1 : Nat) : Int) = (k : Int) + 1 by omega] at e1
    exact e1
/-- what list() answers -/
def listA (l n : Int) : Int := if 0 ≤ l ∧ l < 6 then (if n ≤ 60 then (if 0 ≤ n then 1 else -14) else -2) else -1
theorem m_list {l x : Int} {σ : zS} (h : MI σ) : ∃ s, g_m_list l x σ = some (listA l x, s) ∧ MI s ∧ frM2 σ s ∧ ∀ j, s 166 j = if (0 ≤ l ∧ l < 6 ∧ 0 ≤ x ∧ x ≤ 60) ∧ j = l then x else σ 166 j := by
  unfold g_m_list listA
  rw [m_isList]
  rw [Option.bind_some]
  try dsimp only
  by_cases c : 0 ≤ l ∧ l < 6
  · rw [if_pos c, if_pos c, if_pos (by decide)]
    by_cases c1 : x ≤ 60
    · rw [if_pos c1, if_pos c1]
      by_cases c2 : 0 ≤ x
      · rw [if_pos c2, if_pos c2, if_pos c]
        obtain ⟨s', e1, e2⟩ := m_list34 c 60 0 zK (zu σ 166 l x) (by omega) (by show _ < 1000000; omega)
        refine ⟨s', e1, ?_, fun a j hh => by rw [e2 a j (by omega), zu_a (by omega)], fun j => ?_⟩
        case refine_2 =>
          rw [e2 166 j (by decide)]
          by_cases ck : j = l
          · rw [zu_e ck, if_pos ⟨⟨c.1, c.2, c2, c1⟩, ck⟩]
          · rw [zu_i ck, if_neg (fun hh => ck hh.2)]
        have q : ∀ a j, a ≠ 167 → a ≠ 166 → s' a j = σ a j := fun a j h1 h2 => by rw [e2 a j h1, zu_a h2]
        refine ⟨NI_fr h.1 (fun j _ => q 144 j (by decide) (by decide)), HI_fr8 h.2.1 (fun j _ _ => q 144 j (by decide) (by decide)), ?_, II_fr h.2.2.2 (q 143 6 (by decide) (by decide)) (fun j => q 145 j (by decide) (by decide))⟩
        obtain ⟨x1, x2, x3, x4, x5⟩ := h.2.2.1
        refine ⟨by rw [q 143 20 (by decide) (by decide)]; exact x1, by rw [q 143 27 (by decide) (by decide)]; exact x2, by rw [q 143 29 (by decide) (by decide)]; exact x3, by rw [q 143 32 (by decide) (by decide)]; exact x4, fun k hk => ?_⟩
        rw [e2 166 _ (by decide)]
        by_cases ck : (k : Int) = l
        · rw [zu_e ck]; omega
        · rw [zu_i ck]; exact x5 k hk
      · rw [if_neg c2, if_neg c2]
        exact ⟨σ, by rw [if_pos c], h, fun _ _ _ => rfl, fun j => by rw [if_neg (fun hh => by omega)]⟩
    · rw [if_neg c1, if_neg c1]
      exact ⟨σ, by rw [if_pos c], h, fun _ _ _ => rfl, fun j => by rw [if_neg (fun hh => by omega)]⟩
  · rw [if_neg c, if_neg c, if_neg (by decide)]
    exact ⟨σ, by rw [if_neg c], h, fun _ _ _ => rfl, fun j => by rw [if_neg (fun hh => by omega)]⟩
/-- what set() answers, L being the list's length -/
def setA (L l i : Int) : Int := if 0 ≤ l ∧ l < 6 then (if 0 ≤ L then (if 0 ≤ i ∧ i ≤ L - 1 then 1 else -13) else -11) else -1
theorem m_set {l i v : Int} {σ : zS} (h : MI σ) : ∃ s, g_m_set l i v σ = some (setA (σ 166 l) l i, s) ∧ MI s ∧ frL σ s := by
  unfold g_m_set setA
  rw [m_wrong]
  rw [Option.bind_some]
  try dsimp only
  by_cases c : 0 ≤ l ∧ l < 6
  · have hlen := h.2.2.1.len c
    rw [if_pos c, if_pos c]
    by_cases c1 : 0 ≤ σ 166 l
    · rw [if_pos c1, if_pos c1, if_pos rfl, if_pos c, w32_id (x := σ 166 l - 1) (by omega) (by omega)]
      by_cases c2 : 0 ≤ i ∧ i ≤ σ 166 l - 1
      · rw [s_isIn_t c2.1 c2.2, if_pos c2]
        rw [Option.bind_some]
        try dsimp only
        rw [if_pos (by decide), w32_id (x := 60 * l) (by omega) (by omega), w32_id (x := 60 * l + i) (by omega) (by omega), if_pos (by omega)]
        exact ⟨_, rfl, MI_144 h (fun a j hh => zu_a (by omega)), fun a j hh => zu_a (by omega)⟩
      · rw [s_isIn_f (by omega), if_neg c2]
        rw [Option.bind_some]
        try dsimp only
        rw [if_neg (by decide)]
        exact ⟨σ, by first | rfl | (simp only [if_pos c]) | (simp only [if_neg c]) | (simp only [if_pos c']) | (simp only [if_neg c']), h, frL.refl σ⟩
    · rw [if_neg c1, if_neg c1, if_neg (by decide)]
      exact ⟨σ, by first | rfl | (simp only [if_pos c]) | (simp only [if_neg c]) | (simp only [if_pos c']) | (simp only [if_neg c']), h, frL.refl σ⟩
  · rw [if_neg c, if_neg c, if_neg (by decide)]
    exact ⟨σ, by first | rfl | (simp only [if_pos c]) | (simp only [if_neg c]) | (simp only [if_pos c']) | (simp only [if_neg c']), h, frL.refl σ⟩
theorem m_get {l i : Int} {σ : zS} (h : MI σ) : ∃ c, g_m_get l i σ = some (c, σ) := by
  unfold g_m_get
  rw [m_wrong]
  rw [Option.bind_some]
  try dsimp only
  by_cases c : 0 ≤ l ∧ l < 6
  · have hlen := h.2.2.1.len c
    rw [if_pos c]
    by_cases c1 : 0 ≤ σ 166 l
    · rw [if_pos c1, if_neg (by decide), if_pos c, w32_id (x := σ 166 l - 1) (by omega) (by omega)]
      by_cases c2 : 0 ≤ i ∧ i ≤ σ 166 l - 1
      · rw [s_isIn_t c2.1 c2.2]
        rw [Option.bind_some]
        try dsimp only
        rw [if_pos (by decide), w32_id (x := 60 * l) (by omega) (by omega), w32_id (x := 60 * l + i) (by omega) (by omega), if_pos (by omega)]
        exact ⟨_, rfl⟩
      · rw [s_isIn_f (by omega)]
        rw [Option.bind_some]
        try dsimp only
        rw [if_neg (by decide)]
        exact ⟨_, rfl⟩
    · rw [if_neg c1, if_pos (by decide)]
      exact ⟨_, rfl⟩
  · rw [if_neg c, if_pos (by decide)]
    exact ⟨_, rfl⟩
theorem m_move84 {l i o j0 x : Int} (hl : 0 ≤ l ∧ l < 6) (ho : 0 ≤ o ∧ o < 6) (hi : 0 ≤ i ∧ i + x ≤ 60) (hj : 0 ≤ j0 ∧ j0 + x ≤ 60) (hx : x ≤ 60) : ∀ (d k n : Nat) (s : zS), (x ≤ (k : Int) + d) → (k : Int) ≤ 60 → d < n → ∃ s', g_m_move_L84 n l i o j0 x (k : Int) s = some (x, s') ∧ ∀ a j, a ≠ 167 → s' a j = s a j
  | _, _, 0, _, _, _, h => absurd h (Nat.not_lt_zero _)
  | d, k, n + 1, s, hk, hk2, hn => by
    by_cases c : x ≤ (k : Int)
    · refine ⟨s, ?_, fun _ _ _ => rfl⟩
      unfold g_m_move_L84
      rw [if_pos c]
    · cases d with
      | zero => omega
      | succ d =>
        have go : ∀ t : Int, 0 ≤ t → t < x → ∃ s', g_m_move_L109 (g_m_move_L84 n) l i o j0 x (k : Int) t s = some (x, s') ∧ ∀ a j, a ≠ 167 → s' a j = s a j := by
          intro t t1 t2
          obtain ⟨s', e1, e2⟩ := m_move84 hl ho hi hj hx d (k + 1) n (zu s 167 (60 * o + j0 + t) (s 167 (60 * l + i + t))) (by omega) (by omega) (by omega)
          refine ⟨s', ?_, fun a j h => (e2 a j h).trans (zu_a h)⟩
          unfold g_m_move_L109
          rw [w32_id (x := 60 * l) (by omega) (by omega), w32_id (x := 60 * l + i) (by omega) (by omega), w32_id (x := 60 * l + i + t) (by omega) (by omega), w32_id (x := 60 * o) (by omega) (by omega), w32_id (x := 60 * o + j0) (by omega) (by omega), w32_id (x := 60 * o + j0 + t) (by omega) (by omega), if_pos (by omega), if_pos (by omega), w32_id (x := (k : Int) + 1) (by omega) (by omega)]
          rw [show ((k + 1 : Nat) : Int) = (k : Int) + 1 by omega] at e1
          exact e1
        unfold g_m_move_L84
        rw [if_neg c]
        split
        · rw [w32_id (x := x - 1) (by omega) (by omega), w32_id (x := x - 1 - (k : Int)) (by omega) (by omega)]
          exact go _ (by omega) (by omega)
        · exact go _ (by omega) (by omega)
/-- what move() answers, L and M being the lists' lengths -/
def moveA (L M l i o j x : Int) : Int := if 0 ≤ l ∧ l < 6 then (if 0 ≤ o ∧ o < 6 then (if L < 0 then -11 else if 0 ≤ M then (if x < 0 then -13 else if i < 0 then -13 else if j < 0 then -13 else if L - i < x then -13 else if x ≤ M - j then x else -13) else -11) else -1) else -1
theorem m_move {l i o j0 x : Int} {σ : zS} (h : MI σ) (hi : i < 2147483648) (hj : j0 < 2147483648) : ∃ s, g_m_move l i o j0 x σ = some (moveA (σ 166 l) (σ 166 o) l i o j0 x, s) ∧ MI s ∧ frL σ s := by
  unfold g_m_move moveA
  rw [m_isList]
  rw [Option.bind_some]
  try dsimp only
  by_cases c : 0 ≤ l ∧ l < 6
  · have hlen := h.2.2.1.len c
    rw [if_pos c, if_pos c, if_neg (by decide), m_isList]
    rw [Option.bind_some]
    try dsimp only
    by_cases c' : 0 ≤ o ∧ o < 6
    · have hlen' := h.2.2.1.len c'
      rw [if_pos c', if_pos c', if_pos (by decide), if_pos c]
      show ∃ s, (if σ 166 l < 0 then _ else _) = _ ∧ _
      by_cases c1 : σ 166 l < 0
      · rw [if_pos c1, if_pos c1]; exact ⟨σ, by first | rfl | (simp only [if_pos c]) | (simp only [if_neg c]) | (simp only [if_pos c']) | (simp only [if_neg c']), h, frL.refl σ⟩
      · rw [if_neg c1, if_neg c1, if_pos c']
        show ∃ s, (if 0 ≤ σ 166 o then _ else _) = _ ∧ _
        by_cases c2 : 0 ≤ σ 166 o
        · rw [if_pos c2, if_pos c2]
          by_cases c3 : x < 0
          · rw [if_pos c3, if_pos c3]; exact ⟨σ, by first | rfl | (simp only [if_pos c]) | (simp only [if_neg c]) | (simp only [if_pos c']) | (simp only [if_neg c']), h, frL.refl σ⟩
          · rw [if_neg c3, if_neg c3]
            by_cases c4 : i < 0
            · rw [if_pos c4, if_pos c4]; exact ⟨σ, by first | rfl | (simp only [if_pos c]) | (simp only [if_neg c]) | (simp only [if_pos c']) | (simp only [if_neg c']), h, frL.refl σ⟩
            · rw [if_neg c4, if_neg c4]
              by_cases c5 : j0 < 0
              · rw [if_pos c5, if_pos c5]; exact ⟨σ, by first | rfl | (simp only [if_pos c]) | (simp only [if_neg c]) | (simp only [if_pos c']) | (simp only [if_neg c']), h, frL.refl σ⟩
              · rw [if_neg c5, if_neg c5, if_pos c, w32_id (x := σ 166 l - i) (by omega) (by omega)]
                show ∃ s, (if σ 166 l - i < x then _ else _) = _ ∧ _
                by_cases c6 : σ 166 l - i < x
                · rw [if_pos c6, if_pos c6]; exact ⟨σ, by first | rfl | (simp only [if_pos c]) | (simp only [if_neg c]) | (simp only [if_pos c']) | (simp only [if_neg c']), h, frL.refl σ⟩
                · rw [if_neg c6, if_neg c6, if_pos c', w32_id (x := σ 166 o - j0) (by omega) (by omega)]
                  show ∃ s, (if x ≤ σ 166 o - j0 then _ else _) = _ ∧ _
                  by_cases c7 : x ≤ σ 166 o - j0
                  · rw [if_pos c7, if_pos c7]
                    obtain ⟨s', e1, e2⟩ := m_move84 (l := l) (i := i) (o := o) (j0 := j0) (x := x) c c' (by omega) (by omega) (by omega) 60 0 zK σ (by omega) (by omega) (by show _ < 1000000; omega)
                    exact ⟨s', e1, MI_144 h (fun a j hh => e2 a j (by omega)), fun a j hh => e2 a j (by omega)⟩
                  · rw [if_neg c7, if_neg c7]; exact ⟨σ, by first | rfl | (simp only [if_pos c]) | (simp only [if_neg c]) | (simp only [if_pos c']) | (simp only [if_neg c']), h, frL.refl σ⟩
        · rw [if_neg c2, if_neg c2]; exact ⟨σ, by first | rfl | (simp only [if_pos c]) | (simp only [if_neg c]) | (simp only [if_pos c']) | (simp only [if_neg c']), h, frL.refl σ⟩
    · rw [if_neg c', if_neg c', if_neg (by decide)]
      exact ⟨σ, by first | rfl | (simp only [if_pos c]) | (simp only [if_neg c]) | (simp only [if_pos c']) | (simp only [if_neg c']), h, frL.refl σ⟩
  · rw [if_neg c, if_neg c, if_pos rfl]
    exact ⟨σ, by first | rfl | (simp only [if_pos c]) | (simp only [if_neg c]) | (simp only [if_pos c']) | (simp only [if_neg c']), h, frL.refl σ⟩
theorem m_lay15 {l i : Int} (hl : 0 ≤ l ∧ l < 6) (hi : -2147483648 ≤ i ∧ i < 2147483648) : ∀ (d k n : Nat) (s : zS), (k : Int) + d = s 144 8 → d < n → s 144 8 ≤ 60 → -1 ≤ s 166 l ∧ s 166 l ≤ 60 → ∃ c s', g_m_lay_L15 n l i (k : Int) s = some (c, s') ∧ ∀ a j, a ≠ 167 → s' a j = s a j
  | _, _, 0, _, _, h, _, _ => absurd h (Nat.not_lt_zero _)
  | 0, k, n + 1, s, hk, _, _, _ => by
    refine ⟨s 144 8, s, ?_, fun _ _ _ => rfl⟩
    unfold g_m_lay_L15
    show (if s 144 8 ≤ (k : Int) then _ else _) = _
    rw [if_pos (by omega)]
  | d + 1, k, n + 1, s, hk, hn, h8, hlen => by
    unfold g_m_lay_L15
    show ∃ c s', (if s 144 8 ≤ (k : Int) then _ else _) = _ ∧ _
    rw [if_neg (by omega)]
    by_cases c1 : i < 0
    · rw [if_pos c1]; exact ⟨_, s, rfl, fun _ _ _ => rfl⟩
    · rw [if_neg c1, if_pos hl]
      dsimp only
      rw [w32_id (x := s 166 l - i) (by omega) (by omega)]
      by_cases c2 : (k : Int) < s 166 l - i
      · rw [if_pos c2, w32_id (x := 61 + (k : Int)) (by omega) (by omega), if_pos (by omega), w32_id (x := 60 * l) (by omega) (by omega), w32_id (x := 60 * l + i) (by omega) (by omega), w32_id (x := 60 * l + i + (k : Int)) (by omega) (by omega), if_pos (by omega), w32_id (x := (k : Int) + 1) (by omega) (by omega)]
        obtain ⟨c, s', e1, e2⟩ := m_lay15 hl hi d (k + 1) n (zu s 167 (60 * l + i + (k : Int)) (s 147 (61 + (k : Int)))) (by rw [zu_a (by decide)]; omega) (by omega) (by rw [zu_a (by decide)]; exact h8) (by rw [zu_a (by decide)]; exact hlen)
        rw [show ((k + 1 : Nat) : Int) = (k : Int) + 1 by omega] at e1
        exact ⟨c, s', e1, fun a j h => (e2 a j h).trans (zu_a h)⟩
      · rw [if_neg c2]; exact ⟨_, s, rfl, fun _ _ _ => rfl⟩
end
section
/-! 46.refg -/
/-! THE REFERENCE over the typed memory: lay, judge, feed, clear, image, undo, rows in and out, queries, what is told -/
/-- a call that leaves the tape's length, the lists and all that is not the reference's as it was -/
def frC (σ s : zS) : Prop := ∀ a j, (a < 143 ∨ 168 ≤ a ∨ a = 159 ∨ a = 166 ∨ a = 167 ∨ (a = 143 ∧ j = 20)) → s a j = σ a j
theorem frC.refl (σ : zS) : frC σ σ := fun _ _ _ => rfl
theorem frC.trans {σ s t : zS} (h1 : frC σ s) (h2 : frC s t) : frC σ t := fun a j k => (h2 a j k).trans (h1 a j k)
theorem MI_sam {σ : zS} (h : MI σ) (c : Int) : ∃ v s, (some (c, σ) : Option (Int × zS)) = some (v, s) ∧ MI s ∧ frC σ s := ⟨c, σ, rfl, h, frC.refl σ⟩
theorem MI_q {σ s : zS} (h : MI σ) (hN : NI s) (hH : HI s) (q : ∀ a j, (a = 166 ∨ a = 145 ∨ (a = 143 ∧ (j = 6 ∨ j = 20 ∨ j = 27 ∨ j = 29 ∨ j = 32))) → s a j = σ a j) : MI s :=
  ⟨hN, hH, XI_fr h.2.2.1 (fun j hj => q 143 j (by omega)) (fun j => q 166 j (by omega)), II_fr h.2.2.2 (q 143 6 (by omega)) (fun j => q 145 j (by omega))⟩
theorem m_lay {l i : Int} {σ : zS} (h : MI σ) (hi : -2147483648 ≤ i ∧ i < 2147483648) : ∃ c s, g_m_lay l i σ = some (c, s) ∧ MI s ∧ frL σ s := by
  unfold g_m_lay
  rw [m_wrong]
  rw [Option.bind_some]
  try dsimp only
  by_cases c : 0 ≤ l ∧ l < 6
  · have hlen := h.2.2.1.len c
    rw [if_pos c]
    by_cases c1 : 0 ≤ σ 166 l
    · rw [if_pos c1, if_pos rfl]
      have h8 := h.2.1.2.2.1
      obtain ⟨v, s', e1, e2⟩ := m_lay15 c hi (σ 144 8).toNat 0 zK σ (by omega) (by show _ < 1000000; omega) h8.2 hlen
      exact ⟨v, s', e1, MI_144 h (fun a j hh => e2 a j (by omega)), fun a j hh => e2 a j (by omega)⟩
    · rw [if_neg c1, if_neg (by decide)]; exact ⟨_, σ, rfl, h, frL.refl σ⟩
  · rw [if_neg c, if_neg (by decide)]; exact ⟨_, σ, rfl, h, frL.refl σ⟩
theorem m_judge15 {l i : Int} {σ : zS} (hl : 0 ≤ l ∧ l < 6) (hi : -2147483648 ≤ i ∧ i < 2147483648) (h8 : σ 144 8 ≤ 60) (hlen : -1 ≤ σ 166 l ∧ σ 166 l ≤ 60) : ∀ (d k n : Nat), (k : Int) + d = σ 144 8 → d < n → ∃ c, g_m_judge_L15 n l i (k : Int) σ = some (c, σ)
  | _, _, 0, _, h => absurd h (Nat.not_lt_zero _)
  | 0, k, n + 1, hk, _ => by
    refine ⟨-5, ?_⟩
    unfold g_m_judge_L15
    show (if σ 144 8 ≤ (k : Int) then _ else _) = _
    rw [if_pos (by omega)]
  | d + 1, k, n + 1, hk, hn => by
    unfold g_m_judge_L15
    show ∃ c, (if σ 144 8 ≤ (k : Int) then _ else _) = _
    rw [if_neg (by omega)]
    by_cases c1 : i < 0
    · rw [if_pos c1]; exact ⟨_, rfl⟩
    · rw [if_neg c1, if_pos hl]
      dsimp only
      rw [w32_id (x := σ 166 l - i) (by omega) (by omega)]
      by_cases c2 : (k : Int) < σ 166 l - i
      · rw [if_pos c2, w32_id (x := 60 * l) (by omega) (by omega), w32_id (x := 60 * l + i) (by omega) (by omega), w32_id (x := 60 * l + i + (k : Int)) (by omega) (by omega), if_pos (by omega), w32_id (x := 61 + (k : Int)) (by omega) (by omega), if_pos (by omega), w32_id (x := (k : Int) + 1) (by omega) (by omega)]
        obtain ⟨c, e1⟩ := m_judge15 hl hi h8 hlen d (k + 1) n (by omega) (by omega)
        rw [show ((k + 1 : Nat) : Int) = (k : Int) + 1 by omega] at e1
        split
        · exact ⟨c, e1⟩
        · exact ⟨_, rfl⟩
      · rw [if_neg c2]; exact ⟨_, rfl⟩
theorem m_judge {l i : Int} {σ : zS} (h : MI σ) (hi : -2147483648 ≤ i ∧ i < 2147483648) : ∃ c, g_m_judge l i σ = some (c, σ) := by
  unfold g_m_judge
  rw [m_wrong]
  rw [Option.bind_some]
  try dsimp only
  by_cases c : 0 ≤ l ∧ l < 6
  · have hlen := h.2.2.1.len c
    rw [if_pos c]
    by_cases c1 : 0 ≤ σ 166 l
    · rw [if_pos c1, if_pos rfl]
      have h8 := h.2.1.2.2.1
      exact m_judge15 c hi h8.2 hlen (σ 144 8).toNat 0 zK (by omega) (by show _ < 1000000; omega)
    · rw [if_neg c1, if_neg (by decide)]; exact ⟨_, rfl⟩
  · rw [if_neg c, if_neg (by decide)]; exact ⟨_, rfl⟩
/-- what feed() answers of a tape of that length -/
def feedA (n x : Int) : Int := if 1 ≤ x ∧ x ≤ 127 then (if n ≠ 160 then n + 1 else -4) else -2
def feedN (n x : Int) : Int := if 1 ≤ x ∧ x ≤ 127 then (if n ≠ 160 then n + 1 else n) else n
theorem m_feed {x : Int} {σ : zS} (h : MI σ) : ∃ s, g_m_feed x σ = some (feedA (σ 143 20) x, s) ∧ MI s ∧ s 143 20 = feedN (σ 143 20) x ∧ ∀ a j, a ≠ 159 → ¬ (a = 143 ∧ j = 20) → s a j = σ a j := by
  unfold g_m_feed feedA feedN
  have h20 := h.2.2.1.1
  by_cases c : 1 ≤ x ∧ x ≤ 127
  · rw [s_isIn_t c.1 c.2]
    rw [Option.bind_some]
    try dsimp only
    rw [if_pos (by decide), if_pos c, if_pos c]
    by_cases c1 : σ 143 20 ≠ 160
    · rw [if_pos c1, if_pos c1, if_pos c1, if_pos (by omega)]
      have q : zu σ 159 (σ 143 20) x 143 20 = σ 143 20 := zu_a (by decide)
      rw [q, w32_id (x := σ 143 20 + 1) (by omega) (by omega), zu_e (σ := zu σ 159 (σ 143 20) x) (a := 143) (i := 20) (j := 20) rfl]
      have q2 : ∀ a j, a ≠ 159 → ¬ (a = 143 ∧ j = 20) → zu (zu σ 159 (σ 143 20) x) 143 20 (σ 143 20 + 1) a j = σ a j := fun a j h1 h2 => by rw [zu_c (by omega), zu_a h1]
      refine ⟨_, rfl, ⟨NI_fr h.1 (fun j _ => q2 144 j (by omega) (by omega)), HI_fr8 h.2.1 (fun j _ _ => q2 144 j (by omega) (by omega)), ?_, II_fr h.2.2.2 (q2 143 6 (by omega) (by omega)) (fun j => q2 145 j (by omega) (by omega))⟩, zu_e rfl, q2⟩
      obtain ⟨x1, x2, x3, x4, x5⟩ := h.2.2.1
      refine ⟨by rw [zu_e rfl]; omega, by rw [q2 143 27 (by omega) (by omega)]; exact x2, by rw [q2 143 29 (by omega) (by omega)]; exact x3, by rw [q2 143 32 (by omega) (by omega)]; exact x4, fun k hk => ?_⟩
      rw [q2 166 _ (by omega) (by omega)]
      exact x5 k hk
    · rw [if_neg c1, if_neg c1, if_neg c1]
      exact ⟨σ, rfl, h, rfl, fun _ _ _ _ => rfl⟩
  · rw [s_isIn_f (by omega)]
    rw [Option.bind_some]
    try dsimp only
    rw [if_neg (by decide), if_neg c, if_neg c]
    exact ⟨σ, rfl, h, rfl, fun _ _ _ _ => rfl⟩
theorem m_clear {σ : zS} (h : MI σ) : ∃ s, g_m_clear σ = some (σ 143 20, s) ∧ MI s ∧ s 143 20 = 0 ∧ ∀ a j, ¬ (a = 143 ∧ j = 20) → s a j = σ a j := by
  have q2 : ∀ a j, ¬ (a = 143 ∧ j = 20) → zu σ 143 20 0 a j = σ a j := fun a j h2 => zu_c (by omega)
  refine ⟨zu σ 143 20 0, rfl, ⟨NI_fr h.1 (fun j _ => q2 144 j (by omega)), HI_fr8 h.2.1 (fun j _ _ => q2 144 j (by omega)), ?_, II_fr h.2.2.2 (q2 143 6 (by omega)) (fun j => q2 145 j (by omega))⟩, zu_e rfl, q2⟩
  obtain ⟨x1, x2, x3, x4, x5⟩ := h.2.2.1
  refine ⟨by rw [zu_e rfl]; omega, by rw [q2 143 27 (by omega)]; exact x2, by rw [q2 143 29 (by omega)]; exact x3, by rw [q2 143 32 (by omega)]; exact x4, fun k hk => ?_⟩
  rw [q2 166 _ (by omega)]
  exact x5 k hk
theorem m_image {σ : zS} (h : MI σ) : ∃ v s, g_m_image σ = some (v, s) ∧ MI s ∧ frC σ s := by
  unfold g_m_image
  rw [s_keeps (a := 145) (b := 148) (by decide)]
  rw [Option.bind_some]
  try dsimp only
  have q : ∀ a j, a ≠ 145 → a ≠ 148 → ¬ (a = 143 ∧ j = 6) → zu (kpS σ 145 148) 143 6 1 a j = σ a j := fun a j h1 h2 h3 => by
    rw [zu_c (by omega)]
    unfold kpS
    rw [if_neg (fun e => h1 e.1), if_neg (fun e => h2 e.1)]
  have q5 : ∀ j : Int, 0 ≤ j → j < 2740 → zu (kpS σ 145 148) 143 6 1 145 j = σ 144 j := fun j h1 h2 => by
    rw [zu_a (by decide)]
    unfold kpS
    rw [if_pos ⟨rfl, h1, h2⟩]
  refine ⟨_, _, rfl, ⟨NI_fr h.1 (fun j _ => q 144 j (by omega) (by omega) (by omega)), HI_fr8 h.2.1 (fun j _ _ => q 144 j (by omega) (by omega) (by omega)), XI_fr h.2.2.1 (fun j hj => q 143 j (by omega) (by omega) (by omega)) (fun j => q 166 j (by omega) (by omega) (by omega)), fun _ => ⟨NI_fr h.1 (fun j hj => ?_), HI_fr8 h.2.1 (fun j h1 h2 => ?_)⟩⟩, fun a j hh => q a j (by omega) (by omega) (by omega)⟩
  · show zu (kpS σ 145 148) 143 6 1 145 j = _
    exact q5 j (by omega) (by omega)
  · show zu (kpS σ 145 148) 143 6 1 145 j = _
    exact q5 j (by omega) (by omega)
theorem m_undo {σ : zS} (h : MI σ) : ∃ v s, g_m_undo σ = some (v, s) ∧ MI s ∧ frC σ s := by
  unfold g_m_undo
  by_cases c : σ 143 6 ≠ 0
  · obtain ⟨i1, i2⟩ := h.2.2.2 c
    rw [if_pos c, s_back (a := 145) (b := 148) (by decide)]
    rw [Option.bind_some]
    try dsimp only
    have q : ∀ a j, a ≠ 144 → a ≠ 147 → bkS σ 145 148 a j = σ a j := fun a j h1 h2 => by
      unfold bkS
      rw [if_neg (fun e => h1 e.1), if_neg (fun e => h2 e.1)]
    have q4 : ∀ j : Int, 0 ≤ j → j < 2740 → bkS σ 145 148 144 j = imgS σ 144 j := fun j h1 h2 => by
      unfold bkS
      rw [if_pos ⟨rfl, h1, h2⟩]
      rfl
    exact ⟨_, _, rfl, MI_q h (NI_fr i1 (fun j hj => q4 j (by omega) (by omega))) (HI_fr8 i2 (fun j h1 h2 => q4 j (by omega) (by omega))) (fun a j hh => q a j (by omega) (by omega)), fun a j hh => q a j (by omega) (by omega)⟩
  · rw [if_neg c]; exact MI_sam h _
theorem m_query {x x0 x1 y0 y1 : Int} {σ : zS} (h : MI σ) : ∃ v s, g_m_query x x0 x1 y0 y1 σ = some (v, s) ∧ MI s ∧ frC σ s := by
  obtain ⟨v, s, e1, e2, e3, e4⟩ := s_query (x := x) (x0 := x0) (x1 := x1) (y0 := y0) (y1 := y1) h.2.1 h.1
  have q : ∀ a j, (a < 143 ∨ 168 ≤ a ∨ a = 159 ∨ a = 166 ∨ a = 167 ∨ a = 145 ∨ (a = 143 ∧ (j = 6 ∨ j = 20 ∨ j = 27 ∨ j = 29 ∨ j = 32))) → s a j = σ a j := fun a j hh => e4 a j (by omega) (by omega) (by omega) (by omega) (by omega) (by omega) (by omega) (by omega) (by omega)
  exact ⟨v, s, e1, MI_q h e2 e3 (fun a j hh => q a j (by omega)), fun a j hh => q a j (by omega)⟩
theorem m_put {k x y v : Int} {σ : zS} (h : MI σ) : ∃ c s, g_m_put k x y v σ = some (c, s) ∧ MI s ∧ frC σ s := by
  obtain ⟨c, s, e1, e2, e3, e4⟩ := s_put (r := k) (x := x) (y := y) (v := v) h.2.1 h.1
  have q : ∀ a j, (a < 143 ∨ 168 ≤ a ∨ a = 159 ∨ a = 166 ∨ a = 167 ∨ a = 145 ∨ (a = 143 ∧ (j = 6 ∨ j = 20 ∨ j = 27 ∨ j = 29 ∨ j = 32))) → s a j = σ a j := fun a j hh => e4 a j (by omega) (by omega) (by omega) (by omega) (by omega) (by omega) (by omega) (by omega) (by omega)
  exact ⟨c, s, e1, MI_q h e2 e3 (fun a j hh => q a j (by omega)), fun a j hh => q a j (by omega)⟩
theorem m_take {k : Int} {σ : zS} (h : MI σ) : ∃ c s, g_m_take k σ = some (c, s) ∧ MI s ∧ frC σ s := by
  obtain ⟨c, s, e1, e2, e3, e4⟩ := s_take (r := k) h.2.1 h.1
  have q : ∀ a j, (a < 143 ∨ 168 ≤ a ∨ a = 159 ∨ a = 166 ∨ a = 167 ∨ a = 145 ∨ (a = 143 ∧ (j = 6 ∨ j = 20 ∨ j = 27 ∨ j = 29 ∨ j = 32))) → s a j = σ a j := fun a j hh => e4 a j (by omega) (by omega) (by omega) (by omega) (by omega) (by omega) (by omega) (by omega) (by omega)
  exact ⟨c, s, e1, MI_q h e2 e3 (fun a j hh => q a j (by omega)), fun a j hh => q a j (by omega)⟩
theorem MI_in {σ s : zS} (h : MI σ) (e1 : sameIn σ s 144 144 2740) (e2 : frD σ s) : MI s ∧ frC σ s := by
  have q : ∀ a j, (a < 143 ∨ 168 ≤ a ∨ a = 159 ∨ a = 166 ∨ a = 167 ∨ a = 145 ∨ (a = 143 ∧ (j = 6 ∨ j = 20 ∨ j = 27 ∨ j = 29 ∨ j = 32))) → s a j = σ a j := fun a j hh => e2 a j (by omega) (by omega) (by omega) (by omega) (by omega) (by omega) (by omega) (by omega) (by omega)
  exact ⟨MI_q h (NI_in h.1 e1) (HI_in h.2.1 e1) (fun a j hh => q a j (by omega)), fun a j hh => q a j (by omega)⟩
theorem m_again {x y : Int} {σ : zS} (h : MI σ) : ∃ c s, g_m_again x y σ = some (c, s) ∧ MI s ∧ frC σ s := by
  obtain ⟨c, s, e1, e2, _, e4⟩ := s_again (x := x) (y := y) h.2.1
  exact ⟨c, s, e1, MI_in h e2 e4⟩
theorem m_least {x : Int} {σ : zS} (h : MI σ) : ∃ c s, g_m_least x σ = some (c, s) ∧ MI s ∧ frC σ s := by
  obtain ⟨c, s, e1, e2, _, e4⟩ := s_least (x := x) h.2.1
  exact ⟨c, s, e1, MI_in h e2 e4⟩
theorem m_row {x y : Int} {σ : zS} : ∃ c, g_m_row x y σ = some (c, σ) := by
  unfold g_m_row
  rw [s_isRow]
  rw [Option.bind_some]
  try dsimp only
  by_cases c : 0 ≤ x ∧ x < 60
  · rw [if_pos c, if_neg (by decide)]
    by_cases c1 : 0 ≤ y ∧ y ≤ 1
    · rw [s_isIn_t c1.1 c1.2]
      rw [Option.bind_some]
      try dsimp only
      rw [if_pos (by decide), s_rowAt (by omega) (by omega)]
      rw [Option.bind_some]
      try dsimp only
      rw [if_pos (by omega)]
      by_cases c2 : σ 144 (20 + 3 * x) ≠ 0
      · rw [if_pos c2, s_rowAt (by omega) (by omega), Option.bind_some]
        dsimp only
        rw [w32_id (x := 20 + 3 * x + 1) (by omega) (by omega), w32_id (x := 20 + 3 * x + 1 + y) (by omega) (by omega), if_pos (by omega)]
        exact ⟨_, rfl⟩
      · rw [if_neg c2]; exact ⟨_, rfl⟩
    · rw [s_isIn_f (by omega)]
      rw [Option.bind_some]
      try dsimp only
      rw [if_neg (by decide)]
      exact ⟨_, rfl⟩
  · rw [if_neg c, if_pos (by decide)]
    exact ⟨_, rfl⟩
theorem m_worth {x : Int} {σ : zS} : ∃ c, g_m_worth x σ = some (c, σ) := by
  unfold g_m_worth
  rw [s_isRow]
  rw [Option.bind_some]
  try dsimp only
  by_cases c : 0 ≤ x ∧ x < 60
  · rw [if_pos c, if_neg (by decide), s_rowAt (by omega) (by omega)]
    rw [Option.bind_some]
    try dsimp only
    rw [if_pos (by omega)]
    by_cases c2 : σ 144 (20 + 3 * x) ≠ 1
    · rw [if_pos c2]; exact ⟨_, rfl⟩
    · rw [if_neg c2, w32_id (x := 1 + x) (by omega) (by omega), if_pos (by omega)]
      exact ⟨_, rfl⟩
  · rw [if_neg c, if_pos (by decide)]
    exact ⟨_, rfl⟩
theorem m_find {x : Int} {σ : zS} (h : MI σ) : ∃ c, g_m_find x σ = some (c, σ) := by
  unfold g_m_find
  have h8 := h.2.1.2.2.1
  by_cases c : x ≠ -1
  · rw [if_pos c]
    dsimp only
    rw [w32_id (x := σ 144 8 - 1) (by omega) (by omega)]
    by_cases c1 : 0 ≤ x ∧ x ≤ σ 144 8 - 1
    · rw [s_isIn_t c1.1 c1.2]
      rw [Option.bind_some]
      try dsimp only
      rw [if_neg (by decide), w32_id (x := 200 + x) (by omega) (by omega), if_pos (by omega)]
      exact ⟨_, rfl⟩
    · rw [s_isIn_f (by omega)]
      rw [Option.bind_some]
      try dsimp only
      rw [if_pos (by decide)]
      exact ⟨_, rfl⟩
  · rw [if_neg c]; exact ⟨_, rfl⟩
theorem m_piece {x y : Int} {σ : zS} (h : MI σ) : ∃ c, g_m_piece x y σ = some (c, σ) := by
  unfold g_m_piece
  have h32 := h.2.2.1.2.2.2.1
  show ∃ c, (g_m_isIn x 0 (w32 (σ 143 32 - 1)) σ).bind _ = _
  rw [w32_id (x := σ 143 32 - 1) (by omega) (by omega)]
  by_cases c1 : 0 ≤ x ∧ x ≤ σ 143 32 - 1
  · rw [s_isIn_t c1.1 c1.2]
    rw [Option.bind_some]
    try dsimp only
    rw [if_neg (by decide)]
    by_cases c2 : 0 ≤ y ∧ y ≤ 4
    · rw [s_isIn_t c2.1 c2.2]
      rw [Option.bind_some]
      try dsimp only
      rw [if_neg (by decide), w32_id (x := 5 * x) (by omega) (by omega), w32_id (x := 5 * x + y) (by omega) (by omega), if_pos (by omega)]
      exact ⟨_, rfl⟩
    · rw [s_isIn_f (by omega)]
      rw [Option.bind_some]
      try dsimp only
      rw [if_pos (by decide)]
      exact ⟨_, rfl⟩
  · rw [s_isIn_f (by omega)]
    rw [Option.bind_some]
    try dsimp only
    rw [if_pos (by decide)]
    exact ⟨_, rfl⟩
theorem m_weight {x : Int} {σ : zS} (h : MI σ) : ∃ c, g_m_weight x σ = some (c, σ) := by
  obtain ⟨N, n1, n2, _⟩ := h.1
  unfold g_m_weight
  show ∃ c, (g_m_isIn x 0 (w32 (σ 144 0 - 1)) σ).bind _ = _
  rw [w32_id (x := σ 144 0 - 1) (by omega) (by omega)]
  by_cases c1 : 0 ≤ x ∧ x ≤ σ 144 0 - 1
  · rw [s_isIn_t c1.1 c1.2]
    rw [Option.bind_some]
    try dsimp only
    rw [if_neg (by decide), w32_id (x := 121 + x) (by omega) (by omega), if_pos (by omega)]
    exact ⟨_, rfl⟩
  · rw [s_isIn_f (by omega)]
    rw [Option.bind_some]
    try dsimp only
    rw [if_pos (by decide)]
    exact ⟨_, rfl⟩
theorem m_region {x y : Int} {σ : zS} (h : MI σ) : ∃ c, g_m_region_248 x y σ = some (c, σ) := by
  obtain ⟨N, n1, n2, _⟩ := h.1
  unfold g_m_region_248
  show ∃ c, (g_m_isIn x 0 (w32 (σ 144 0 - 1)) σ).bind _ = _
  rw [w32_id (x := σ 144 0 - 1) (by omega) (by omega)]
  by_cases c1 : 0 ≤ x ∧ x ≤ σ 144 0 - 1
  · rw [s_isIn_t c1.1 c1.2]
    rw [Option.bind_some]
    try dsimp only
    rw [if_neg (by decide)]
    by_cases c2 : 0 ≤ y ∧ y ≤ 11
    · rw [s_isIn_t c2.1 c2.2]
      rw [Option.bind_some]
      try dsimp only
      rw [if_pos (by decide), s_region (by omega) (by omega)]
      rw [Option.bind_some]
      try dsimp only
      by_cases c3 : 4 ≤ y
      · rw [if_pos c3]
        by_cases c4 : y ≠ 4
        · rw [if_pos c4]
          by_cases c5 : y ≠ 5
          · rw [if_pos c5]
            by_cases c6 : 10 ≤ y
            · rw [if_pos c6]
              by_cases c7 : y ≠ 10
              · rw [if_pos c7, s_cost (by omega) (by rw [l144]; omega) (by rw [l144]; omega)]
                exact ⟨_, rfl⟩
              · rw [if_neg c7, s_size (by omega) (by omega)]
                exact ⟨_, rfl⟩
            · rw [if_neg c6, w32_id (x := 340 + 10 * x + 4) (by omega) (by omega), w32_id (x := 340 + 10 * x + 4 + y) (by omega) (by omega), w32_id (x := 340 + 10 * x + 4 + y - 6) (by omega) (by omega), if_pos (by omega)]
              exact ⟨_, rfl⟩
          · rw [if_neg c5, w32_id (x := 340 + 10 * x + 9) (by omega) (by omega), if_pos (by omega)]
            exact ⟨_, rfl⟩
        · rw [if_neg c4, w32_id (x := 340 + 10 * x + 8) (by omega) (by omega), if_pos (by omega)]
          exact ⟨_, rfl⟩
      · rw [if_neg c3, w32_id (x := 340 + 10 * x + y) (by omega) (by omega), if_pos (by omega)]
        exact ⟨_, rfl⟩
    · rw [s_isIn_f (by omega)]
      rw [Option.bind_some]
      try dsimp only
      rw [if_neg (by decide)]
      exact ⟨_, rfl⟩
  · rw [s_isIn_f (by omega)]
    rw [Option.bind_some]
    try dsimp only
    rw [if_pos (by decide)]
    exact ⟨_, rfl⟩
theorem s_rows4 {σ : zS} : ∀ (d k n : Nat) (x : Int), k + d = 60 → d < n → ∃ c, g_m_rows_L4 n x (k : Int) σ = some (c, σ)
  | _, _, 0, _, _, h => absurd h (Nat.not_lt_zero _)
  | 0, k, n + 1, x, hk, _ => by
    unfold g_m_rows_L4
    rw [if_pos (by omega)]
    exact ⟨_, rfl⟩
  | d + 1, k, n + 1, x, hk, hn => by
    unfold g_m_rows_L4
    rw [if_neg (by omega), s_rowAt (by omega) (by omega)]
    rw [Option.bind_some]
    try dsimp only
    rw [if_pos (by omega), w32_id (x := (k : Int) + 1) (by omega) (by omega)]
    have e1 := s_rows4 (σ := σ) d (k + 1) n (w32 (x + σ 144 (20 + 3 * (k : Int)))) (by omega) (by omega)
    rw [show ((k + 1 : Nat) : Int) = (k : Int) + 1 by omega] at e1
    exact e1
theorem m_told {x : Int} {σ : zS} (h : MI σ) : ∃ c, g_m_told x σ = some (c, σ) := by
  obtain ⟨N, n1, n2, _⟩ := h.1
  unfold g_m_told
  by_cases c0 : x ≠ 0
  · rw [if_pos c0]
    by_cases c1 : x ≠ 1
    · rw [if_pos c1]
      by_cases c2 : 2 ≤ x ∧ x ≤ 7
      · rw [s_isIn_t c2.1 c2.2]
        rw [Option.bind_some]
        try dsimp only
        rw [if_neg (by decide), w32_id (x := 2 + x) (by omega) (by omega), w32_id (x := 2 + x - 2) (by omega) (by omega), if_pos (by omega)]
        exact ⟨_, rfl⟩
      · rw [s_isIn_f (by omega)]
        rw [Option.bind_some]
        try dsimp only
        rw [if_pos (by decide)]
        by_cases c8 : x ≠ 8
        · rw [if_pos c8]
          by_cases c9 : x ≠ 9
          · rw [if_pos c9]
            by_cases c10 : x ≠ 10
            · rw [if_pos c10]; exact ⟨_, rfl⟩
            · rw [if_neg c10]; exact ⟨_, rfl⟩
          · rw [if_neg c9]
            obtain ⟨c, e⟩ := s_rows4 (σ := σ) 60 0 zK 0 rfl (by show 60 < 1000000; omega)
            unfold g_m_rows
            rw [show ((0 : Nat) : Int) = 0 from rfl] at e
            rw [e]
            exact ⟨_, rfl⟩
        · rw [if_neg c8]; exact ⟨_, rfl⟩
    · rw [if_neg c1, s_sizes n2 (by omega)]
      exact ⟨_, rfl⟩
  · rw [if_neg c0]; exact ⟨_, rfl⟩
theorem m_flush {σ : zS} (h : MI σ) : ∃ v s, g_m_flush σ = some (v, s) ∧ MI s ∧ frC σ s := by
  refine ⟨_, _, rfl, MI_q h ⟨0, by omega, zu_e rfl, ⟨fun k hk => absurd hk (Nat.not_lt_zero _), fun k1 k2 _ hk => absurd hk (Nat.not_lt_zero _)⟩⟩ (HI_fr8 h.2.1 (fun j h1 _ => zu_i (by omega))) (fun a j hh => zu_a (by omega)), fun a j hh => zu_a (by omega)⟩
theorem m_trace {x0 x1 y0 y1 : Int} {σ : zS} (h : MI σ) : ∃ v s, g_m_trace x0 x1 y0 y1 σ = some (v, s) ∧ MI s ∧ frC σ s := by
  unfold g_m_trace
  have l := l144
  obtain ⟨h1, h2, h3, h4, h5, h6, h7⟩ := h.2.1
  by_cases c : x0 ≠ -1
  · rw [if_pos c]
    by_cases c2 : bOk (x0, x1, y0, y1)
    · rw [s_isBox_t c2]
      rw [Option.bind_some]
      try dsimp only
      rw [if_pos (by decide)]
      by_cases c3 : σ 144 9 ≠ 10
      · rw [if_pos c3, w32_id (x := 4 * σ 144 9) (by omega) (by omega), w32_id (x := 260 + 4 * σ 144 9) (by omega) (by omega), s_sets (by omega) (by omega) (by omega)]
        rw [Option.bind_some]
        try dsimp only
        have q9 : zb σ 144 (260 + 4 * σ 144 9) (x0, x1, y0, y1) 144 9 = σ 144 9 := zb_i (by omega)
        rw [q9, w32_id (x := σ 144 9 + 1) (by omega) (by omega)]
        have q : ∀ a j, (a ≠ 144 ∨ j < 9 ∨ (9 < j ∧ j < 260 + 4 * σ 144 9) ∨ 264 + 4 * σ 144 9 ≤ j) → zu (zb σ 144 (260 + 4 * σ 144 9) (x0, x1, y0, y1)) 144 9 (σ 144 9 + 1) a j = σ a j := fun a j hh => by
          rw [zu_c (by omega)]
          by_cases ca : a = 144
          · subst ca; exact zb_i (by omega)
          · exact zb_a ca
        refine ⟨_, _, rfl, MI_q h (NI_fr h.1 (fun j hj => q 144 j (by omega))) ?_ (fun a j hh => q a j (by omega)), fun a j hh => q a j (by omega)⟩
        refine ⟨by rw [q 144 12 (by omega)]; exact h1, by rw [q 144 13 (by omega)]; exact h2, by rw [q 144 8 (by omega)]; exact h3, by rw [zu_e rfl]; omega, by rw [q 144 10 (by omega)]; exact h5, fun t ht => ?_, fun r hr => ?_⟩
        · rw [zu_e rfl] at ht
          rw [zu_bxi (by omega)]
          by_cases ct : (t : Int) = σ 144 9
          · rw [ct, zb_bx rfl]; exact c2
          · rw [zb_bxi (by omega)]; exact h6 t (by omega)
        · rw [q 144 _ (by omega), q 144 _ (by omega)]
          exact h7 r hr
      · rw [if_neg c3]; exact MI_sam h _
    · rw [s_isBox_f c2]
      rw [Option.bind_some]
      try dsimp only
      rw [if_neg (by decide)]
      exact MI_sam h _
  · rw [if_neg c]
    have q : ∀ a j, (a ≠ 144 ∨ j ≠ 9) → zu σ 144 9 0 a j = σ a j := fun a j hh => zu_c hh
    refine ⟨_, _, rfl, MI_q h (NI_fr h.1 (fun j hj => q 144 j (by omega))) ?_ (fun a j hh => q a j (by omega)), fun a j hh => q a j (by omega)⟩
    refine ⟨by rw [q 144 12 (by omega)]; exact h1, by rw [q 144 13 (by omega)]; exact h2, by rw [q 144 8 (by omega)]; exact h3, by rw [zu_e rfl]; omega, by rw [q 144 10 (by omega)]; exact h5, fun t ht => ?_, fun r hr => ?_⟩
    · rw [zu_e rfl] at ht; omega
    · rw [q 144 _ (by omega), q 144 _ (by omega)]
      exact h7 r hr
theorem m_watch {x x0 x1 y0 y1 : Int} {σ : zS} (h : MI σ) : ∃ v s, g_m_watch x x0 x1 y0 y1 σ = some (v, s) ∧ MI s ∧ frC σ s := by
  unfold g_m_watch
  have l := l144
  obtain ⟨h1, h2, h3, h4, h5, h6, h7⟩ := h.2.1
  by_cases c : 0 ≤ x ∧ x ≤ 6
  · rw [s_isIn_t c.1 c.2]
    rw [Option.bind_some]
    try dsimp only
    rw [if_pos (by decide)]
    by_cases c2 : bOk (x0, x1, y0, y1)
    · rw [s_isBox_t c2]
      rw [Option.bind_some]
      try dsimp only
      rw [if_pos (by decide)]
      by_cases c3 : σ 144 10 ≠ 6
      · rw [if_pos c3, w32_id (x := 6 * σ 144 10) (by omega) (by omega), w32_id (x := 300 + 6 * σ 144 10) (by omega) (by omega), if_pos (by omega), w32_id (x := 300 + 6 * σ 144 10 + 1) (by omega) (by omega), w32_id (x := 300 + 6 * σ 144 10 + 5) (by omega) (by omega), s_sets (by omega) (by omega) (by omega)]
        rw [Option.bind_some]
        try dsimp only
        rw [if_pos (by omega)]
        generalize hs : zu (zb (zu σ 144 (300 + 6 * σ 144 10) x) 144 (300 + 6 * σ 144 10 + 1) (x0, x1, y0, y1)) 144 (300 + 6 * σ 144 10 + 5) 0 = s1
        have q : ∀ a j, (a ≠ 144 ∨ j < 300 ∨ 336 ≤ j) → s1 a j = σ a j := fun a j hh => by
          rw [← hs, zu_c (by omega)]
          by_cases ca : a = 144
          · subst ca
            rw [zb_i (by omega), zu_i (by omega)]
          · rw [zb_a ca, zu_a ca]
        have q10 : s1 144 10 = σ 144 10 := q 144 10 (by omega)
        rw [q10, w32_id (x := σ 144 10 + 1) (by omega) (by omega)]
        have q2 : ∀ a j, (a ≠ 144 ∨ (j < 300 ∧ j ≠ 10) ∨ 336 ≤ j) → zu s1 144 10 (σ 144 10 + 1) a j = σ a j := fun a j hh => by
          rw [zu_c (by omega)]
          exact q a j (by omega)
        refine ⟨_, _, rfl, MI_q h (NI_fr h.1 (fun j hj => q2 144 j (by omega))) ?_ (fun a j hh => q2 a j (by omega)), fun a j hh => q2 a j (by omega)⟩
        refine ⟨by rw [q2 144 12 (by omega)]; exact h1, by rw [q2 144 13 (by omega)]; exact h2, by rw [q2 144 8 (by omega)]; exact h3, by rw [q2 144 9 (by omega)]; exact h4, by rw [zu_e rfl]; omega, fun t ht => ?_, fun r hr => ?_⟩
        · rw [q2 144 9 (by omega)] at ht
          unfold bxA
          rw [q2 144 _ (by omega), q2 144 _ (by omega), q2 144 _ (by omega), q2 144 _ (by omega)]
          exact h6 t ht
        · rw [q2 144 _ (by omega), q2 144 _ (by omega)]
          exact h7 r hr
      · rw [if_neg c3]; exact MI_sam h _
    · rw [s_isBox_f c2]
      rw [Option.bind_some]
      try dsimp only
      rw [if_neg (by decide)]
      exact MI_sam h _
  · rw [s_isIn_f (by omega)]
    rw [Option.bind_some]
    try dsimp only
    rw [if_neg (by decide)]
    exact MI_sam h _
theorem m_changes {x : Int} {σ : zS} (h : MI σ) : ∃ c, g_m_changes x σ = some (c, σ) := by
  have h5 := h.2.1.2.2.2.2.1
  unfold g_m_changes
  rw [s_isWatch h5]
  rw [Option.bind_some]
  try dsimp only
  by_cases c : 0 ≤ x ∧ x < σ 144 10
  · rw [if_pos c, if_neg (by decide), w32_id (x := 6 * x) (by omega) (by omega), w32_id (x := 300 + 6 * x) (by omega) (by omega), w32_id (x := 300 + 6 * x + 5) (by omega) (by omega), if_pos (by omega)]
    exact ⟨_, rfl⟩
  · rw [if_neg c, if_pos rfl]
    exact ⟨_, rfl⟩
theorem m_value {x : Int} {σ : zS} (h : MI σ) : ∃ v s, g_m_value x σ = some (v, s) ∧ MI s ∧ frC σ s := by
  obtain ⟨v, s, e1, e2⟩ := s_value (k := x) h.2.1.2.2.2.2.1
  have q : ∀ a j, (a ≠ 143 ∨ (j ≠ 14 ∧ j ≠ 15 ∧ j ≠ 21 ∧ j ≠ 22 ∧ j ≠ 23)) → a ≠ 154 → a ≠ 155 → s a j = σ a j := e2
  exact ⟨v, s, e1, MI_q h (NI_fr h.1 (fun j _ => q 144 j (by omega) (by omega) (by omega))) (HI_fr8 h.2.1 (fun j _ _ => q 144 j (by omega) (by omega) (by omega))) (fun a j hh => q a j (by omega) (by omega) (by omega)), fun a j hh => q a j (by omega) (by omega) (by omega)⟩
end
section
/-! 47.refh -/
/-! THE REFERENCE over the typed memory: reading the tape: signs, numbers, words; the test of a query, valued -/
def fr3 (σ s : zS) : Prop := ∀ a j, (a ≠ 143 ∨ (j ≠ 21 ∧ j ≠ 22 ∧ j ≠ 23)) → s a j = σ a j
theorem fr3.refl (σ : zS) : fr3 σ σ := fun _ _ _ => rfl
theorem fr3.trans {σ s t : zS} (h1 : fr3 σ s) (h2 : fr3 s t) : fr3 σ t := fun a j k => (h2 a j k).trans (h1 a j k)
theorem fr3.u {σ : zS} {i v : Int} (h : i = 21 ∨ i = 22 ∨ i = 23) : fr3 σ (zu σ 143 i v) := fun a j k => zu_c (by omega)
/-- the tape's length and the place on it -/
def pI (σ : zS) : Prop := 0 ≤ σ 143 20 ∧ σ 143 20 ≤ 160 ∧ 0 ≤ σ 143 21
/-- what reading a piece of the tape does to them -/
def pO (σ s : zS) (b : Int) : Prop := (b = 0 ∨ b = 1) ∧ s 143 20 = σ 143 20 ∧ σ 143 21 ≤ s 143 21 ∧ (s 143 21 ≤ σ 143 21 ∨ s 143 21 ≤ σ 143 20) ∧ (0 ≤ σ 143 22 → 0 ≤ s 143 22) ∧ (b = 0 → 0 ≤ s 143 22)
def hereC (σ : zS) : Int := if σ 143 20 ≤ σ 143 21 then -1 else σ 159 (σ 143 21)
theorem s_here {σ : zS} (h : pI σ) : g_m_here σ = some (hereC σ, σ) := by
  unfold pI at h
  unfold g_m_here hereC
  by_cases c : σ 143 20 ≤ σ 143 21
  · rw [if_pos c, if_pos c]
  · rw [if_neg c]
    rw [if_neg c]
    exact if_pos (show 0 ≤ σ 143 21 ∧ σ 143 21 < 160 by omega)
theorem hereC_lt {σ : zS} {x : Int} (h : hereC σ = x) (hx : x ≠ -1) : σ 143 21 < σ 143 20 := by
  unfold hereC at h
  by_cases c : σ 143 20 ≤ σ 143 21
  · rw [if_pos c] at h; omega
  · omega
theorem s_fails {x : Int} {σ : zS} (hx : 0 ≤ x) : ∃ s, g_m_fails x σ = some (0, s) ∧ 0 ≤ s 143 22 ∧ ∀ a j, (a ≠ 143 ∨ j ≠ 22) → s a j = σ a j := by
  unfold g_m_fails
  by_cases c : 0 ≤ σ 143 22
  · exact ⟨σ, if_pos c, c, fun _ _ _ => rfl⟩
  · exact ⟨_, if_neg c, by rw [zu_e rfl]; exact hx, fun a j hh => zu_c hh⟩
theorem s_failsO {σ : zS} (h : pI σ) : ∃ s, g_m_fails (σ 143 21) σ = some (0, s) ∧ pO σ s 0 ∧ fr3 σ s := by
  obtain ⟨s, e1, e2, e3⟩ := s_fails (x := σ 143 21) (σ := σ) h.2.2
  have q0 := e3 143 20 (by omega)
  have q1 := e3 143 21 (by omega)
  exact ⟨s, e1, ⟨Or.inl rfl, by omega, by omega, by omega, fun _ => e2, fun _ => e2⟩, fun a j hh => e3 a j (by omega)⟩
theorem pI_of {σ s : zS} {b : Int} (h : pI σ) (o : pO σ s b) : pI s := by
  unfold pI pO at *
  omega
theorem pO_trans {σ s t : zS} {b c : Int} (h1 : pO σ s b) (h2 : pO s t c) : pO σ t c := by
  unfold pO at *
  omega
theorem pI_u {σ : zS} {i v : Int} (h : pI σ) (hi : i = 22 ∨ i = 23) : pI (zu σ 143 i v) := by
  unfold pI at *
  rw [zu_i (by omega), zu_i (by omega)]
  exact h
theorem pO_u {σ : zS} {v : Int} : pO σ (zu σ 143 23 v) 1 := by
  unfold pO
  rw [zu_i (by omega), zu_i (by omega), zu_i (by omega)]
  omega
/-- one place on -/
theorem pO_s {σ : zS} (h : pI σ) (hp : σ 143 21 < σ 143 20) : w32 (σ 143 21 + 1) = σ 143 21 + 1 ∧ pI (zu σ 143 21 (σ 143 21 + 1)) ∧ pO σ (zu σ 143 21 (σ 143 21 + 1)) 1 := by
  unfold pI at h
  refine ⟨w32_id (by omega) (by omega), ?_, ?_⟩
  · unfold pI
    rw [zu_i (by omega), zu_e rfl]
    omega
  · unfold pO
    rw [zu_i (by omega), zu_e rfl, zu_i (by omega)]
    omega
theorem s_isSign {x : Int} {σ : zS} (h : pI σ) (hx : x ≠ -1) : ∃ b s, g_m_isSign x σ = some (b, s) ∧ pO σ s b ∧ fr3 σ s := by
  unfold g_m_isSign
  rw [s_here h]
  rw [Option.bind_some]
  try dsimp only
  by_cases c : hereC σ = x
  · obtain ⟨q1, q2, q3⟩ := pO_s h (hereC_lt c hx)
    rw [if_pos c, q1]
    exact ⟨1, _, rfl, q3, fr3.u (by omega)⟩
  · rw [if_neg c]
    obtain ⟨s, e1, e2, e3⟩ := s_failsO h
    rw [e1]
    rw [Option.bind_some]
    try dsimp only
    rw [if_pos (Or.inl rfl)]
    exact ⟨0, s, rfl, e2, e3⟩
theorem s_isFigure {v : Int} {σ : zS} : g_m_isFigure v σ = some (if 48 ≤ v ∧ v ≤ 57 then 1 else 0, σ) := by
  unfold g_m_isFigure
  by_cases c : 48 ≤ v ∧ v ≤ 57
  · rw [s_isIn_t c.1 c.2, if_pos c]
    rw [Option.bind_some]
    try dsimp only
    rw [if_pos (Or.inr rfl)]
  · rw [s_isIn_f (by omega), if_neg c]
    rw [Option.bind_some]
    try dsimp only
    rw [if_pos (Or.inl rfl)]
theorem s_num84 {lo hi x : Int} {σ : zS} (hx : 0 ≤ x) : ∃ b s, g_m_isNumber_L84 lo hi x σ = some (b, s) ∧ pO σ s b ∧ fr3 σ s ∧ (b = 1 → lo ≤ s 143 23 ∧ s 143 23 ≤ hi) := by
  unfold g_m_isNumber_L84
  show ∃ b s, (g_m_isIn (σ 143 23) lo hi σ).bind _ = _ ∧ _
  by_cases c : lo ≤ σ 143 23 ∧ σ 143 23 ≤ hi
  · rw [s_isIn_t c.1 c.2]
    rw [Option.bind_some]
    try dsimp only
    rw [if_pos (by decide)]
    refine ⟨1, σ, rfl, ?_, fr3.refl σ, fun _ => c⟩
    unfold pO
    omega
  · rw [s_isIn_f (by omega)]
    rw [Option.bind_some]
    try dsimp only
    rw [if_neg (by decide)]
    obtain ⟨s, e1, e2, e3⟩ := s_fails (x := x) (σ := σ) hx
    rw [e1]
    rw [Option.bind_some]
    try dsimp only
    rw [if_pos rfl]
    have q0 := e3 143 20 (by omega)
    have q1 := e3 143 21 (by omega)
    refine ⟨0, s, rfl, ?_, fun a j hh => e3 a j (by omega), fun hh => absurd hh (by decide)⟩
    unfold pO
    omega
theorem s_num33 {w lo hi x : Int} (hx : 0 ≤ x) (hw : w ≤ 100) : ∀ (d k n : Nat) (σ : zS), w ≤ (k : Int) + d → (k : Int) ≤ 100 → d < n → pI σ → ∃ b s, g_m_isNumber_L33 n w lo hi x (k : Int) σ = some (b, s) ∧ pO σ s b ∧ fr3 σ s ∧ (b = 1 → lo ≤ s 143 23 ∧ s 143 23 ≤ hi)
  | _, _, 0, _, _, _, h, _ => absurd h (Nat.not_lt_zero _)
  | d, k, n + 1, σ, hk, hk2, hn, hp => by
    unfold g_m_isNumber_L33
    by_cases c : w ≤ (k : Int)
    · rw [if_pos c]; exact s_num84 hx
    · rw [if_neg c, s_here hp]
      rw [Option.bind_some]
      try dsimp only
      rw [s_isFigure]
      rw [Option.bind_some]
      try dsimp only
      by_cases c2 : 48 ≤ hereC σ ∧ hereC σ ≤ 57
      · rw [if_pos c2, if_neg (by decide), s_here hp]
        rw [Option.bind_some]
        try dsimp only
        cases d with
        | zero => omega
        | succ d =>
          generalize hv : w32 (w32 (w32 (10 * σ 143 23) + hereC σ) - 48) = v
          have hp1 := pI_u (v := v) hp (Or.inr rfl)
          have hlt : zu σ 143 23 v 143 21 < zu σ 143 23 v 143 20 := by
            rw [zu_i (by omega), zu_i (by omega)]
            exact hereC_lt rfl (by omega)
          obtain ⟨q1, q2, q3⟩ := pO_s hp1 hlt
          rw [q1, w32_id (x := (k : Int) + 1) (by omega) (by omega)]
          obtain ⟨b, s, e1, e2, e3, e4⟩ := s_num33 hx hw d (k + 1) n _ (by omega) (by omega) (by omega) q2
          rw [show ((k + 1 : Nat) : Int) = (k : Int) + 1 by omega] at e1
          exact ⟨b, s, e1, pO_trans (pO_trans pO_u q3) e2, ((fr3.u (by omega)).trans (fr3.u (by omega))).trans e3, e4⟩
      · rw [if_neg c2, if_pos rfl]
        exact s_num84 hx
theorem s_number {w lo hi : Int} {σ : zS} (h : pI σ) (hw : w ≤ 100) : ∃ b s, g_m_isNumber w lo hi σ = some (b, s) ∧ pO σ s b ∧ fr3 σ s ∧ (b = 1 → lo ≤ s 143 23 ∧ s 143 23 ≤ hi) := by
  unfold g_m_isNumber
  have hp1 := pI_u (v := 0) h (Or.inr rfl)
  dsimp only
  rw [s_here hp1]
  rw [Option.bind_some]
  try dsimp only
  rw [s_isFigure]
  rw [Option.bind_some]
  try dsimp only
  by_cases c2 : 48 ≤ hereC (zu σ 143 23 0) ∧ hereC (zu σ 143 23 0) ≤ 57
  · rw [if_pos c2, if_pos (by decide)]
    obtain ⟨b, s, e1, e2, e3, e4⟩ := s_num33 (w := w) (lo := lo) (hi := hi) h.2.2 hw 100 0 zK _ (by omega) (by omega) (by show _ < 1000000; omega) hp1
    exact ⟨b, s, e1, pO_trans pO_u e2, (fr3.u (by omega)).trans e3, e4⟩
  · rw [if_neg c2, if_neg (by decide)]
    obtain ⟨s, e1, e2, e3⟩ := s_failsO hp1
    rw [e1]
    rw [Option.bind_some]
    try dsimp only
    rw [if_pos (Or.inl rfl)]
    exact ⟨0, s, rfl, pO_trans pO_u e2, (fr3.u (by omega)).trans e3, fun hh => absurd hh (by decide)⟩
/-- the value of a test: what its calls do to the place -/
def eO (σ s : zS) (b : Int) (u : Int) : Prop := (b = 0 ∨ b = 1) ∧ s 143 20 = σ 143 20 ∧ σ 143 21 + 1 ≤ s 143 21 ∧ s 143 21 ≤ u
theorem pI_z {σ : zS} {v : Int} (h : pI σ) (hv : 0 ≤ v) : pI (zu σ 143 21 v) := by
  unfold pI at *
  rw [zu_i (by omega), zu_e rfl]
  omega
theorem s_hf202 {rec : Nat → Int → zS → Option (Int × zS)} {x y z : Int} {σ : zS} : ∃ b, g_m_holdsFactor_L202 rec x y z σ = some (b, σ) ∧ (b = 0 ∨ b = 1) := by
  unfold g_m_holdsFactor_L202
  split
  · split
    · split
      · exact ⟨0, rfl, Or.inl rfl⟩
      · exact ⟨1, rfl, Or.inr rfl⟩
    · split
      · exact ⟨0, rfl, Or.inl rfl⟩
      · exact ⟨1, rfl, Or.inr rfl⟩
  · split
    · exact ⟨0, rfl, Or.inl rfl⟩
    · exact ⟨1, rfl, Or.inr rfl⟩
/-- from the sign of a comparison on -/
theorem s_hf168 {rec : Nat → Int → zS → Option (Int × zS)} {x y z : Int} {g : Int} {σ : zS} (h : pI σ) (hp : σ 143 21 ≤ 1010) (hg : g = 0 ∨ g = 1) : ∃ b s, g_m_holdsFactor_L168 rec x y z g (σ 143 21) σ = some (b, s) ∧ fr3 σ s ∧ (b = 0 ∨ b = 1) ∧ s 143 20 = σ 143 20 ∧ σ 143 21 ≤ s 143 21 ∧ s 143 21 ≤ zmx (σ 143 21) (σ 143 20) + 1 := by
  have hh := h
  unfold pI at hh
  unfold g_m_holdsFactor_L168
  rw [w32_id (x := σ 143 21 + g) (by omega) (by omega)]
  have hp1 := pI_z (v := σ 143 21 + g) h (by omega)
  obtain ⟨b, s, e1, e2, e3, e4⟩ := s_number (w := 9) (lo := 0) (hi := 999999999) hp1 (by omega)
  dsimp only
  rw [e1]
  rw [Option.bind_some]
  try dsimp only
  have f2 : fr3 σ s := (fr3.u (by omega)).trans e3
  have r : s 143 20 = σ 143 20 ∧ σ 143 21 ≤ s 143 21 ∧ s 143 21 ≤ zmx (σ 143 21) (σ 143 20) + 1 := by
    unfold pO at e2
    rw [zu_i (by omega), zu_e rfl] at e2
    unfold zmx
    split <;> omega
  split
  · obtain ⟨b', e5, e6⟩ := s_hf202 (rec := rec) (x := x) (y := y) (z := s 143 23) (σ := s)
    exact ⟨b', s, e5, f2, e6, r⟩
  · obtain ⟨b', e5, e6⟩ := s_hf202 (rec := rec) (x := x) (y := y) (z := w32 (-s 143 23)) (σ := s)
    exact ⟨b', s, e5, f2, e6, r⟩
theorem s_hf120 {rec : Nat → Int → zS → Option (Int × zS)} {y : Int} {σ : zS} (h : pI σ) (hp : σ 143 21 ≤ 1005) : ∃ b s, g_m_holdsFactor_L120 rec y σ = some (b, s) ∧ fr3 σ s ∧ (b = 0 ∨ b = 1) ∧ s 143 20 = σ 143 20 ∧ σ 143 21 ≤ s 143 21 ∧ s 143 21 ≤ zmx (σ 143 21) (σ 143 20) + 2 := by
  have hh := h
  unfold pI at hh
  unfold g_m_holdsFactor_L120
  rw [s_here h]
  rw [Option.bind_some]
  try dsimp only
  rw [w32_id (x := σ 143 21 + 1) (by omega) (by omega)]
  generalize hs1 : zu σ 143 21 (σ 143 21 + 1) = s1
  have hp1 : pI s1 := by rw [← hs1]; exact pI_z h (by omega)
  have q20 : s1 143 20 = σ 143 20 := by rw [← hs1]; exact zu_i (by omega)
  have q21 : s1 143 21 = σ 143 21 + 1 := by rw [← hs1]; exact zu_e rfl
  have f1 : fr3 σ s1 := by rw [← hs1]; exact fr3.u (by omega)
  rw [s_here hp1]
  rw [Option.bind_some]
  try dsimp only
  have go : ∀ g : Int, g = 0 ∨ g = 1 → ∃ b s, g_m_holdsFactor_L151 rec y (hereC σ) g s1 = some (b, s) ∧ fr3 σ s ∧ (b = 0 ∨ b = 1) ∧ s 143 20 = σ 143 20 ∧ σ 143 21 ≤ s 143 21 ∧ s 143 21 ≤ zmx (σ 143 21) (σ 143 20) + 2 := by
    intro g hg
    unfold g_m_holdsFactor_L151
    dsimp only
    split
    · obtain ⟨b, s, e1, e2, e3, e4, e5, e6⟩ := s_hf168 (rec := rec) (x := y) (y := hereC σ) (z := g) (g := 0) hp1 (by omega) (Or.inl rfl)
      refine ⟨b, s, e1, f1.trans e2, e3, e4.trans q20, by omega, ?_⟩
      rw [q20, q21] at e6
      unfold zmx at *
      split at e6 <;> split <;> omega
    · obtain ⟨b, s, e1, e2, e3, e4, e5, e6⟩ := s_hf168 (rec := rec) (x := y) (y := hereC σ) (z := g) (g := 1) hp1 (by omega) (Or.inr rfl)
      refine ⟨b, s, e1, f1.trans e2, e3, e4.trans q20, by omega, ?_⟩
      rw [q20, q21] at e6
      unfold zmx at *
      split at e6 <;> split <;> omega
  split
  · exact go 0 (Or.inl rfl)
  · exact go 1 (Or.inr rfl)
def evOk (g : Int → zS → Option (Int × zS)) (m : Nat) : Prop := ∀ (r : Int) (σ : zS), 0 ≤ r → r < 60 → pI σ → σ 143 21 ≤ 1000 → σ 143 20 - σ 143 21 ≤ (m : Int) → ∃ b s, g r σ = some (b, s) ∧ fr3 σ s ∧ eO σ s b (zmx (σ 143 21) (σ 143 20) + 4 + m)
theorem s_factor {rec : Nat → Int → zS → Option (Int × zS)} {m : Nat} (hm2 : m ≤ 200) (h233 : ∀ m' : Nat, m' + 1 = m → evOk (rec 233) m') (h231 : ∀ m' : Nat, m' + 1 = m → evOk (rec 231) m') : evOk (g_m_holdsFactor rec) m := by
  intro r σ hr0 hr1 h hp hm
  have hh := h
  unfold pI at hh
  unfold g_m_holdsFactor
  rw [s_here h]
  rw [Option.bind_some]
  try dsimp only
  rw [w32_id (x := σ 143 21 + 1) (by omega) (by omega)]
  generalize hs1 : zu σ 143 21 (σ 143 21 + 1) = s1
  have hp1 : pI s1 := by rw [← hs1]; exact pI_z h (by omega)
  have q20 : s1 143 20 = σ 143 20 := by rw [← hs1]; exact zu_i (by omega)
  have q21 : s1 143 21 = σ 143 21 + 1 := by rw [← hs1]; exact zu_e rfl
  have f1 : fr3 σ s1 := by rw [← hs1]; exact fr3.u (by omega)
  have go : ∀ y : Int, ∃ b s, g_m_holdsFactor_L120 rec y s1 = some (b, s) ∧ fr3 σ s ∧ eO σ s b (zmx (σ 143 21) (σ 143 20) + 4 + m) := by
    intro y
    obtain ⟨b, s, e1, e2, e3, e4, e5, e6⟩ := s_hf120 (rec := rec) (y := y) hp1 (by omega)
    refine ⟨b, s, e1, f1.trans e2, e3, e4.trans q20, by omega, ?_⟩
    rw [q20, q21] at e6
    unfold zmx at *
    split at e6 <;> split <;> omega
  by_cases c1 : hereC σ ≠ 33
  · rw [if_pos c1]
    by_cases c2 : hereC σ ≠ 40
    · rw [if_pos c2]
      by_cases c3 : hereC σ ≠ 119
      · rw [if_pos c3]
        by_cases c4 : hereC σ ≠ 120
        · rw [if_pos c4]
          by_cases c5 : hereC σ ≠ 121
          · rw [if_pos c5]; exact go r
          · rw [if_neg c5, s_rowAt (by omega) (by omega)]
            rw [Option.bind_some]
            try dsimp only
            rw [w32_id (x := 20 + 3 * r + 2) (by omega) (by omega), if_pos (by omega)]
            exact go _
        · rw [if_neg c4, s_rowAt (by omega) (by omega)]
          rw [Option.bind_some]
          try dsimp only
          rw [w32_id (x := 20 + 3 * r + 1) (by omega) (by omega), if_pos (by omega)]
          exact go _
      · rw [if_neg c3, w32_id (x := 1 + r) (by omega) (by omega), if_pos (by omega)]
        exact go _
    · rw [if_neg c2]
      have hlt : σ 143 21 < σ 143 20 := hereC_lt (x := 40) (by omega) (by decide)
      obtain ⟨m', rfl⟩ : ∃ m', m = m' + 1 := ⟨m - 1, by omega⟩
      obtain ⟨b, s, e1, e2, e3⟩ := h231 m' rfl r s1 hr0 hr1 hp1 (by omega) (by omega)
      unfold eO at *
      rw [e1]
      rw [Option.bind_some]
      try dsimp only
      rw [q20, q21] at e3
      unfold zmx at *
      have hb : s 143 21 ≤ 500 := by
        have := e3.2.2.2
        split at this <;> omega
      rw [w32_id (x := s 143 21 + 1) (by omega) (by omega), if_pos e3.1]
      refine ⟨b, _, rfl, (f1.trans e2).trans (fr3.u (by omega)), e3.1, ?_, ?_, ?_⟩
      · rw [zu_i (by omega)]; exact e3.2.1
      · rw [zu_e rfl]; omega
      · rw [zu_e rfl]
        have := e3.2.2.2
        split at this <;> split <;> omega
  · rw [if_neg c1]
    have hlt : σ 143 21 < σ 143 20 := hereC_lt (x := 33) (by omega) (by decide)
    obtain ⟨m', rfl⟩ : ∃ m', m = m' + 1 := ⟨m - 1, by omega⟩
    obtain ⟨b, s, e1, e2, e3⟩ := h233 m' rfl r s1 hr0 hr1 hp1 (by omega) (by omega)
    unfold eO at *
    rw [e1]
    rw [Option.bind_some]
    try dsimp only
    rw [q20, q21] at e3
    unfold zmx at *
    have last : s 143 20 = σ 143 20 ∧ σ 143 21 + 1 ≤ s 143 21 ∧ s 143 21 ≤ (if σ 143 21 < σ 143 20 then σ 143 20 else σ 143 21) + 4 + ((m' + 1 : Nat) : Int) := by
      have := e3.2.2.2
      refine ⟨e3.2.1, by omega, ?_⟩
      split at this <;> split <;> omega
    by_cases cb : b ≠ 0
    · rw [if_pos cb]; exact ⟨0, s, rfl, f1.trans e2, Or.inl rfl, last⟩
    · rw [if_neg cb]; exact ⟨1, s, rfl, f1.trans e2, Or.inr rfl, last⟩
theorem s_hb6 {rec : Nat → Int → zS → Option (Int × zS)} {m : Nat} {r : Int} (h233 : evOk (rec 233) m) (hr0 : 0 ≤ r) (hr1 : r < 60) : ∀ (d n : Nat) (x : Int) (σ : zS), (x = 0 ∨ x = 1) → pI σ → σ 143 20 - σ 143 21 ≤ (d : Int) → σ 143 20 - σ 143 21 ≤ (m : Int) → d < n → ∃ b s, g_m_holdsBoth_L6 rec n r x σ = some (b, s) ∧ fr3 σ s ∧ (b = 0 ∨ b = 1) ∧ s 143 20 = σ 143 20 ∧ σ 143 21 ≤ s 143 21 ∧ s 143 21 ≤ zmx (σ 143 21) (σ 143 20 + 4 + m)
  | _, 0, _, _, _, _, _, _, h => absurd h (Nat.not_lt_zero _)
  | d, n + 1, x, σ, hx, h, hd, hm, hn => by
    have hh := h
    unfold pI at hh
    unfold g_m_holdsBoth_L6
    rw [s_here h]
    rw [Option.bind_some]
    try dsimp only
    by_cases c : hereC σ ≠ 38
    · rw [if_pos c, if_pos hx]
      refine ⟨x, σ, rfl, fr3.refl σ, hx, rfl, by omega, ?_⟩
      unfold zmx
      split <;> omega
    · rw [if_neg c]
      have hlt : σ 143 21 < σ 143 20 := hereC_lt (x := 38) (by omega) (by decide)
      cases d with
      | zero => omega
      | succ d =>
        rw [w32_id (x := σ 143 21 + 1) (by omega) (by omega)]
        generalize hs1 : zu σ 143 21 (σ 143 21 + 1) = s1
        have hp1 : pI s1 := by rw [← hs1]; exact pI_z h (by omega)
        have q20 : s1 143 20 = σ 143 20 := by rw [← hs1]; exact zu_i (by omega)
        have q21 : s1 143 21 = σ 143 21 + 1 := by rw [← hs1]; exact zu_e rfl
        have f1 : fr3 σ s1 := by rw [← hs1]; exact fr3.u (by omega)
        obtain ⟨b, s, e1, e2, e3⟩ := h233 r s1 hr0 hr1 hp1 (by omega) (by omega)
        unfold eO zmx at e3
        rw [q20, q21] at e3
        rw [e1]
        rw [Option.bind_some]
        try dsimp only
        have e4 : s 143 21 ≤ σ 143 20 + 4 + m := by
          have := e3.2.2.2
          split at this <;> omega
        obtain ⟨b', s', g1, g2, g3, g4, g5, g6⟩ := s_hb6 h233 hr0 hr1 d n (iAnd x b) s (iAnd_01 hx e3.1) ⟨by omega, by omega, by omega⟩ (by omega) (by omega) (by omega)
        refine ⟨b', s', g1, (f1.trans e2).trans g2, g3, by omega, by omega, ?_⟩
        unfold zmx at *
        split at g6 <;> split <;> omega
theorem s_both {rec : Nat → Int → zS → Option (Int × zS)} {m : Nat} (h233 : evOk (rec 233) m) : evOk (g_m_holdsBoth rec) m := by
  intro r σ hr0 hr1 h hp hm
  have hh := h
  unfold pI at hh
  unfold g_m_holdsBoth
  obtain ⟨b, s, e1, e2, e3⟩ := h233 r σ hr0 hr1 h hp hm
  unfold eO at *
  rw [e1]
  rw [Option.bind_some]
  try dsimp only
  obtain ⟨b', s', g1, g2, g3, g4, g5, g6⟩ := s_hb6 h233 hr0 hr1 160 zK b s e3.1 ⟨by omega, by omega, by omega⟩ (by omega) (by omega) (by show _ < 1000000; omega)
  refine ⟨b', s', g1, e2.trans g2, g3, by omega, by omega, ?_⟩
  have e4 := e3.2.2.2
  unfold zmx at *
  split at g6 <;> split at e4 <;> split <;> omega
theorem s_hd6 {rec : Nat → Int → zS → Option (Int × zS)} {m : Nat} {r : Int} (h232 : evOk (rec 232) m) (hr0 : 0 ≤ r) (hr1 : r < 60) : ∀ (d n : Nat) (x : Int) (σ : zS), (x = 0 ∨ x = 1) → pI σ → σ 143 20 - σ 143 21 ≤ (d : Int) → σ 143 20 - σ 143 21 ≤ (m : Int) → d < n → ∃ b s, g_m_doesHold_L6 rec n r x σ = some (b, s) ∧ fr3 σ s ∧ (b = 0 ∨ b = 1) ∧ s 143 20 = σ 143 20 ∧ σ 143 21 ≤ s 143 21 ∧ s 143 21 ≤ zmx (σ 143 21) (σ 143 20 + 4 + m)
  | _, 0, _, _, _, _, _, _, h => absurd h (Nat.not_lt_zero _)
  | d, n + 1, x, σ, hx, h, hd, hm, hn => by
    have hh := h
    unfold pI at hh
    unfold g_m_doesHold_L6
    rw [s_here h]
    rw [Option.bind_some]
    try dsimp only
    by_cases c : hereC σ ≠ 124
    · rw [if_pos c, if_pos hx]
      refine ⟨x, σ, rfl, fr3.refl σ, hx, rfl, by omega, ?_⟩
      unfold zmx
      split <;> omega
    · rw [if_neg c]
      have hlt : σ 143 21 < σ 143 20 := hereC_lt (x := 124) (by omega) (by decide)
      cases d with
      | zero => omega
      | succ d =>
        rw [w32_id (x := σ 143 21 + 1) (by omega) (by omega)]
        generalize hs1 : zu σ 143 21 (σ 143 21 + 1) = s1
        have hp1 : pI s1 := by rw [← hs1]; exact pI_z h (by omega)
        have q20 : s1 143 20 = σ 143 20 := by rw [← hs1]; exact zu_i (by omega)
        have q21 : s1 143 21 = σ 143 21 + 1 := by rw [← hs1]; exact zu_e rfl
        have f1 : fr3 σ s1 := by rw [← hs1]; exact fr3.u (by omega)
        obtain ⟨b, s, e1, e2, e3⟩ := h232 r s1 hr0 hr1 hp1 (by omega) (by omega)
        unfold eO zmx at e3
        rw [q20, q21] at e3
        rw [e1]
        rw [Option.bind_some]
        try dsimp only
        have e4 : s 143 21 ≤ σ 143 20 + 4 + m := by
          have := e3.2.2.2
          split at this <;> omega
        obtain ⟨b', s', g1, g2, g3, g4, g5, g6⟩ := s_hd6 h232 hr0 hr1 d n (iOr x b) s (iOr_01 hx e3.1) ⟨by omega, by omega, by omega⟩ (by omega) (by omega) (by omega)
        refine ⟨b', s', g1, (f1.trans e2).trans g2, g3, by omega, by omega, ?_⟩
        unfold zmx at *
        split at g6 <;> split <;> omega
theorem s_either {rec : Nat → Int → zS → Option (Int × zS)} {m : Nat} (h232 : evOk (rec 232) m) : evOk (g_m_doesHold rec) m := by
  intro r σ hr0 hr1 h hp hm
  have hh := h
  unfold pI at hh
  unfold g_m_doesHold
  obtain ⟨b, s, e1, e2, e3⟩ := h232 r σ hr0 hr1 h hp hm
  unfold eO at *
  rw [e1]
  rw [Option.bind_some]
  try dsimp only
  obtain ⟨b', s', g1, g2, g3, g4, g5, g6⟩ := s_hd6 h232 hr0 hr1 160 zK b s e3.1 ⟨by omega, by omega, by omega⟩ (by omega) (by omega) (by show _ < 1000000; omega)
  refine ⟨b', s', g1, e2.trans g2, g3, by omega, by omega, ?_⟩
  have e4 := e3.2.2.2
  unfold zmx at *
  split at g6 <;> split at e4 <;> split <;> omega
theorem grp231_231 {n : Nat} : g_grp231 (n + 1) 231 = g_m_doesHold (g_grp231 n) := by
  funext r σ
  show (if 231 = 231 then _ else _) = _
  exact if_pos rfl
theorem grp231_232 {n : Nat} : g_grp231 (n + 1) 232 = g_m_holdsBoth (g_grp231 n) := by
  funext r σ
  show (if 232 = 231 then _ else if 232 = 232 then _ else _) = _
  rw [if_neg (by decide), if_pos rfl]
theorem grp231_233 {n : Nat} : g_grp231 (n + 1) 233 = g_m_holdsFactor (g_grp231 n) := by
  funext r σ
  show (if 233 = 231 then _ else if 233 = 232 then _ else if 233 = 233 then _ else _) = _
  rw [if_neg (by decide), if_neg (by decide), if_pos rfl]
theorem s_eval1 {m : Nat} (h : ∀ n, 3 * m + 1 ≤ n → evOk (g_grp231 n 233) m) : (∀ n, 3 * m + 2 ≤ n → evOk (g_grp231 n 232) m) ∧ ∀ n, 3 * m + 3 ≤ n → evOk (g_grp231 n 231) m := by
  have h2 : ∀ n, 3 * m + 2 ≤ n → evOk (g_grp231 n 232) m := fun n hn => by
    obtain ⟨k, rfl⟩ : ∃ k, n = k + 1 := ⟨n - 1, by omega⟩
    rw [grp231_232]
    exact s_both (h k (by omega))
  refine ⟨h2, fun n hn => ?_⟩
  obtain ⟨k, rfl⟩ : ∃ k, n = k + 1 := ⟨n - 1, by omega⟩
  rw [grp231_231]
  exact s_either (h2 k (by omega))
theorem s_eval : ∀ (m : Nat) (n : Nat), m ≤ 200 → 3 * m + 1 ≤ n → evOk (g_grp231 n 233) m
  | 0, n, _, hn => by
    obtain ⟨k, rfl⟩ : ∃ k, n = k + 1 := ⟨n - 1, by omega⟩
    rw [grp231_233]
    exact s_factor (by omega) (fun m' h => by omega) (fun m' h => by omega)
  | m + 1, n, h2, hn => by
    obtain ⟨k, rfl⟩ : ∃ k, n = k + 1 := ⟨n - 1, by omega⟩
    rw [grp231_233]
    refine s_factor h2 (fun m' h => ?_) (fun m' h => ?_)
    · obtain rfl : m' = m := by omega
      exact s_eval m' k (by omega) (by omega)
    · obtain rfl : m' = m := by omega
      exact (s_eval1 (fun j hj => s_eval m' j (by omega) hj)).2 k (by omega)
theorem tst_ok {σ : zS} {t : Int} (h : 0 ≤ σ 143 20 ∧ σ 143 20 ≤ 160) (ht : t ≤ 1000) : tstOk σ t := by
  by_cases c : t < 0
  · exact Or.inl c
  · refine Or.inr (fun s hs r hr0 hr1 => ?_)
    have q : s 143 20 = σ 143 20 := hs 143 20 (by omega) (by omega) (by omega)
    have hp : pI (zu s 143 21 t) := by
      unfold pI
      rw [zu_i (by omega), zu_e rfl]
      omega
    obtain ⟨b, s', e1, e2, _⟩ := (s_eval1 (fun j hj => s_eval 160 j (by omega) hj)).2 zR (by show _ ≤ 500; omega) r (zu s 143 21 t) hr0 hr1 hp (by rw [zu_e rfl]; omega) (by rw [zu_i (by omega), zu_e rfl]; omega)
    exact ⟨b, s', e1, fun a j hh => (e2 a j hh).trans (zu_c (by omega))⟩
end
section
/-! 48.refi -/
/-! THE REFERENCE over the typed memory: words; the settings' line -/
def charC (a : Nat) (j : Int) : Int := w16 (iAnd (zs0 (a + 18) j) 255)
def spC (a : Nat) : Nat → Nat
  | 0 => 0
  | n + 1 => spC a n + if charC a (n : Int) = 32 then 1 else 0
theorem spC_mono {a n : Nat} : ∀ d : Nat, spC a n ≤ spC a (n + d)
  | 0 => Nat.le_refl _
  | d + 1 => Nat.le_trans (spC_mono d) (Nat.le_add_right _ _)
theorem s_charAt {a : Nat} {j : Int} {σ : zS} (h : 0 ≤ j ∧ j < zLI (a + 18)) : g_jString_charAt a j σ = some (charC a j, σ) := by
  have e : g_jString_isLatin1 a σ = some (1, σ) := by
    unfold g_jString_isLatin1
    rw [if_neg (by decide), if_neg (by decide)]
  have q : 0 ≤ charC a j ∧ charC a j < 65536 := by
    unfold charC w16
    omega
  have e2 : g_jStringLatin1_charAt (a + 18) j σ = some (charC a j, σ) := by
    unfold g_jStringLatin1_charAt
    rw [if_pos h, if_pos h]
    exact if_pos q
  unfold g_jString_charAt
  rw [e]
  rw [Option.bind_some]
  try dsimp only
  rw [if_neg (by decide), e2]
  rw [Option.bind_some]
  try dsimp only
  exact if_pos q
theorem s_length {a : Nat} {σ : zS} (h : iShr (zLI (a + 18)) 0 = zLI (a + 18)) : g_jString_length a σ = some (zLI (a + 18), σ) := by
  have e : g_jString_coder a σ = some (0, σ) := by
    unfold g_jString_coder
    rw [if_neg (by decide)]
  unfold g_jString_length
  rw [e]
  rw [Option.bind_some]
  try dsimp only
  rw [h]
theorem s_wordEnd5 {σ : zS} (h : pI σ) : ∀ (d k n : Nat), (k : Int) + d = 160 → d < n → ∃ e, g_m_wordEnd_L5 n (k : Int) σ = some (e, σ) ∧ (k : Int) ≤ e ∧ (e ≤ (k : Int) ∨ e ≤ σ 143 20)
  | _, _, 0, _, h => absurd h (Nat.not_lt_zero _)
  | 0, k, n + 1, hk, _ => by
    unfold pI at h
    unfold g_m_wordEnd_L5
    refine ⟨(k : Int), if_pos ?_, by omega, by omega⟩
    show σ 143 20 ≤ (k : Int)
    omega
  | d + 1, k, n + 1, hk, hn => by
    have hh := h
    unfold pI at hh
    unfold g_m_wordEnd_L5
    by_cases c : σ 143 20 ≤ (k : Int)
    · exact ⟨(k : Int), if_pos c, by omega, by omega⟩
    · show ∃ e, (if σ 143 20 ≤ (k : Int) then _ else _) = _ ∧ _
      rw [if_neg c, if_pos (by omega)]
      dsimp only
      by_cases c2 : 97 ≤ σ 159 (k : Int) ∧ σ 159 (k : Int) ≤ 122
      · rw [s_isIn_t c2.1 c2.2]
        rw [Option.bind_some]
        try dsimp only
        rw [if_neg (by decide), w32_id (x := (k : Int) + 1) (by omega) (by omega)]
        obtain ⟨e, e1, e2, e3⟩ := s_wordEnd5 h d (k + 1) n (by omega) (by omega)
        rw [show ((k + 1 : Nat) : Int) = (k : Int) + 1 by omega] at e1
        exact ⟨e, e1, by omega, by omega⟩
      · rw [s_isIn_f (by omega)]
        rw [Option.bind_some]
        try dsimp only
        rw [if_pos rfl]
        exact ⟨(k : Int), rfl, by omega, by omega⟩
theorem s_wordEnd {σ : zS} (h : pI σ) (h2 : σ 143 21 ≤ 160) : ∃ e, g_m_wordEnd σ = some (e, σ) ∧ σ 143 21 ≤ e ∧ (e ≤ σ 143 21 ∨ e ≤ σ 143 20) := by
  have hh := h
  unfold pI at hh
  obtain ⟨k, hk⟩ : ∃ k : Nat, σ 143 21 = (k : Int) := ⟨(σ 143 21).toNat, by omega⟩
  unfold g_m_wordEnd
  rw [hk]
  exact s_wordEnd5 h (160 - k) k zK (by omega) (by show _ < 1000000; omega)
theorem s_word22 {a L : Nat} {g : Int → Int → Int → zS → Option (Int × zS)} {x2 x3 : Int} {x4 : Nat} {σ : zS} (hL : zLI (a + 18) = (L : Int)) (hl : iShr (zLI (a + 18)) 0 = zLI (a + 18)) (hL2 : L ≤ 100) : ∀ (d k n : Nat), x4 + k + d = L → d < n → ∃ k' : Nat, g_m_word_L22 a g n x2 x3 (x4 : Int) (k : Int) σ = g_m_word_L54 a g x2 x3 (x4 : Int) (k' : Int) σ ∧ k ≤ k' ∧ x4 + k' ≤ L ∧ (x4 + k' = L ∨ charC a ((x4 + k' : Nat) : Int) = 32)
  | _, _, 0, _, h => absurd h (Nat.not_lt_zero _)
  | 0, k, n + 1, hk, _ => by
    refine ⟨k, ?_, Nat.le_refl _, by omega, Or.inl (by omega)⟩
    unfold g_m_word_L22
    rw [s_length hl]
    rw [Option.bind_some]
    try dsimp only
    rw [hL, w32_id (x := (x4 : Int) + (k : Int)) (by omega) (by omega), if_pos (by omega)]
  | d + 1, k, n + 1, hk, hn => by
    unfold g_m_word_L22
    rw [s_length hl]
    rw [Option.bind_some]
    try dsimp only
    rw [w32_id (x := (x4 : Int) + (k : Int)) (by omega) (by omega), if_neg (by omega), s_charAt (by omega)]
    rw [Option.bind_some]
    try dsimp only
    by_cases c : charC a ((x4 : Int) + (k : Int)) = 32
    · rw [if_pos c]
      exact ⟨k, rfl, Nat.le_refl _, by omega, Or.inr (by rw [show ((x4 + k : Nat) : Int) = (x4 : Int) + (k : Int) by omega]; exact c)⟩
    · rw [if_neg c, w32_id (x := (k : Int) + 1) (by omega) (by omega)]
      obtain ⟨k', e1, e2, e3, e4⟩ := s_word22 (g := g) (x2 := x2) (x3 := x3) (x4 := x4) (σ := σ) hL hl hL2 d (k + 1) n (by omega) (by omega)
      rw [show ((k + 1 : Nat) : Int) = (k : Int) + 1 by omega] at e1
      exact ⟨k', e1, by omega, e3, e4⟩
theorem s_word75 {a L : Nat} {g : Int → Int → Int → zS → Option (Int × zS)} {x2 x3 : Int} {x4 x5 : Nat} {σ : zS} (hL : zLI (a + 18) = (L : Int)) (hL2 : L ≤ 100) (h4 : x4 + x5 ≤ L) (h : pI σ) (h5 : σ 143 21 ≤ 160) (hx3 : 0 ≤ x3 ∧ x3 ≤ 1000) : ∀ (d k n : Nat) (f : Int), k + d = x5 → d < n → (f = 0 ∨ σ 143 21 + (x5 : Int) ≤ 160) → g_m_word_L75 a g n x2 x3 (x4 : Int) (x5 : Int) f (k : Int) σ = g x2 (x3 + 1) ((x4 + x5 + 1 : Nat) : Int) σ ∨ g_m_word_L75 a g n x2 x3 (x4 : Int) (x5 : Int) f (k : Int) σ = some (x3, zu σ 143 21 x2)
  | _, _, 0, _, _, h, _ => absurd h (Nat.not_lt_zero _)
  | d, k, n + 1, f, hk, hn, hf => by
    have hh := h
    unfold pI at hh
    have l124 : g_m_word_L124 a g x2 x3 (x4 : Int) (x5 : Int) f σ = g x2 (x3 + 1) ((x4 + x5 + 1 : Nat) : Int) σ ∨ g_m_word_L124 a g x2 x3 (x4 : Int) (x5 : Int) f σ = some (x3, zu σ 143 21 x2) := by
      unfold g_m_word_L124
      by_cases c : f = 0
      · rw [if_pos c, w32_id (x := x3 + 1) (by omega) (by omega), w32_id (x := (x5 : Int) + 1) (by omega) (by omega), w32_id (x := (x4 : Int) + ((x5 : Int) + 1)) (by omega) (by omega), show (x4 : Int) + ((x5 : Int) + 1) = ((x4 + x5 + 1 : Nat) : Int) by omega]
        exact Or.inl rfl
      · rw [if_neg c]
        exact Or.inr rfl
    unfold g_m_word_L75
    by_cases c : (x5 : Int) ≤ (k : Int)
    · rw [if_pos c]; exact l124
    · rw [if_neg c]
      by_cases c2 : f = 0
      · rw [if_pos c2]; exact l124
      · rw [if_neg c2, w32_id (x := (x4 : Int) + (k : Int)) (by omega) (by omega), s_charAt (by omega)]
        rw [Option.bind_some]
        try dsimp only
        rw [w32_id (x := σ 143 21 + (k : Int)) (by omega) (by omega), if_pos (by omega)]
        cases d with
        | zero => omega
        | succ d =>
          split
          · unfold g_m_word_L116
            rw [w32_id (x := (k : Int) + 1) (by omega) (by omega), show (k : Int) + 1 = ((k + 1 : Nat) : Int) by omega]
            exact s_word75 hL hL2 h4 h h5 hx3 d (k + 1) n 0 (by omega) (by omega) (Or.inl rfl)
          · unfold g_m_word_L116
            rw [w32_id (x := (k : Int) + 1) (by omega) (by omega), show (k : Int) + 1 = ((k + 1 : Nat) : Int) by omega]
            exact s_word75 hL hL2 h4 h h5 hx3 d (k + 1) n 1 (by omega) (by omega) (by omega)
theorem s_word54 {a L : Nat} {g : Int → Int → Int → zS → Option (Int × zS)} {x2 x3 : Int} {x4 x5 : Nat} {σ : zS} (hL : zLI (a + 18) = (L : Int)) (hL2 : L ≤ 100) (h4 : x4 + x5 ≤ L) (h : pI σ) (h5 : σ 143 21 ≤ 160) (hx3 : 0 ≤ x3 ∧ x3 ≤ 1000) (hx2 : σ 143 21 ≤ x2) (hx2b : x2 ≤ 160) : g_m_word_L54 a g x2 x3 (x4 : Int) (x5 : Int) σ = g x2 (x3 + 1) ((x4 + x5 + 1 : Nat) : Int) σ ∨ g_m_word_L54 a g x2 x3 (x4 : Int) (x5 : Int) σ = some (x3, zu σ 143 21 x2) := by
  have hh := h
  unfold pI at hh
  unfold g_m_word_L54
  dsimp only
  rw [w32_id (x := x2 - σ 143 21) (by omega) (by omega)]
  unfold g_m_word_L70
  by_cases c : (x5 : Int) ≠ x2 - σ 143 21
  · rw [if_pos c]
    exact s_word75 hL hL2 h4 h h5 hx3 x5 0 zK 0 (by omega) (by show _ < 1000000; omega) (Or.inl rfl)
  · rw [if_neg c]
    exact s_word75 hL hL2 h4 h h5 hx3 x5 0 zK 1 (by omega) (by show _ < 1000000; omega) (by omega)
theorem s_word10 {a L : Nat} {x2 : Int} {σ : zS} (hL : zLI (a + 18) = (L : Int)) (hl : iShr (zLI (a + 18)) 0 = zLI (a + 18)) (hL2 : L ≤ 100) (h : pI σ) (h5 : σ 143 21 ≤ 160) (hx2 : σ 143 21 ≤ x2) (hx2b : x2 ≤ 160) (hx2c : x2 ≤ σ 143 21 ∨ x2 ≤ σ 143 20) : ∀ (d x4 n : Nat) (x3 : Nat), L ≤ x4 + d → x4 ≤ L + 1 → d < n → (x4 ≤ L → x3 ≤ spC a x4) → x3 ≤ x4 → ∃ v s, g_m_word_L10 a n x2 (x3 : Int) (x4 : Int) σ = some (v, s) ∧ fr3 σ s ∧ pO σ s (if v < 0 then 0 else 1) ∧ -1 ≤ v ∧ v ≤ (spC a L : Int)
  | _, _, 0, _, _, _, h, _, _ => absurd h (Nat.not_lt_zero _)
  | d, x4, n + 1, x3, hd, h4, hn, hs, h34 => by
    have hh := h
    unfold pI at hh
    unfold g_m_word_L10
    rw [s_length hl]
    rw [Option.bind_some]
    try dsimp only
    by_cases c : zLI (a + 18) ≤ (x4 : Int)
    · rw [if_pos c]
      obtain ⟨s, e1, e2, e3⟩ := s_failsO h
      rw [e1]
      rw [Option.bind_some]
      try dsimp only
      exact ⟨-1, s, rfl, e3, e2, by omega, by omega⟩
    · rw [if_neg c]
      obtain ⟨k', e1, e2, e3, e4⟩ := s_word22 (g := g_m_word_L10 a n) (x2 := x2) (x3 := (x3 : Int)) (x4 := x4) (σ := σ) hL hl hL2 (L - x4) 0 zK (by omega) (by show _ < 1000000; omega)
      rw [show ((0 : Nat) : Int) = 0 from rfl] at e1
      rw [e1]
      rcases s_word54 (a := a) (L := L) (g := g_m_word_L10 a n) (x2 := x2) (x3 := (x3 : Int)) (x4 := x4) (x5 := k') (σ := σ) hL hL2 e3 h h5 (by omega) hx2 hx2b with e5 | e5
      · cases d with
        | zero => omega
        | succ d =>
          rw [e5, show (x3 : Int) + 1 = ((x3 + 1 : Nat) : Int) by omega]
          refine s_word10 hL hl hL2 h h5 hx2 hx2b hx2c d (x4 + k' + 1) n (x3 + 1) (by omega) (by omega) (by omega) (fun hq => ?_) (by omega)
          have q1 := hs (by omega)
          have q2 := spC_mono (a := a) (n := x4) k'
          show x3 + 1 ≤ spC a (x4 + k') + (if charC a ((x4 + k' : Nat) : Int) = 32 then 1 else 0)
          rw [if_pos (by rcases e4 with e4 | e4; · omega
                         · exact e4)]
          omega
      · rw [e5]
        refine ⟨(x3 : Int), _, rfl, fr3.u (by omega), ?_, by omega, ?_⟩
        · rw [if_neg (by omega)]
          unfold pO
          rw [zu_i (by omega), zu_e rfl, zu_i (by omega)]
          omega
        · have q1 := hs (by omega)
          have q2 := spC_mono (a := a) (n := x4) (L - x4)
          rw [show x4 + (L - x4) = L by omega] at q2
          omega
theorem s_word {a L : Nat} {σ : zS} (hL : zLI (a + 18) = (L : Int)) (hl : iShr (zLI (a + 18)) 0 = zLI (a + 18)) (hL2 : L ≤ 100) (h : pI σ) (h5 : σ 143 21 ≤ 160) : ∃ v s, g_m_word a σ = some (v, s) ∧ fr3 σ s ∧ pO σ s (if v < 0 then 0 else 1) ∧ -1 ≤ v ∧ v ≤ (spC a L : Int) := by
  have hh := h
  unfold pI at hh
  unfold g_m_word
  obtain ⟨e, e1, e2, e3⟩ := s_wordEnd h h5
  rw [e1]
  rw [Option.bind_some]
  try dsimp only
  exact s_word10 hL hl hL2 h h5 e2 (by omega) e3 L 0 zK 0 (by omega) (by omega) (by show _ < 1000000; omega) (fun _ => Nat.zero_le _) (Nat.le_refl _)
theorem s_word11 {σ : zS} (h : pI σ) (h5 : σ 143 21 ≤ 160) : ∃ v s, g_m_word 11 σ = some (v, s) ∧ fr3 σ s ∧ pO σ s (if v < 0 then 0 else 1) ∧ -1 ≤ v ∧ v ≤ 6 := by
  obtain ⟨v, s, e1, e2, e3, e4, e5⟩ := s_word (a := 11) (L := 39) (by decide +kernel) (by decide +kernel) (by omega) h h5
  have q : spC 11 39 = 6 := by decide +kernel
  exact ⟨v, s, e1, e2, e3, e4, by omega⟩
theorem s_word12 {σ : zS} (h : pI σ) (h5 : σ 143 21 ≤ 160) : ∃ v s, g_m_word 12 σ = some (v, s) ∧ fr3 σ s ∧ pO σ s (if v < 0 then 0 else 1) := by
  obtain ⟨v, s, e1, e2, e3, e4, e5⟩ := s_word (a := 12) (L := 14) (by decide +kernel) (by decide +kernel) (by omega) h h5
  exact ⟨v, s, e1, e2, e3⟩
theorem s_word13 {σ : zS} (h : pI σ) (h5 : σ 143 21 ≤ 160) : ∃ v s, g_m_word 13 σ = some (v, s) ∧ fr3 σ s ∧ pO σ s (if v < 0 then 0 else 1) := by
  obtain ⟨v, s, e1, e2, e3, e4, e5⟩ := s_word (a := 13) (L := 6) (by decide +kernel) (by decide +kernel) (by omega) h h5
  exact ⟨v, s, e1, e2, e3⟩
theorem s_word14 {σ : zS} (h : pI σ) (h5 : σ 143 21 ≤ 160) : ∃ v s, g_m_word 14 σ = some (v, s) ∧ fr3 σ s ∧ pO σ s (if v < 0 then 0 else 1) := by
  obtain ⟨v, s, e1, e2, e3, e4, e5⟩ := s_word (a := 14) (L := 36) (by decide +kernel) (by decide +kernel) (by omega) h h5
  exact ⟨v, s, e1, e2, e3⟩
theorem s_word15 {σ : zS} (h : pI σ) (h5 : σ 143 21 ≤ 160) : ∃ v s, g_m_word 15 σ = some (v, s) ∧ fr3 σ s ∧ pO σ s (if v < 0 then 0 else 1) := by
  obtain ⟨v, s, e1, e2, e3, e4, e5⟩ := s_word (a := 15) (L := 2) (by decide +kernel) (by decide +kernel) (by omega) h h5
  exact ⟨v, s, e1, e2, e3⟩
end
section
/-! 49.refj -/
/-! THE REFERENCE over the typed memory: the settings -/
def stO (σ : zS) : Prop := (1 ≤ σ 160 1 ∧ σ 160 1 ≤ 99) ∧ (1 ≤ σ 160 2 ∧ σ 160 2 ≤ 12)
def frS (σ s : zS) : Prop := ∀ a j, a ≠ 160 → (a ≠ 143 ∨ (j ≠ 21 ∧ j ≠ 22 ∧ j ≠ 23)) → s a j = σ a j
theorem frS.of {σ s : zS} (h : fr3 σ s) : frS σ s := fun a j _ k => h a j k
theorem frS.trans {σ s t : zS} (h1 : frS σ s) (h2 : frS s t) : frS σ t := fun a j k1 k2 => (h2 a j k1 k2).trans (h1 a j k1 k2)
theorem frS.refl (σ : zS) : frS σ σ := fun _ _ _ _ => rfl
theorem stO_3 {σ s : zS} (h : stO σ) (f : fr3 σ s) : stO s := by
  unfold stO at *
  rw [f 160 1 (by omega), f 160 2 (by omega)]
  exact h
theorem pO_60 {σ : zS} {a : Nat} {i v : Int} (ha : a ≠ 143) : pO σ (zu σ a i v) 1 := by
  unfold pO
  rw [zu_a (Ne.symm ha), zu_a (Ne.symm ha), zu_a (Ne.symm ha)]
  omega
theorem s_set119 {x : Int} {σ : zS} (hx : 0 ≤ x ∧ x < 7) : g_m_isSetting_L119 x σ = some (1, zu σ 160 x (σ 143 23)) := by
  unfold g_m_isSetting_L119
  exact if_pos hx
theorem s_set111 {x hi lo w : Int} {σ : zS} (h : pI σ) (hw : w ≤ 100) (hx : 0 ≤ x ∧ x < 7) (h1 : x = 1 → 1 ≤ lo ∧ hi ≤ 99) (h2 : x = 2 → 1 ≤ lo ∧ hi ≤ 12) : ∃ b s, g_m_isSetting_L111 x hi lo w σ = some (b, s) ∧ pO σ s b ∧ frS σ s ∧ (stO σ → stO s) := by
  unfold g_m_isSetting_L111
  obtain ⟨b, s, e1, e2, e3, e4⟩ := s_number (w := w) (lo := lo) (hi := hi) h hw
  rw [e1]
  rw [Option.bind_some]
  try dsimp only
  by_cases cb : b ≠ 0
  · have hb : b = 1 := by
      unfold pO at e2
      omega
    subst hb
    rw [if_pos cb, s_set119 hx]
    obtain ⟨q1, q2⟩ := e4 rfl
    refine ⟨1, _, rfl, pO_trans e2 (pO_60 (by decide)), (frS.of e3).trans (fun a j k1 _ => zu_a k1), fun hs => ?_⟩
    have hs2 := stO_3 hs e3
    unfold stO at *
    refine ⟨?_, ?_⟩
    · by_cases c : (1 : Int) = x
      · rw [zu_e c]
        have := h1 c.symm
        omega
      · rw [zu_i c]; exact hs2.1
    · by_cases c : (2 : Int) = x
      · rw [zu_e c]
        have := h2 c.symm
        omega
      · rw [zu_i c]; exact hs2.2
  · have hb : b = 0 := by omega
    subst hb
    rw [if_neg cb]
    exact ⟨0, s, rfl, e2, frS.of e3, fun hs => stO_3 hs e3⟩
theorem s_set75 {x w : Int} {σ : zS} (h : pI σ) (hw : w ≤ 100) (hx : 0 ≤ x ∧ x < 7) : ∃ b s, g_m_isSetting_L75 x w σ = some (b, s) ∧ pO σ s b ∧ frS σ s ∧ (stO σ → stO s) := by
  have go : ∀ lo : Int, (x = 1 → lo = 1) → (x = 2 → lo = 1) → ∃ b s, g_m_isSetting_L84 x lo w σ = some (b, s) ∧ pO σ s b ∧ frS σ s ∧ (stO σ → stO s) := by
    intro lo hl1 hl2
    unfold g_m_isSetting_L84 g_m_isSetting_L93
    by_cases c0 : x = 0
    · rw [if_pos c0]; exact s_set111 h hw hx (fun e => by omega) (fun e => by omega)
    · rw [if_neg c0]
      by_cases c1 : x ≠ 1
      · rw [if_pos c1]
        by_cases c2 : x ≠ 2
        · rw [if_pos c2]; exact s_set111 h hw hx (fun e => absurd e c1) (fun e => absurd e c2)
        · rw [if_neg c2]; exact s_set111 h hw hx (fun e => absurd e c1) (fun e => ⟨by rw [hl2 e]; omega, by omega⟩)
      · rw [if_neg c1]; exact s_set111 h hw hx (fun e => ⟨by rw [hl1 e]; omega, by omega⟩) (fun e => by omega)
  unfold g_m_isSetting_L75
  by_cases c : x ≠ 0
  · rw [if_pos c]; exact go 1 (fun _ => rfl) (fun _ => rfl)
  · rw [if_neg c]; exact go 0 (fun e => by omega) (fun e => by omega)
theorem s_set48 {x : Int} {a : Nat} {σ : zS} (h : pI σ) (hx : 3 ≤ x ∧ x < 7) (hw : ∃ v s, g_m_word a σ = some (v, s) ∧ fr3 σ s ∧ pO σ s (if v < 0 then 0 else 1)) : ∃ b s, g_m_isSetting_L48 x a σ = some (b, s) ∧ pO σ s b ∧ frS σ s ∧ (stO σ → stO s) := by
  obtain ⟨v, s, e1, e2, e3⟩ := hw
  unfold g_m_isSetting_L48
  rw [e1]
  rw [Option.bind_some]
  try dsimp only
  rw [zu_e (σ := s) (a := 143) (i := 23) (j := 23) rfl]
  have f1 : fr3 σ (zu s 143 23 v) := e2.trans (fr3.u (by omega))
  by_cases c : 0 ≤ v
  · rw [if_pos c, s_set119 (by omega)]
    rw [if_neg (by omega)] at e3
    refine ⟨1, _, rfl, pO_trans (pO_trans e3 pO_u) (pO_60 (by decide)), (frS.of f1).trans (fun a j k1 _ => zu_a k1), fun hs => ?_⟩
    have hs2 := stO_3 hs f1
    unfold stO at *
    rw [zu_i (a := 160) (j := 1) (by omega), zu_i (a := 160) (j := 2) (by omega)]
    exact hs2
  · rw [if_neg c]
    rw [if_pos (by omega)] at e3
    refine ⟨0, _, rfl, ?_, frS.of f1, fun hs => stO_3 hs f1⟩
    unfold pO at *
    rw [zu_i (by omega), zu_i (by omega), zu_i (by omega)]
    exact e3
theorem pI_160 {σ s : zS} {b : Int} (h : pI σ) (h5 : σ 143 21 ≤ 160) (o : pO σ s b) : pI s ∧ s 143 21 ≤ 160 := by
  unfold pI pO at *
  omega
/-- a sign that is read takes the place on -/
theorem s_isSign1 {x : Int} {σ : zS} (h : pI σ) (hx : x ≠ -1) : ∃ b s, g_m_isSign x σ = some (b, s) ∧ pO σ s b ∧ fr3 σ s ∧ (b = 1 → s 143 21 = σ 143 21 + 1) := by
  unfold g_m_isSign
  rw [s_here h]
  rw [Option.bind_some]
  try dsimp only
  by_cases c : hereC σ = x
  · obtain ⟨q1, q2, q3⟩ := pO_s h (hereC_lt c hx)
    rw [if_pos c, q1]
    exact ⟨1, _, rfl, q3, fr3.u (by omega), fun _ => zu_e rfl⟩
  · rw [if_neg c]
    obtain ⟨s, e1, e2, e3⟩ := s_failsO h
    rw [e1]
    rw [Option.bind_some]
    try dsimp only
    rw [if_pos (Or.inl rfl)]
    exact ⟨0, s, rfl, e2, e3, fun hh => absurd hh (by decide)⟩
theorem s_isSetting {σ : zS} (h : pI σ) (h5 : σ 143 21 ≤ 160) : ∃ b s, g_m_isSetting σ = some (b, s) ∧ pO σ s b ∧ frS σ s ∧ (stO σ → stO s) ∧ (b = 1 → σ 143 21 + 1 ≤ s 143 21) := by
  unfold g_m_isSetting
  obtain ⟨v, s1, e1, e2, e3, e4, e5⟩ := s_word11 h h5
  rw [e1]
  rw [Option.bind_some]
  try dsimp only
  by_cases c : v < 0
  · rw [if_pos c]
    rw [if_pos c] at e3
    exact ⟨0, s1, rfl, e3, frS.of e2, fun hs => stO_3 hs e2, fun hh => absurd hh (by decide)⟩
  · rw [if_neg c]
    rw [if_neg c] at e3
    obtain ⟨p1, p2⟩ := pI_160 h h5 e3
    obtain ⟨b, s2, g1, g2, g3, g4⟩ := s_isSign1 (x := 32) p1 (by decide)
    rw [g1]
    rw [Option.bind_some]
    try dsimp only
    have f2 : fr3 σ s2 := e2.trans g3
    by_cases cb : b ≠ 0
    · have hb : b = 1 := by
        unfold pO at g2
        omega
      subst hb
      have g5 := g4 rfl
      obtain ⟨p3, p4⟩ := pI_160 p1 p2 g2
      have fin : ∀ b s, pO s2 s b → frS s2 s → (stO s2 → stO s) → pO σ s b ∧ frS σ s ∧ (stO σ → stO s) ∧ (b = 1 → σ 143 21 + 1 ≤ s 143 21) := by
        intro b s k1 k2 k3
        refine ⟨pO_trans (pO_trans e3 g2) k1, (frS.of f2).trans k2, fun hs => k3 (stO_3 hs f2), fun _ => ?_⟩
        unfold pO at e3 k1
        omega
      rw [if_pos cb]
      by_cases c3 : 3 ≤ v ∧ v ≤ 5
      · rw [s_isIn_t c3.1 c3.2]
        rw [Option.bind_some]
        try dsimp only
        rw [if_neg (by decide)]
        by_cases c4 : v ≠ 3
        · rw [if_pos c4]
          obtain ⟨b, s, k1, k2, k3, k4⟩ := s_set48 (x := v) (a := 13) p3 (by omega) (s_word13 p3 p4)
          exact ⟨b, s, k1, fin b s k2 k3 k4⟩
        · rw [if_neg c4]
          obtain ⟨b, s, k1, k2, k3, k4⟩ := s_set48 (x := v) (a := 12) p3 (by omega) (s_word12 p3 p4)
          exact ⟨b, s, k1, fin b s k2 k3 k4⟩
      · rw [s_isIn_f (by omega)]
        rw [Option.bind_some]
        try dsimp only
        rw [if_pos (by decide)]
        by_cases c4 : v ≠ 6
        · rw [if_pos c4]
          obtain ⟨b, s, k1, k2, k3, k4⟩ := s_set75 (x := v) (w := 2) p3 (by omega) (by omega)
          exact ⟨b, s, k1, fin b s k2 k3 k4⟩
        · rw [if_neg c4]
          obtain ⟨b, s, k1, k2, k3, k4⟩ := s_set75 (x := v) (w := 4) p3 (by omega) (by omega)
          exact ⟨b, s, k1, fin b s k2 k3 k4⟩
    · have hb : b = 0 := by omega
      subst hb
      rw [if_neg cb]
      exact ⟨0, s2, rfl, pO_trans e3 g2, frS.of f2, fun hs => stO_3 hs f2, fun hh => absurd hh (by decide)⟩

/-- what a line read from the tape leaves as it was, and the tape empty -/
def frT (σ s : zS) : Prop := ∀ a j, (a < 143 ∨ 168 ≤ a ∨ a = 159 ∨ a = 166 ∨ a = 167) → s a j = σ a j
/-- the same, and more: the settings aside, the rows, the trace, the watches, the image -/
def frT2 (σ s : zS) : Prop := ∀ a j, (a < 143 ∨ 168 ≤ a ∨ a = 159 ∨ a = 166 ∨ a = 167 ∨ a = 145 ∨ a = 148 ∨ (a = 144 ∧ ((8 ≤ j ∧ j < 11) ∨ (18 ≤ j ∧ j < 340))) ∨ (a = 147 ∧ 1 ≤ j ∧ j < 121) ∨ (a = 143 ∧ j = 6)) → s a j = σ a j
theorem frT2.t {σ s : zS} (h : frT2 σ s) : frT σ s := fun a j k => h a j (by omega)
/-- the same, the settings too, but not THE FIND -/
def frT3 (σ s : zS) : Prop := ∀ a j, (a < 143 ∨ 168 ≤ a ∨ a = 159 ∨ a = 166 ∨ a = 167 ∨ a = 145 ∨ a = 148 ∨ (a = 144 ∧ ((9 ≤ j ∧ j < 200) ∨ (260 ≤ j ∧ j < 340))) ∨ (a = 147 ∧ 1 ≤ j ∧ j < 61) ∨ (a = 143 ∧ j = 6)) → s a j = σ a j
theorem frT3.t {σ s : zS} (h : frT3 σ s) : frT σ s := fun a j k => h a j (by omega)
theorem s_set105 {σ0 : zS} {x : Int} (h : MI σ0) : ∀ (d k n : Nat) (s : zS), k + d = 7 → d < n → (∀ a j, a ≠ 160 → (a ≠ 143 ∨ (j ≠ 20 ∧ j ≠ 21 ∧ j ≠ 22 ∧ j ≠ 23)) → (a ≠ 144 ∨ j < 11 ∨ 18 ≤ j) → s a j = σ0 a j) → s 143 20 = 0 → stO s → (1 ≤ s 144 12 ∧ s 144 12 ≤ 99) → (1 ≤ s 144 13 ∧ s 144 13 ≤ 12) → ∃ s', g_m_settings_L105 n x (k : Int) s = some (x, s') ∧ MI s' ∧ s' 143 20 = 0 ∧ frT2 σ0 s'
  | _, _, 0, _, _, h, _, _, _, _, _ => absurd h (Nat.not_lt_zero _)
  | 0, k, n + 1, s, hk, _, hf, h20, hst, h12, h13 => by
    unfold g_m_settings_L105
    rw [if_pos (by omega)]
    obtain ⟨N, n1, n2, n3⟩ := h.1
    have hN : NI s := NI_fr h.1 (fun j hj => hf 144 j (by omega) (by omega) (by omega))
    obtain ⟨N, n1, n2, n3⟩ := hN
    obtain ⟨s', N', e1, e2, e3, e4, e5, e6⟩ := s_trims n3 n2 (by omega) h13.1 h12.1
    rw [e1]
    rw [Option.bind_some]
    try dsimp only
    have q : ∀ a j, (a ≠ 144 ∨ (8 ≤ j ∧ j < 340)) → a ≠ 147 → s' a j = s a j := fun a j k1 k2 => e5 a j k1 (Or.inl k2)
    have hH : HI s' := by
      obtain ⟨h1, h2, h3, h4, h5, h6, h7⟩ := h.2.1
      have q2 : ∀ j : Int, (8 ≤ j ∧ j < 11) ∨ (18 ≤ j ∧ j < 340) → s' 144 j = σ0 144 j := fun j hj => (q 144 j (by omega) (by decide)).trans (hf 144 j (by omega) (by omega) (by omega))
      refine ⟨by rw [q 144 12 (by omega) (by decide)]; exact h12, by rw [q 144 13 (by omega) (by decide)]; exact h13, by rw [q2 8 (by omega)]; exact h3, by rw [q2 9 (by omega)]; exact h4, by rw [q2 10 (by omega)]; exact h5, fun t ht => ?_, fun r hr => ?_⟩
      · rw [q2 9 (by omega)] at ht
        unfold bxA
        rw [q2 _ (by omega), q2 _ (by omega), q2 _ (by omega), q2 _ (by omega)]
        exact h6 t ht
      · rw [q2 _ (by omega), q2 _ (by omega)]
        exact h7 r hr
    have q3 : ∀ a j, a ≠ 144 → a ≠ 147 → a ≠ 160 → (a ≠ 143 ∨ (j ≠ 20 ∧ j ≠ 21 ∧ j ≠ 22 ∧ j ≠ 23)) → s' a j = σ0 a j := fun a j k1 k2 k3 k4 => (q a j (Or.inl k1) k2).trans (hf a j k3 k4 (Or.inl k1))
    have h20' : s' 143 20 = 0 := (q 143 20 (by omega) (by decide)).trans h20
    refine ⟨s', rfl, ⟨⟨N', by omega, e4, e3⟩, hH, ?_, II_fr h.2.2.2 (q3 143 6 (by decide) (by decide) (by decide) (by omega)) (fun j => q3 145 j (by decide) (by decide) (by decide) (by omega))⟩, h20', fun a j hh => (e5 a j (by omega) (by omega)).trans (hf a j (by omega) (by omega) (by omega))⟩
    obtain ⟨x1, x2, x3, x4, x5⟩ := h.2.2.1
    refine ⟨by rw [h20']; omega, by rw [q3 143 27 (by decide) (by decide) (by decide) (by omega)]; exact x2, by rw [q3 143 29 (by decide) (by decide) (by decide) (by omega)]; exact x3, by rw [q3 143 32 (by decide) (by decide) (by decide) (by omega)]; exact x4, fun k hk => ?_⟩
    rw [q3 166 _ (by decide) (by decide) (by decide) (by omega)]
    exact x5 k hk
  | d + 1, k, n + 1, s, hk, hn, hf, h20, hst, h12, h13 => by
    unfold g_m_settings_L105
    rw [if_neg (by omega), if_pos (by omega), w32_id (x := 11 + (k : Int)) (by omega) (by omega)]
    dsimp only
    rw [if_pos (by omega), w32_id (x := (k : Int) + 1) (by omega) (by omega)]
    have hst' := hst
    unfold stO at hst'
    have e := s_set105 (x := x) h d (k + 1) n (zu s 144 (11 + (k : Int)) (s 160 (k : Int))) (by omega) (by omega) (fun a j k1 k2 k3 => (zu_c (by omega)).trans (hf a j k1 k2 k3)) ((zu_a (by decide)).trans h20) (by
      unfold stO
      rw [zu_a (by decide), zu_a (by decide)]
      exact hst) (by
      by_cases c : (12 : Int) = 11 + (k : Int)
      · rw [zu_e c, show (k : Int) = 1 by omega]; exact hst'.1
      · rw [zu_i c]; exact h12) (by
      by_cases c : (13 : Int) = 11 + (k : Int)
      · rw [zu_e c, show (k : Int) = 2 by omega]; exact hst'.2
      · rw [zu_i c]; exact h13)
    rw [show ((k + 1 : Nat) : Int) = (k : Int) + 1 by omega] at e
    exact e
theorem s_set37 {σ0 : zS} (h : MI σ0) : ∀ (d n : Nat) (x b : Int) (s : zS), (b = 0 ∨ b = 1) → s 143 20 - s 143 21 ≤ (d : Int) → d + 2 < n → frS σ0 s → pI s → s 143 21 ≤ 160 → stO s → ∃ c s', g_m_settings_L37 n x b s = some (c, s') ∧ MI s' ∧ s' 143 20 = 0 ∧ frT2 σ0 s' := by
  have stop : ∀ (n : Nat) (x : Int) (s : zS), frS σ0 s → stO s → ∃ c s', g_m_settings_L37 (n + 1) x 0 s = some (c, s') ∧ MI s' ∧ s' 143 20 = 0 ∧ frT2 σ0 s' := by
    intro n x s hf hst
    unfold g_m_settings_L37
    rw [if_pos rfl]
    have q : ∀ a j, a ≠ 160 → (a ≠ 143 ∨ (j ≠ 20 ∧ j ≠ 21 ∧ j ≠ 22 ∧ j ≠ 23)) → zu s 143 20 0 a j = σ0 a j := fun a j k1 k2 => (zu_c (by omega)).trans (hf a j k1 (by omega))
    have hH := h.2.1
    dsimp only
    split
    · obtain ⟨s', e1, e2, e3, e4⟩ := s_set105 (x := x) h 7 0 zK (zu s 143 20 0) rfl (by show 7 < 1000000; omega) (fun a j k1 k2 _ => q a j k1 k2) (zu_e rfl) (by
        unfold stO at *
        rw [zu_a (by decide), zu_a (by decide)]
        exact hst) (by rw [q 144 12 (by decide) (by omega)]; exact hH.1) (by rw [q 144 13 (by decide) (by omega)]; exact hH.2.1)
      exact ⟨x, s', e1, e2, e3, e4⟩
    · refine ⟨_, _, rfl, ⟨NI_fr h.1 (fun j _ => q 144 j (by decide) (by omega)), HI_fr8 h.2.1 (fun j _ _ => q 144 j (by decide) (by omega)), ?_, II_fr h.2.2.2 (q 143 6 (by decide) (by omega)) (fun j => q 145 j (by decide) (by omega))⟩, zu_e rfl, fun a j hh => q a j (by omega) (by omega)⟩
      obtain ⟨x1, x2, x3, x4, x5⟩ := h.2.2.1
      refine ⟨by rw [zu_e rfl]; omega, by rw [q 143 27 (by decide) (by omega)]; exact x2, by rw [q 143 29 (by decide) (by omega)]; exact x3, by rw [q 143 32 (by decide) (by omega)]; exact x4, fun k hk => ?_⟩
      rw [q 166 _ (by decide) (by omega)]
      exact x5 k hk
  intro d
  induction d with
  | zero =>
    intro n x b s hb hd hn hf hp h5 hst
    obtain ⟨n, rfl⟩ : ∃ k, n = k + 2 := ⟨n - 2, by omega⟩
    by_cases c : b = 0
    · subst c; exact stop (n + 1) x s hf hst
    · unfold g_m_settings_L37
      rw [if_neg c]
      obtain ⟨b1, s1, e1, e2, e3, e4, e5⟩ := s_isSetting hp h5
      rw [e1]
      rw [Option.bind_some]
      try dsimp only
      obtain ⟨p1, p2⟩ := pI_160 hp h5 e2
      have f1 := hf.trans e3
      by_cases c1 : b1 = 0
      · rw [if_pos c1]
        unfold g_m_settings_L69
        rw [if_pos c1]
        subst c1
        exact stop n _ s1 f1 (e4 hst)
      · have e6 := e5 (by unfold pO at e2; omega)
        unfold pO at e2
        omega
  | succ d ih =>
    intro n x b s hb hd hn hf hp h5 hst
    obtain ⟨n, rfl⟩ : ∃ k, n = k + 2 := ⟨n - 2, by omega⟩
    by_cases c : b = 0
    · subst c; exact stop (n + 1) x s hf hst
    · unfold g_m_settings_L37
      rw [if_neg c]
      obtain ⟨b1, s1, e1, e2, e3, e4, e5⟩ := s_isSetting hp h5
      rw [e1]
      rw [Option.bind_some]
      try dsimp only
      obtain ⟨p1, p2⟩ := pI_160 hp h5 e2
      have f1 := hf.trans e3
      by_cases c1 : b1 = 0
      · rw [if_pos c1]
        unfold g_m_settings_L69
        rw [if_pos c1]
        subst c1
        exact stop n _ s1 f1 (e4 hst)
      · have hb1 : b1 = 1 := by unfold pO at e2; omega
        have e6 := e5 hb1
        rw [if_neg c1]
        by_cases c2 : s1 143 21 ≠ s1 143 20
        · rw [if_pos c2]
          unfold g_m_settings_L69
          rw [if_neg c1]
          obtain ⟨b2, s2, g1, g2, g3, g4⟩ := s_isSign1 (x := 59) p1 (by decide)
          rw [g1]
          rw [Option.bind_some]
          try dsimp only
          obtain ⟨p3, p4⟩ := pI_160 p1 p2 g2
          refine ih (n + 1) _ b2 s2 ?_ ?_ (by omega) (f1.trans (frS.of g3)) p3 p4 (stO_3 (e4 hst) g3)
          · unfold pO at g2; exact g2.1
          · unfold pO at e2 g2
            omega
        · rw [if_neg c2]
          exact stop n _ s1 f1 (e4 hst)
theorem s_set2 {σ : zS} (h : MI σ) : ∀ (d k n : Nat) (s : zS), k + d = 7 → d < n → (∀ a j, a ≠ 160 → s a j = σ a j) → (∀ j : Nat, j < k → s 160 (j : Int) = σ 144 (11 + (j : Int))) → ∃ c s', g_m_settings_L2 n (k : Int) s = some (c, s') ∧ MI s' ∧ s' 143 20 = 0 ∧ frT2 σ s'
  | _, _, 0, _, _, h, _, _ => absurd h (Nat.not_lt_zero _)
  | 0, k, n + 1, s, hk, _, hf, hs => by
    unfold g_m_settings_L2 g_m_begins
    rw [if_pos (by omega)]
    rw [Option.bind_some]
    try dsimp only
    have hH := h.2.1
    have f1 : frS σ (zu (zu s 143 21 0) 143 22 (-1)) := fun a j k1 k2 => by rw [zu_c (by omega), zu_c (by omega)]; exact hf a j k1
    have h20 := h.2.2.1.1
    have q20 : zu (zu s 143 21 0) 143 22 (-1) 143 20 = σ 143 20 := f1 143 20 (by decide) (by omega)
    have q21 : zu (zu s 143 21 0) 143 22 (-1) 143 21 = 0 := by rw [zu_i (by omega), zu_e rfl]
    refine s_set37 h 160 zK 0 1 _ (Or.inr rfl) (by rw [q20, q21]; omega) (by show _ < 1000000; omega) f1 ⟨by rw [q20]; omega, by rw [q20]; omega, by rw [q21]; omega⟩ (by rw [q21]; omega) ?_
    unfold stO
    rw [zu_a (by decide), zu_a (by decide), zu_a (by decide), zu_a (by decide)]
    have a1 := hs 1 (by omega)
    have a2 := hs 2 (by omega)
    rw [show ((1 : Nat) : Int) = 1 from rfl, show (11 : Int) + 1 = 12 from rfl] at a1
    rw [show ((2 : Nat) : Int) = 2 from rfl, show (11 : Int) + 2 = 13 from rfl] at a2
    rw [a1, a2]
    exact ⟨hH.1, hH.2.1⟩
  | d + 1, k, n + 1, s, hk, hn, hf, hs => by
    unfold g_m_settings_L2
    rw [if_neg (by omega), w32_id (x := 11 + (k : Int)) (by omega) (by omega), if_pos (by omega)]
    dsimp only
    rw [if_pos (by omega), w32_id (x := (k : Int) + 1) (by omega) (by omega)]
    have e := s_set2 h d (k + 1) n (zu s 160 (k : Int) (s 144 (11 + (k : Int)))) (by omega) (by omega) (fun a j k1 => (zu_a k1).trans (hf a j k1)) (fun j hj => by
      by_cases c : (j : Int) = (k : Int)
      · rw [zu_e c, c, hf 144 _ (by decide)]
      · rw [zu_i c]; exact hs j (by omega))
    rw [show ((k + 1 : Nat) : Int) = (k : Int) + 1 by omega] at e
    exact e
theorem m_settings2 {σ : zS} (h : MI σ) : ∃ c s, g_m_settings σ = some (c, s) ∧ MI s ∧ s 143 20 = 0 ∧ frT2 σ s := s_set2 h 7 0 zK σ rfl (by show 7 < 1000000; omega) (fun _ _ _ => rfl) (fun j hj => absurd hj (Nat.not_lt_zero _))
theorem m_settings {σ : zS} (h : MI σ) : ∃ c s, g_m_settings σ = some (c, s) ∧ MI s ∧ s 143 20 = 0 ∧ frT σ s := by
  obtain ⟨c, s, h1, h2, h3, h4⟩ := m_settings2 h
  exact ⟨c, s, h1, h2, h3, h4.t⟩
theorem m_setting {x : Int} {σ : zS} : ∃ c, g_m_setting x σ = some (c, σ) := by
  unfold g_m_setting
  by_cases c : 0 ≤ x ∧ x ≤ 6
  · rw [s_isIn_t c.1 c.2]
    rw [Option.bind_some]
    try dsimp only
    rw [if_neg (by decide), w32_id (x := 11 + x) (by omega) (by omega), if_pos (by omega)]
    exact ⟨_, rfl⟩
  · rw [s_isIn_f (by omega)]
    rw [Option.bind_some]
    try dsimp only
    rw [if_pos (by decide)]
    exact ⟨_, rfl⟩
end
section
/-! 4a.refk -/
/-! THE REFERENCE over the typed memory: a query read from the tape; run() -/
def frQ2 (σ s : zS) : Prop := ∀ a j, a ≠ 161 → (a ≠ 143 ∨ (j ≠ 21 ∧ j ≠ 22 ∧ j ≠ 23)) → s a j = σ a j
theorem frQ2.of {σ s : zS} (h : fr3 σ s) : frQ2 σ s := fun a j _ k => h a j k
theorem frQ2.trans {σ s t : zS} (h1 : frQ2 σ s) (h2 : frQ2 s t) : frQ2 σ t := fun a j k1 k2 => (h2 a j k1 k2).trans (h1 a j k1 k2)
theorem frQ2.u {σ : zS} {i v : Int} : frQ2 σ (zu σ 161 i v) := fun a j k1 _ => zu_a k1
theorem pI_a {σ : zS} {a : Nat} {i v : Int} (h : pI σ) (ha : a ≠ 143) : pI (zu σ a i v) := by
  unfold pI at *
  rw [zu_a (Ne.symm ha), zu_a (Ne.symm ha)]
  exact h
/-- a piece read, and then what follows -/
theorem pO_0 {σ s t : zS} {b c : Int} (h1 : pO σ s b) (h2 : pO s t c) : pO σ t c := pO_trans h1 h2
theorem s_isRange {x : Int} {σ : zS} (h : pI σ) (h5 : σ 143 21 ≤ 160) (hx : 0 ≤ x ∧ x < 47) : ∃ b s, g_m_isRange x σ = some (b, s) ∧ pO σ s b ∧ frQ2 σ s ∧ (∀ j : Int, j ≠ x → j ≠ x + 1 → s 161 j = σ 161 j) ∧ (b = 1 → 0 ≤ s 161 x ∧ s 161 x ≤ s 161 (x + 1) ∧ s 161 (x + 1) ≤ 31) := by
  unfold g_m_isRange
  rw [if_pos (by omega), w32_id (x := x + 1) (by omega) (by omega)]
  dsimp only
  rw [if_pos (by omega)]
  generalize hs1 : zu (zu σ 161 x 0) 161 (x + 1) 31 = s1
  have p1 : pI s1 := by rw [← hs1]; exact pI_a (pI_a h (by decide)) (by decide)
  have o1 : pO σ s1 1 := by rw [← hs1]; exact pO_trans (pO_60 (by decide)) (pO_60 (by decide))
  have f1 : frQ2 σ s1 := by rw [← hs1]; exact frQ2.u.trans frQ2.u
  have v1 : ∀ j : Int, j ≠ x → j ≠ x + 1 → s1 161 j = σ 161 j := fun j k1 k2 => by rw [← hs1, zu_i k2, zu_i k1]
  have w1 : s1 161 x = 0 := by rw [← hs1, zu_i (by omega), zu_e rfl]
  have w2 : s1 161 (x + 1) = 31 := by rw [← hs1, zu_e rfl]
  obtain ⟨_, p160⟩ := pI_160 h h5 o1
  rw [s_here p1]
  rw [Option.bind_some]
  try dsimp only
  by_cases c : hereC s1 ≠ 42
  · rw [if_pos c]
    obtain ⟨b, s2, e1, e2, e3, e4⟩ := s_number (w := 2) (lo := 0) (hi := 31) p1 (by omega)
    rw [e1]
    rw [Option.bind_some]
    try dsimp only
    have v2 : ∀ j : Int, s2 161 j = s1 161 j := fun j => e3 161 j (by omega)
    by_cases cb : b ≠ 0
    · have hb : b = 1 := by unfold pO at e2; omega
      subst hb
      obtain ⟨n1, n2⟩ := e4 rfl
      rw [if_pos cb, if_pos (by omega)]
      have q23 : zu s2 161 x (s2 143 23) 143 23 = s2 143 23 := zu_a (by decide)
      rw [q23]
      generalize hs3 : zu (zu s2 161 x (s2 143 23)) 161 (x + 1) (s2 143 23) = s3
      have p2 := pI_of p1 e2
      have p3 : pI s3 := by rw [← hs3]; exact pI_a (pI_a p2 (by decide)) (by decide)
      have o3 : pO σ s3 1 := pO_trans (pO_trans o1 e2) (by rw [← hs3]; exact pO_trans (pO_60 (by decide)) (pO_60 (by decide)))
      have f3 : frQ2 σ s3 := (f1.trans (frQ2.of e3)).trans (by rw [← hs3]; exact frQ2.u.trans frQ2.u)
      have v3 : ∀ j : Int, j ≠ x → j ≠ x + 1 → s3 161 j = σ 161 j := fun j k1 k2 => by rw [← hs3, zu_i k2, zu_i k1, v2 j, v1 j k1 k2]
      have w3 : s3 161 x = s2 143 23 := by rw [← hs3, zu_i (by omega), zu_e rfl]
      have w4 : s3 161 (x + 1) = s2 143 23 := by rw [← hs3, zu_e rfl]
      obtain ⟨_, p160'⟩ := pI_160 h h5 o3
      rw [if_pos (by omega), s_here p3]
      rw [Option.bind_some]
      try dsimp only
      by_cases c2 : hereC s3 = 45
      · obtain ⟨q1, q2, q3⟩ := pO_s p3 (hereC_lt c2 (by decide))
        rw [if_pos c2, q1, if_pos (by omega)]
        have w5 : zu s3 143 21 (s3 143 21 + 1) 161 x = s2 143 23 := (zu_a (by decide)).trans w3
        rw [w5]
        obtain ⟨b', s4, g1, g2, g3, g4⟩ := s_number (w := 2) (lo := s2 143 23) (hi := 31) q2 (by omega)
        rw [g1]
        rw [Option.bind_some]
        try dsimp only
        have f4 : fr3 s3 s4 := (fr3.u (by omega)).trans g3
        have v4 : ∀ j : Int, s4 161 j = s3 161 j := fun j => f4 161 j (by omega)
        have o4 := pO_trans (pO_trans o3 q3) g2
        by_cases cb' : b' ≠ 0
        · have hb' : b' = 1 := by unfold pO at g2; omega
          subst hb'
          obtain ⟨m1, m2⟩ := g4 rfl
          rw [if_pos cb', if_pos (by omega)]
          refine ⟨1, _, rfl, pO_trans o4 (pO_60 (by decide)), (f3.trans (frQ2.of f4)).trans frQ2.u, fun j k1 k2 => by rw [zu_i k2, v4 j, v3 j k1 k2], fun _ => ?_⟩
          rw [zu_e rfl, zu_i (by omega), v4 x, w3]
          omega
        · have hb' : b' = 0 := by omega
          subst hb'
          rw [if_neg cb']
          exact ⟨0, s4, rfl, o4, f3.trans (frQ2.of f4), fun j k1 k2 => (v4 j).trans (v3 j k1 k2), fun hh => absurd hh (by decide)⟩
      · rw [if_neg c2]
        exact ⟨1, s3, rfl, o3, f3, v3, fun _ => by rw [w3, w4]; omega⟩
    · have hb : b = 0 := by omega
      subst hb
      rw [if_neg cb]
      exact ⟨0, s2, rfl, pO_trans o1 e2, f1.trans (frQ2.of e3), fun j k1 k2 => (v2 j).trans (v1 j k1 k2), fun hh => absurd hh (by decide)⟩
  · rw [if_neg c]
    obtain ⟨q1, q2, q3⟩ := pO_s p1 (hereC_lt (x := 42) (by omega) (by decide))
    rw [q1]
    refine ⟨1, _, rfl, pO_trans o1 q3, f1.trans (frQ2.of (fr3.u (by omega))), fun j k1 k2 => (zu_a (by decide)).trans (v1 j k1 k2), fun _ => ?_⟩
    rw [zu_a (by decide), zu_a (by decide), w1, w2]
    omega
theorem s_isTest {σ : zS} (h : pI σ) : ∃ b s, g_m_isTest σ = some (b, s) ∧ pO σ s b ∧ fr3 σ s := by
  have fl : ∀ s : zS, pI s → pO σ s 1 → fr3 σ s → ∃ b s', ((g_m_fails (s 143 21) s).bind fun o => if o.1 = 0 ∨ o.1 = 1 then some (o.1, o.2) else none) = some (b, s') ∧ pO σ s' b ∧ fr3 σ s' := by
    intro s p o f
    obtain ⟨s', e1, e2, e3⟩ := s_failsO p
    rw [e1]
    rw [Option.bind_some]
    try dsimp only
    rw [if_pos (Or.inl rfl)]
    exact ⟨0, s', rfl, pO_trans o e2, f.trans e3⟩
  have l109 : ∀ s : zS, pI s → pO σ s 1 → fr3 σ s → ∃ b s', g_m_isTest_L109 s = some (b, s') ∧ pO σ s' b ∧ fr3 σ s' := by
    intro s p o f
    unfold g_m_isTest_L109
    obtain ⟨b, s', e1, e2, e3, _⟩ := s_number (w := 9) (lo := 0) (hi := 999999999) p (by omega)
    rw [e1]
    rw [Option.bind_some]
    try dsimp only
    have hb := e2
    unfold pO at hb
    rw [if_pos hb.1]
    exact ⟨b, s', rfl, pO_trans o e2, f.trans e3⟩
  have l80 : ∀ s : zS, pI s → s 143 21 < s 143 20 → pO σ s 1 → fr3 σ s → ∃ b s', g_m_isTest_L80 s = some (b, s') ∧ pO σ s' b ∧ fr3 σ s' := by
    intro s p hlt o f
    unfold g_m_isTest_L80
    obtain ⟨q1, q2, q3⟩ := pO_s p hlt
    dsimp only
    rw [q1, s_here q2]
    rw [Option.bind_some]
    try dsimp only
    by_cases c : hereC (zu s 143 21 (s 143 21 + 1)) ≠ 45
    · rw [if_pos c]
      exact l109 _ q2 (pO_trans o q3) (f.trans (fr3.u (by omega)))
    · rw [if_neg c]
      obtain ⟨r1, r2, r3⟩ := pO_s q2 (hereC_lt (x := 45) (by omega) (by decide))
      rw [r1]
      exact l109 _ r2 (pO_trans (pO_trans o q3) r3) ((f.trans (fr3.u (by omega))).trans (fr3.u (by omega)))
  have l38 : ∀ x : Int, x ≠ -1 → hereC σ = x → ∃ b s', g_m_isTest_L38 σ = some (b, s') ∧ pO σ s' b ∧ fr3 σ s' := by
    intro x hx hc
    unfold g_m_isTest_L38
    obtain ⟨q1, q2, q3⟩ := pO_s h (hereC_lt hc hx)
    dsimp only
    rw [q1, s_here q2]
    rw [Option.bind_some]
    try dsimp only
    by_cases c1 : hereC (zu σ 143 21 (σ 143 21 + 1)) = 60
    · rw [if_pos c1]; exact l80 _ q2 (hereC_lt c1 (by decide)) q3 (fr3.u (by omega))
    · rw [if_neg c1]
      by_cases c2 : hereC (zu σ 143 21 (σ 143 21 + 1)) = 61
      · rw [if_pos c2]; exact l80 _ q2 (hereC_lt c2 (by decide)) q3 (fr3.u (by omega))
      · rw [if_neg c2]
        by_cases c3 : hereC (zu σ 143 21 (σ 143 21 + 1)) = 62
        · rw [if_pos c3]; exact l80 _ q2 (hereC_lt c3 (by decide)) q3 (fr3.u (by omega))
        · rw [if_neg c3]
          exact fl _ q2 q3 (fr3.u (by omega))
  unfold g_m_isTest
  rw [s_here h]
  rw [Option.bind_some]
  try dsimp only
  by_cases c1 : hereC σ = 119
  · rw [if_pos c1]; exact l38 119 (by decide) c1
  · rw [if_neg c1]
    by_cases c2 : hereC σ = 120
    · rw [if_pos c2]; exact l38 120 (by decide) c2
    · rw [if_neg c2]
      by_cases c3 : hereC σ = 121
      · rw [if_pos c3]; exact l38 121 (by decide) c3
      · rw [if_neg c3]
        by_cases c4 : hereC σ = 114
        · rw [if_pos c4]; exact l38 114 (by decide) c4
        · rw [if_neg c4]
          refine fl σ h ?_ (fr3.refl σ)
          unfold pO
          omega
/-- reading a test: depth at most four -/
def rdOk (g : Int → zS → Option (Int × zS)) (e : Int) : Prop := ∀ σ : zS, pI σ → σ 143 21 ≤ 160 → ∃ b s, g e σ = some (b, s) ∧ pO σ s b ∧ fr3 σ s
theorem s_isFactor {rec : Nat → Int → zS → Option (Int × zS)} {e : Int} (he : 0 ≤ e ∧ e ≤ 4) (h225 : e < 4 → rdOk (rec 225) (e + 1)) (h227 : e < 4 → rdOk (rec 227) (e + 1)) : rdOk (g_m_isFactor rec) e := by
  intro σ h h5
  have l80 : ∃ b s, g_m_isFactor_L80 rec σ = some (b, s) ∧ pO σ s b ∧ fr3 σ s := by
    unfold g_m_isFactor_L80
    obtain ⟨b, s, e1, e2, e3⟩ := s_isTest h
    rw [e1]
    rw [Option.bind_some]
    try dsimp only
    have hb := e2
    unfold pO at hb
    rw [if_pos hb.1]
    exact ⟨b, s, rfl, e2, e3⟩
  have l34 : ∃ b s, g_m_isFactor_L34 rec e (hereC σ) σ = some (b, s) ∧ pO σ s b ∧ fr3 σ s := by
    unfold g_m_isFactor_L34
    by_cases c : 4 ≤ e
    · rw [if_pos c]; exact l80
    · rw [if_neg c]
      by_cases c2 : hereC σ ≠ 40
      · rw [if_pos c2]; exact l80
      · rw [if_neg c2]
        obtain ⟨q1, q2, q3⟩ := pO_s h (hereC_lt (x := 40) (by omega) (by decide))
        obtain ⟨_, q160⟩ := pI_160 h h5 q3
        dsimp only
        rw [q1, w32_id (x := e + 1) (by omega) (by omega)]
        obtain ⟨b, s, e1, e2, e3⟩ := h227 (by omega) _ q2 q160
        rw [e1]
        rw [Option.bind_some]
        try dsimp only
        have o2 := pO_trans q3 e2
        have f2 : fr3 σ s := (fr3.u (by omega)).trans e3
        by_cases cb : b = 0
        · rw [if_pos cb]
          subst cb
          exact ⟨0, s, rfl, o2, f2⟩
        · rw [if_neg cb]
          obtain ⟨b', s', g1, g2, g3⟩ := s_isSign (x := 41) (pI_of h o2) (by decide)
          rw [g1]
          rw [Option.bind_some]
          try dsimp only
          by_cases cb' : b' = 0
          · rw [if_pos cb']
            subst cb'
            exact ⟨0, s', rfl, pO_trans o2 g2, f2.trans g3⟩
          · rw [if_neg cb']
            have hb' : b' = 1 := by unfold pO at g2; omega
            subst hb'
            exact ⟨1, s', rfl, pO_trans o2 g2, f2.trans g3⟩
  unfold g_m_isFactor
  rw [s_here h]
  rw [Option.bind_some]
  try dsimp only
  by_cases c : 4 ≤ e
  · rw [if_pos c]; exact l34
  · rw [if_neg c]
    by_cases c2 : hereC σ ≠ 33
    · rw [if_pos c2]; exact l34
    · rw [if_neg c2]
      obtain ⟨q1, q2, q3⟩ := pO_s h (hereC_lt (x := 33) (by omega) (by decide))
      obtain ⟨_, q160⟩ := pI_160 h h5 q3
      rw [q1, w32_id (x := e + 1) (by omega) (by omega)]
      obtain ⟨b, s, e1, e2, e3⟩ := h225 (by omega) _ q2 q160
      rw [e1]
      rw [Option.bind_some]
      try dsimp only
      have hb := e2
      unfold pO at hb
      rw [if_pos hb.1]
      exact ⟨b, s, rfl, pO_trans q3 e2, (fr3.u (by omega)).trans e3⟩
theorem s_isBoth6 {rec : Nat → Int → zS → Option (Int × zS)} {e : Int} (h225 : rdOk (rec 225) e) : ∀ (d n : Nat) (b : Int) (σ : zS), (b = 0 ∨ b = 1) → (b = 0 → 0 ≤ σ 143 22) → pI σ → σ 143 21 ≤ 160 → σ 143 20 - σ 143 21 ≤ (d : Int) → d + 1 < n → ∃ b' s, g_m_isBoth_L6 rec n e b σ = some (b', s) ∧ pO σ s b' ∧ fr3 σ s := by
  have st : ∀ (b : Int) (σ : zS), (b = 0 ∨ b = 1) → (b = 0 → 0 ≤ σ 143 22) → pO σ σ b := by
    intro b σ hb h22
    unfold pO
    omega
  intro d
  induction d with
  | zero =>
    intro n b σ hb h22 h h5 hd hn
    obtain ⟨n, rfl⟩ : ∃ k, n = k + 1 := ⟨n - 1, by omega⟩
    unfold g_m_isBoth_L6
    by_cases c : b = 0
    · rw [if_pos c, if_pos hb]; exact ⟨b, σ, rfl, st b σ hb h22, fr3.refl σ⟩
    · rw [if_neg c, s_here h]
      rw [Option.bind_some]
      try dsimp only
      by_cases c2 : hereC σ ≠ 38
      · rw [if_pos c2, if_pos hb]; exact ⟨b, σ, rfl, st b σ hb h22, fr3.refl σ⟩
      · have := hereC_lt (σ := σ) (x := 38) (by omega) (by decide)
        omega
  | succ d ih =>
    intro n b σ hb h22 h h5 hd hn
    obtain ⟨n, rfl⟩ : ∃ k, n = k + 1 := ⟨n - 1, by omega⟩
    unfold g_m_isBoth_L6
    by_cases c : b = 0
    · rw [if_pos c, if_pos hb]; exact ⟨b, σ, rfl, st b σ hb h22, fr3.refl σ⟩
    · rw [if_neg c, s_here h]
      rw [Option.bind_some]
      try dsimp only
      by_cases c2 : hereC σ ≠ 38
      · rw [if_pos c2, if_pos hb]; exact ⟨b, σ, rfl, st b σ hb h22, fr3.refl σ⟩
      · rw [if_neg c2]
        obtain ⟨q1, q2, q3⟩ := pO_s h (hereC_lt (x := 38) (by omega) (by decide))
        obtain ⟨_, q160⟩ := pI_160 h h5 q3
        rw [q1]
        obtain ⟨b1, s1, e1, e2, e3⟩ := h225 _ q2 q160
        rw [e1]
        rw [Option.bind_some]
        try dsimp only
        obtain ⟨r1, r2⟩ := pI_160 q2 q160 e2
        have e4 := e2
        unfold pO at e4
        have q20 : zu σ 143 21 (σ 143 21 + 1) 143 20 = σ 143 20 := zu_i (by omega)
        have q21 : zu σ 143 21 (σ 143 21 + 1) 143 21 = σ 143 21 + 1 := zu_e rfl
        rw [q20, q21] at e4
        obtain ⟨b2, s2, g1, g2, g3⟩ := ih n b1 s1 e4.1 e4.2.2.2.2.2 r1 r2 (by omega) (by omega)
        exact ⟨b2, s2, g1, pO_trans (pO_trans q3 e2) g2, ((fr3.u (by omega)).trans e3).trans g3⟩
theorem s_isBoth {rec : Nat → Int → zS → Option (Int × zS)} {e : Int} (h225 : rdOk (rec 225) e) : rdOk (g_m_isBoth rec) e := by
  intro σ h h5
  unfold g_m_isBoth
  obtain ⟨b1, s1, e1, e2, e3⟩ := h225 σ h h5
  rw [e1]
  rw [Option.bind_some]
  try dsimp only
  obtain ⟨r1, r2⟩ := pI_160 h h5 e2
  have e4 := e2
  unfold pO at e4
  have hh := r1
  unfold pI at hh
  obtain ⟨b2, s2, g1, g2, g3⟩ := s_isBoth6 h225 160 zK b1 s1 e4.1 e4.2.2.2.2.2 r1 r2 (by omega) (by show _ < 1000000; omega)
  exact ⟨b2, s2, g1, pO_trans e2 g2, e3.trans g3⟩
theorem s_isEither6 {rec : Nat → Int → zS → Option (Int × zS)} {e : Int} (h226 : rdOk (rec 226) e) : ∀ (d n : Nat) (b : Int) (σ : zS), (b = 0 ∨ b = 1) → (b = 0 → 0 ≤ σ 143 22) → pI σ → σ 143 21 ≤ 160 → σ 143 20 - σ 143 21 ≤ (d : Int) → d + 1 < n → ∃ b' s, g_m_isEither_L6 rec n e b σ = some (b', s) ∧ pO σ s b' ∧ fr3 σ s := by
  have st : ∀ (b : Int) (σ : zS), (b = 0 ∨ b = 1) → (b = 0 → 0 ≤ σ 143 22) → pO σ σ b := by
    intro b σ hb h22
    unfold pO
    omega
  intro d
  induction d with
  | zero =>
    intro n b σ hb h22 h h5 hd hn
    obtain ⟨n, rfl⟩ : ∃ k, n = k + 1 := ⟨n - 1, by omega⟩
    unfold g_m_isEither_L6
    by_cases c : b = 0
    · rw [if_pos c, if_pos hb]; exact ⟨b, σ, rfl, st b σ hb h22, fr3.refl σ⟩
    · rw [if_neg c, s_here h]
      rw [Option.bind_some]
      try dsimp only
      by_cases c2 : hereC σ ≠ 124
      · rw [if_pos c2, if_pos hb]; exact ⟨b, σ, rfl, st b σ hb h22, fr3.refl σ⟩
      · have := hereC_lt (σ := σ) (x := 124) (by omega) (by decide)
        omega
  | succ d ih =>
    intro n b σ hb h22 h h5 hd hn
    obtain ⟨n, rfl⟩ : ∃ k, n = k + 1 := ⟨n - 1, by omega⟩
    unfold g_m_isEither_L6
    by_cases c : b = 0
    · rw [if_pos c, if_pos hb]; exact ⟨b, σ, rfl, st b σ hb h22, fr3.refl σ⟩
    · rw [if_neg c, s_here h]
      rw [Option.bind_some]
      try dsimp only
      by_cases c2 : hereC σ ≠ 124
      · rw [if_pos c2, if_pos hb]; exact ⟨b, σ, rfl, st b σ hb h22, fr3.refl σ⟩
      · rw [if_neg c2]
        obtain ⟨q1, q2, q3⟩ := pO_s h (hereC_lt (x := 124) (by omega) (by decide))
        obtain ⟨_, q160⟩ := pI_160 h h5 q3
        rw [q1]
        obtain ⟨b1, s1, e1, e2, e3⟩ := h226 _ q2 q160
        rw [e1]
        rw [Option.bind_some]
        try dsimp only
        obtain ⟨r1, r2⟩ := pI_160 q2 q160 e2
        have e4 := e2
        unfold pO at e4
        have q20 : zu σ 143 21 (σ 143 21 + 1) 143 20 = σ 143 20 := zu_i (by omega)
        have q21 : zu σ 143 21 (σ 143 21 + 1) 143 21 = σ 143 21 + 1 := zu_e rfl
        rw [q20, q21] at e4
        obtain ⟨b2, s2, g1, g2, g3⟩ := ih n b1 s1 e4.1 e4.2.2.2.2.2 r1 r2 (by omega) (by omega)
        exact ⟨b2, s2, g1, pO_trans (pO_trans q3 e2) g2, ((fr3.u (by omega)).trans e3).trans g3⟩
theorem s_isEither {rec : Nat → Int → zS → Option (Int × zS)} {e : Int} (h226 : rdOk (rec 226) e) : rdOk (g_m_isEither rec) e := by
  intro σ h h5
  unfold g_m_isEither
  obtain ⟨b1, s1, e1, e2, e3⟩ := h226 σ h h5
  rw [e1]
  rw [Option.bind_some]
  try dsimp only
  obtain ⟨r1, r2⟩ := pI_160 h h5 e2
  have e4 := e2
  unfold pO at e4
  have hh := r1
  unfold pI at hh
  obtain ⟨b2, s2, g1, g2, g3⟩ := s_isEither6 h226 160 zK b1 s1 e4.1 e4.2.2.2.2.2 r1 r2 (by omega) (by show _ < 1000000; omega)
  exact ⟨b2, s2, g1, pO_trans e2 g2, e3.trans g3⟩
theorem grp225_225 {n : Nat} : g_grp225 (n + 1) 225 = g_m_isFactor (g_grp225 n) := by
  funext r σ
  show (if 225 = 225 then _ else _) = _
  exact if_pos rfl
theorem grp225_226 {n : Nat} : g_grp225 (n + 1) 226 = g_m_isBoth (g_grp225 n) := by
  funext r σ
  show (if 226 = 225 then _ else if 226 = 226 then _ else _) = _
  rw [if_neg (by decide), if_pos rfl]
theorem grp225_227 {n : Nat} : g_grp225 (n + 1) 227 = g_m_isEither (g_grp225 n) := by
  funext r σ
  show (if 227 = 225 then _ else if 227 = 226 then _ else if 227 = 227 then _ else _) = _
  rw [if_neg (by decide), if_neg (by decide), if_pos rfl]
/-- at depth 4 - d, with room for 3 d + 1 calls -/
theorem s_read : ∀ (d n : Nat), d ≤ 4 → 3 * d + 1 ≤ n → rdOk (g_grp225 n 225) (4 - (d : Int))
  | 0, n, _, hn => by
    obtain ⟨k, rfl⟩ : ∃ k, n = k + 1 := ⟨n - 1, by omega⟩
    rw [grp225_225]
    exact s_isFactor (by omega) (fun hh => by omega) (fun hh => by omega)
  | d + 1, n, hd, hn => by
    obtain ⟨k, rfl⟩ : ∃ k, n = k + 3 := ⟨n - 3, by omega⟩
    have h0 : ∀ j, 3 * d + 1 ≤ j → rdOk (g_grp225 j 225) (4 - (d : Int)) := fun j hj => s_read d j (by omega) hj
    have e : (4 : Int) - ((d + 1 : Nat) : Int) + 1 = 4 - (d : Int) := by omega
    rw [grp225_225]
    refine s_isFactor (by omega) (fun _ => ?_) (fun _ => ?_)
    · rw [e]; exact h0 _ (by omega)
    · rw [e, grp225_227]
      refine s_isEither ?_
      rw [grp225_226]
      exact s_isBoth (h0 _ (by omega))
theorem s_test0 : rdOk (g_grp225 zR 227) 0 := by
  show rdOk (g_grp225 (499 + 1) 227) 0
  rw [grp225_227]
  refine s_isEither ?_
  show rdOk (g_grp225 (498 + 1) 226) 0
  rw [grp225_226]
  exact s_isBoth (s_read 4 498 (by omega) (by omega))
end
section
/-! 4b.refl -/
/-! THE REFERENCE over the typed memory: the queries' line; run() and answer() -/
def qOk (s : zS) (k : Nat) : Prop := bOk (bxA s 161 (6 * (k : Int) + 1)) ∧ s 161 (6 * (k : Int) + 5) ≤ 160
theorem qOk_fr {σ s : zS} {k : Nat} (h : qOk σ k) (e : ∀ j : Int, 6 * (k : Int) ≤ j → j < 6 * (k : Int) + 6 → s 161 j = σ 161 j) : qOk s k := by
  unfold qOk bxA at *
  rw [e _ (by omega) (by omega), e _ (by omega) (by omega), e _ (by omega) (by omega), e _ (by omega) (by omega), e _ (by omega) (by omega)]
  exact h
theorem s_isQuery {k : Nat} (hk : k < 8) {σ : zS} (h : pI σ) (h5 : σ 143 21 ≤ 160) : ∃ b s, g_m_isQuery (k : Int) σ = some (b, s) ∧ pO σ s b ∧ frQ2 σ s ∧ (∀ j : Int, j < 6 * (k : Int) → s 161 j = σ 161 j) ∧ (b = 1 → qOk s k) := by
  unfold g_m_isQuery
  obtain ⟨v, s1, e1, e2, e3⟩ := s_word14 h h5
  rw [e1]
  rw [Option.bind_some]
  try dsimp only
  rw [w32_id (x := 6 * (k : Int)) (by omega) (by omega), if_pos (show 0 ≤ 6 * (k : Int) ∧ 6 * (k : Int) < 48 by omega), if_pos (show 0 ≤ 6 * (k : Int) ∧ 6 * (k : Int) < 48 by omega), zu_e (σ := s1) (a := 161) (i := 6 * (k : Int)) (j := 6 * (k : Int)) rfl]
  have l1 : ∀ j : Int, j < 6 * (k : Int) → zu s1 161 (6 * (k : Int)) v 161 j = σ 161 j := fun j hj => by rw [zu_i (by omega)]; exact e2 161 j (by omega)
  have f1 : frQ2 σ (zu s1 161 (6 * (k : Int)) v) := (frQ2.of e2).trans frQ2.u
  by_cases c : v < 0
  · rw [if_pos c]
    rw [if_pos c] at e3
    refine ⟨0, _, rfl, ?_, f1, l1, fun hh => absurd hh (by decide)⟩
    unfold pO at *
    rw [zu_a (by decide), zu_a (by decide), zu_a (by decide)]
    exact e3
  · rw [if_neg c]
    rw [if_neg c] at e3
    generalize hs1 : zu s1 161 (6 * (k : Int)) v = s1' at *
    have o1 : pO σ s1' 1 := by rw [← hs1]; exact pO_trans e3 (pO_60 (by decide))
    obtain ⟨p1, p1b⟩ := pI_160 h h5 o1
    obtain ⟨b2, s2, e4, e5, e6⟩ := s_isSign (x := 32) p1 (by decide)
    rw [e4]
    rw [Option.bind_some]
    try dsimp only
    have o2 := pO_trans o1 e5
    obtain ⟨p2, p2b⟩ := pI_160 h h5 o2
    have f2 := f1.trans (frQ2.of e6)
    have l2 : ∀ j : Int, j < 6 * (k : Int) → s2 161 j = σ 161 j := fun j hj => (e6 161 j (by omega)).trans (l1 j hj)
    by_cases c2 : b2 = 0
    · rw [if_pos c2]
      subst c2
      exact ⟨0, s2, rfl, o2, f2, l2, fun hh => absurd hh (by decide)⟩
    · rw [if_neg c2, w32_id (x := 6 * (k : Int) + 1) (by omega) (by omega)]
      obtain ⟨b3, s3, g1, g2, g3, g4, g5⟩ := s_isRange (x := 6 * (k : Int) + 1) p2 p2b (by omega)
      rw [g1]
      rw [Option.bind_some]
      try dsimp only
      have o3 := pO_trans o2 g2
      obtain ⟨p3, p3b⟩ := pI_160 h h5 o3
      have f3 := f2.trans g3
      have l3 : ∀ j : Int, j < 6 * (k : Int) → s3 161 j = σ 161 j := fun j hj => (g4 j (by omega) (by omega)).trans (l2 j hj)
      by_cases c3 : b3 = 0
      · rw [if_pos c3]
        subst c3
        exact ⟨0, s3, rfl, o3, f3, l3, fun hh => absurd hh (by decide)⟩
      · have hb3 : b3 = 1 := by unfold pO at g2; omega
        obtain ⟨a1, a2, a3⟩ := g5 hb3
        rw [if_neg c3]
        obtain ⟨b4, s4, e7, e8, e9⟩ := s_isSign (x := 32) p3 (by decide)
        rw [e7]
        rw [Option.bind_some]
        try dsimp only
        have o4 := pO_trans o3 e8
        obtain ⟨p4, p4b⟩ := pI_160 h h5 o4
        have f4 := f3.trans (frQ2.of e9)
        have l4 : ∀ j : Int, j < 6 * (k : Int) → s4 161 j = σ 161 j := fun j hj => (e9 161 j (by omega)).trans (l3 j hj)
        by_cases c4 : b4 = 0
        · rw [if_pos c4]
          subst c4
          exact ⟨0, s4, rfl, o4, f4, l4, fun hh => absurd hh (by decide)⟩
        · rw [if_neg c4, w32_id (x := 6 * (k : Int) + 3) (by omega) (by omega)]
          obtain ⟨b5, s5, k1, k2, k3, k4, k5⟩ := s_isRange (x := 6 * (k : Int) + 3) p4 p4b (by omega)
          rw [k1]
          rw [Option.bind_some]
          try dsimp only
          have o5 := pO_trans o4 k2
          obtain ⟨p5, p5b⟩ := pI_160 h h5 o5
          have f5 := f4.trans k3
          have l5 : ∀ j : Int, j < 6 * (k : Int) → s5 161 j = σ 161 j := fun j hj => (k4 j (by omega) (by omega)).trans (l4 j hj)
          by_cases c5 : b5 ≠ 0
          · have hb5 : b5 = 1 := by unfold pO at k2; omega
            obtain ⟨d1, d2, d3⟩ := k5 hb5
            have m1 : s5 161 (6 * (k : Int) + 1) = s3 161 (6 * (k : Int) + 1) := (k4 _ (by omega) (by omega)).trans (e9 161 _ (by omega))
            have m2 : s5 161 (6 * (k : Int) + 1 + 1) = s3 161 (6 * (k : Int) + 1 + 1) := (k4 _ (by omega) (by omega)).trans (e9 161 _ (by omega))
            have bx5 : bOk (bxA s5 161 (6 * (k : Int) + 1)) := by
              unfold bxA
              rw [show 6 * (k : Int) + 1 + 2 = 6 * (k : Int) + 3 by omega, show 6 * (k : Int) + 1 + 3 = 6 * (k : Int) + 3 + 1 by omega, m1, m2]
              exact ⟨a1, a2, a3, d1, d2, d3⟩
            rw [if_pos c5, w32_id (x := 6 * (k : Int) + 5) (by omega) (by omega), if_pos (by omega)]
            have o6 := pO_trans o5 (pO_60 (a := 161) (i := 6 * (k : Int) + 5) (v := -1) (by decide))
            obtain ⟨p6, p6b⟩ := pI_160 h h5 o6
            have f6 : frQ2 σ (zu s5 161 (6 * (k : Int) + 5) (-1)) := f5.trans frQ2.u
            have l6 : ∀ j : Int, j < 6 * (k : Int) → zu s5 161 (6 * (k : Int) + 5) (-1) 161 j = σ 161 j := fun j hj => (zu_i (by omega)).trans (l5 j hj)
            have bx6 : bOk (bxA (zu s5 161 (6 * (k : Int) + 5) (-1)) 161 (6 * (k : Int) + 1)) := by rw [zu_bxi (by omega)]; exact bx5
            have w6 : zu s5 161 (6 * (k : Int) + 5) (-1) 161 (6 * (k : Int) + 5) = -1 := zu_e rfl
            generalize zu s5 161 (6 * (k : Int) + 5) (-1) = s6 at *
            rw [s_here p6]
            rw [Option.bind_some]
            try dsimp only
            by_cases c6 : hereC s6 = 32
            · rw [if_pos c6]
              obtain ⟨q1, q2, q3⟩ := pO_s p6 (hereC_lt c6 (by decide))
              have o7 := pO_trans o6 q3
              obtain ⟨p7, p7b⟩ := pI_160 h h5 o7
              rw [q1]
              obtain ⟨v7, s7, r1, r2, r3⟩ := s_word15 p7 p7b
              rw [r1]
              rw [Option.bind_some]
              try dsimp only
              have o8 := pO_trans o7 r3
              obtain ⟨p8, p8b⟩ := pI_160 h h5 o8
              have g7 : fr3 s6 s7 := (fr3.u (by omega)).trans r2
              by_cases c7 : v7 < 0
              · rw [if_pos c7]
                rw [if_pos c7] at o8
                exact ⟨0, s7, rfl, o8, f6.trans (frQ2.of g7), fun j hj => (g7 161 j (by omega)).trans (l6 j hj), fun hh => absurd hh (by decide)⟩
              · rw [if_neg c7]
                obtain ⟨b8, s8, t1, t2, t3⟩ := s_isSign (x := 32) p8 (by decide)
                rw [t1]
                rw [Option.bind_some]
                try dsimp only
                have o9 := pO_trans o8 t2
                obtain ⟨p9, p9b⟩ := pI_160 h h5 o9
                have g8 := g7.trans t3
                by_cases c8 : b8 ≠ 0
                · rw [if_pos c8, if_pos (by omega)]
                  have oA := pO_trans o9 (pO_60 (a := 161) (i := 6 * (k : Int) + 5) (v := s8 143 21) (by decide))
                  obtain ⟨pA, pAb⟩ := pI_160 h h5 oA
                  obtain ⟨bB, sB, u1, u2, u3⟩ := s_test0 _ pA pAb
                  rw [u1]
                  rw [Option.bind_some]
                  try dsimp only
                  have hb := u2
                  unfold pO at hb
                  rw [if_pos hb.1]
                  refine ⟨bB, sB, rfl, pO_trans oA u2, ((f6.trans (frQ2.of g8)).trans frQ2.u).trans (frQ2.of u3), fun j hj => by rw [u3 161 j (by omega), zu_i (by omega), g8 161 j (by omega)]; exact l6 j hj, fun _ => ⟨?_, ?_⟩⟩
                  · unfold bxA at *
                    rw [u3 161 _ (by omega), u3 161 _ (by omega), u3 161 _ (by omega), u3 161 _ (by omega), zu_i (by omega), zu_i (by omega), zu_i (by omega), zu_i (by omega), g8 161 _ (by omega), g8 161 _ (by omega), g8 161 _ (by omega), g8 161 _ (by omega)]
                    exact bx6
                  · rw [u3 161 _ (by omega), zu_e rfl]
                    exact p9b
                · have hb8 : b8 = 0 := by omega
                  subst hb8
                  rw [if_neg c8]
                  exact ⟨0, s8, rfl, o9, f6.trans (frQ2.of g8), fun j hj => (g8 161 j (by omega)).trans (l6 j hj), fun hh => absurd hh (by decide)⟩
            · rw [if_neg c6]
              exact ⟨1, s6, rfl, o6, f6, l6, fun _ => ⟨bx6, by rw [w6]; decide⟩⟩
          · have hb5 : b5 = 0 := by omega
            subst hb5
            rw [if_neg c5]
            exact ⟨0, s5, rfl, o5, f5, l5, fun hh => absurd hh (by decide)⟩
/-- the end of a line: the tape is empty -/
theorem MI_z20 {σ0 s : zS} (h : MI s) (f : frT3 σ0 s) : MI (zu s 143 20 0) ∧ zu s 143 20 0 143 20 = 0 ∧ frT3 σ0 (zu s 143 20 0) := by
  obtain ⟨s', e1, e2, e3, e4⟩ := m_clear h
  have q : s' = zu s 143 20 0 := by
    unfold g_m_clear at e1
    injection e1 with e1
    exact (congrArg Prod.snd e1).symm
  subst q
  exact ⟨e2, e3, fun a j hh => (e4 a j (by omega)).trans (f a j hh)⟩
theorem s_run145 {σ0 s : zS} {x : Int} (h : MI s) (f : frT3 σ0 s) : ∃ c s', g_m_run_L145 x s = some (c, s') ∧ MI s' ∧ s' 143 20 = 0 ∧ frT3 σ0 s' := by
  have e := MI_z20 h f
  unfold g_m_run_L145
  dsimp only
  split
  · exact ⟨_, _, rfl, e⟩
  · exact ⟨_, _, rfl, e⟩
theorem s_run86 {σ0 : zS} {K : Nat} (hK : K ≤ 8) : ∀ (d k n : Nat) (s : zS), k + d = K → d < n → MI s → frT3 σ0 s → (∀ t : Nat, t < K → qOk s t) → ∃ c s', g_m_run_L86 n (K : Int) (k : Int) s = some (c, s') ∧ MI s' ∧ s' 143 20 = 0 ∧ frT3 σ0 s'
  | _, _, 0, _, _, h, _, _, _ => absurd h (Nat.not_lt_zero _)
  | 0, k, n + 1, s, hk, _, h, f, _ => by
    unfold g_m_run_L86
    rw [if_pos (by omega)]
    exact s_run145 h f
  | d + 1, k, n + 1, s, hk, hn, h, f, hq => by
    have l161 : zLI 161 = 48 := rfl
    have l152 : zLI 152 = 4 := rfl
    unfold g_m_run_L86
    rw [if_neg (by omega), w32_id (x := 6 * (k : Int)) (by omega) (by omega), w32_id (x := 6 * (k : Int) + 1) (by omega) (by omega), s_copies (by omega) (by omega) (by omega) (by omega) (by omega) (by omega)]
    rw [Option.bind_some]
    try dsimp only
    rw [if_pos (by omega), w32_id (x := 6 * (k : Int) + 5) (by omega) (by omega), if_pos (by omega)]
    obtain ⟨qb, qt⟩ := hq k (by omega)
    generalize hs1 : zb s 152 0 (bxA s 161 (6 * (k : Int) + 1)) = s1
    have f1 : ∀ a j, a ≠ 152 → s1 a j = s a j := fun a j ha => by rw [← hs1]; exact zb_a ha
    have hb1 : bxA s1 152 0 = bxA s 161 (6 * (k : Int) + 1) := by rw [← hs1]; exact zb_bx rfl
    have h1 : MI s1 := MI_144 h (fun a j hh => f1 a j (by omega))
    obtain ⟨N, n1, n2, n3⟩ := h1.1
    have h20 := h1.2.2.1.1
    obtain ⟨v, s2, N', e1, e2, e3, e4, e5, e6⟩ := s_asked (x := s1 161 (6 * (k : Int))) (t := s1 161 (6 * (k : Int) + 5)) n3 n2 n1 qb hb1 h1.2.1.2.1.1 h1.2.1.2.1.2 h1.2.1.1.1 (fun s' hs' => tst_ok (by rw [hs' 143 20 (by omega) (by omega) (by omega) (by omega) (by omega) (by omega)]; exact h20) (by rw [f1 161 _ (by decide)]; omega))
    rw [e1]
    rw [Option.bind_some]
    try dsimp only
    rw [if_pos (by omega), w32_id (x := (k : Int) + 1) (by omega) (by omega)]
    have q : ∀ a j, (a < 143 ∨ 168 ≤ a ∨ a = 159 ∨ a = 161 ∨ a = 166 ∨ a = 167 ∨ a = 145 ∨ a = 148 ∨ (a = 144 ∧ ((9 ≤ j ∧ j < 200) ∨ (260 ≤ j ∧ j < 340))) ∨ (a = 147 ∧ 1 ≤ j ∧ j < 61) ∨ (a = 143 ∧ (j = 6 ∨ j = 20 ∨ j = 27 ∨ j = 29 ∨ j = 32))) → s2 a j = s1 a j := fun a j hh => e5 a j (by omega) (by omega) (by omega) (by omega) (by omega) (by omega) (by omega) (by omega)
    have hH2 : HI s2 := HI_fr h1.2.1 (fun j hj => e5 144 j (by omega) (by omega) (by omega) (by omega) (by omega) (by omega) (by omega) (by omega)) e6
    have h2 : MI s2 := MI_q h1 ⟨N', e4, e3, e2⟩ hH2 (fun a j hh => q a j (by omega))
    have h3 : MI (zu s2 162 (k : Int) v) := MI_144 h2 (fun a j hh => zu_a (by omega))
    obtain ⟨c, s', g1, g2⟩ := s_run86 (σ0 := σ0) hK d (k + 1) n (zu s2 162 (k : Int) v) (by omega) (by omega) h3 (fun a j hh => by rw [zu_a (by omega), q a j (by omega), f1 a j (by omega)]; exact f a j hh) (fun t ht => qOk_fr (hq t ht) (fun j _ _ => by rw [zu_a (by decide), q 161 j (by omega), f1 161 j (by decide)]))
    rw [show ((k + 1 : Nat) : Int) = (k : Int) + 1 by omega] at g1
    exact ⟨c, s', g1, g2⟩
theorem MI_Q2 {σ s : zS} (h : MI σ) (f : frQ2 σ s) : MI s ∧ frT3 σ s :=
  ⟨MI_144 h (fun a j hh => f a j (by omega) (by omega)), fun a j hh => f a j (by omega) (by omega)⟩
theorem s_runStop {σ0 s : zS} {n k : Nat} (h : MI σ0) (f : frQ2 σ0 s) (hk : 0 ≤ s 143 22 ∨ (k ≤ 8 ∧ ∀ t : Nat, t < k → qOk s t)) : ∃ c s', g_m_run_L8 (n + 1) (k : Int) 0 s = some (c, s') ∧ MI s' ∧ s' 143 20 = 0 ∧ frT3 σ0 s' := by
  obtain ⟨h1, f1⟩ := MI_Q2 h f
  unfold g_m_run_L8
  rw [if_pos rfl]
  dsimp only
  by_cases c : 0 ≤ s 143 22
  · rw [if_pos c]; exact s_run145 h1 f1
  · rw [if_neg c]
    obtain ⟨k8, hq⟩ := hk.resolve_left c
    have q : ∀ a j, ¬ (a = 143 ∧ j = 27) → zu s 143 27 (k : Int) a j = s a j := fun a j hh => zu_c (by omega)
    refine s_run86 k8 k 0 zK (zu s 143 27 (k : Int)) (by omega) (by show _ < 1000000; omega) ⟨NI_fr h1.1 (fun j _ => q 144 j (by omega)), HI_fr8 h1.2.1 (fun j _ _ => q 144 j (by omega)), ?_, II_fr h1.2.2.2 (q 143 6 (by omega)) (fun j => q 145 j (by omega))⟩ (fun a j hh => (q a j (by omega)).trans (f1 a j hh)) (fun t ht => qOk_fr (hq t ht) (fun j _ _ => q 161 j (by omega)))
    obtain ⟨x1, x2, x3, x4, x5⟩ := h1.2.2.1
    refine ⟨by rw [q 143 20 (by omega)]; exact x1, by rw [zu_e rfl]; omega, by rw [q 143 29 (by omega)]; exact x3, by rw [q 143 32 (by omega)]; exact x4, fun k hk => ?_⟩
    rw [q 166 _ (by omega)]
    exact x5 k hk
theorem s_run8 {σ0 : zS} (h : MI σ0) : ∀ (d k n : Nat) (s : zS), k + d = 8 → 1 ≤ d → d + 1 < n → frQ2 σ0 s → pI s → s 143 21 ≤ 160 → (0 ≤ s 143 22 ∨ ∀ t : Nat, t < k → qOk s t) → ∃ c s', g_m_run_L8 n (k : Int) 1 s = some (c, s') ∧ MI s' ∧ s' 143 20 = 0 ∧ frT3 σ0 s' := by
  intro d
  induction d with
  | zero => intro k n s _ h1; omega
  | succ d ih =>
    intro k n s hk _ hn f p p5 hq
    obtain ⟨n, rfl⟩ : ∃ m, n = m + 2 := ⟨n - 2, by omega⟩
    unfold g_m_run_L8
    rw [if_neg (by decide)]
    obtain ⟨b, s1, e1, e2, e3, e4, e5⟩ := s_isQuery (k := k) (by omega) p p5
    rw [e1]
    rw [Option.bind_some]
    try dsimp only
    obtain ⟨p1, p15⟩ := pI_160 p p5 e2
    have f1 := f.trans e3
    rw [w32_id (x := (k : Int) + 1) (by omega) (by omega), show (k : Int) + 1 = ((k + 1 : Nat) : Int) by omega]
    have hb := e2
    unfold pO at hb
    by_cases c : b = 0
    · rw [if_pos c]
      unfold g_m_run_L41
      rw [if_pos c, c]
      exact s_runStop h f1 (Or.inl (hb.2.2.2.2.2 c))
    · have hb1 : b = 1 := by omega
      have hq1 : 0 ≤ s1 143 22 ∨ ∀ t : Nat, t < k + 1 → qOk s1 t := by
        rcases hq with hq | hq
        · exact Or.inl (hb.2.2.2.2.1 hq)
        · refine Or.inr (fun t ht => ?_)
          by_cases ct : t = k
          · subst ct; exact e5 hb1
          · exact qOk_fr (hq t (by omega)) (fun j _ j2 => e4 j (by omega))
      rw [if_neg c]
      by_cases c2 : s1 143 21 ≠ s1 143 20
      · rw [if_pos c2]
        unfold g_m_run_L41
        rw [if_neg c]
        by_cases c3 : 8 ≤ ((k + 1 : Nat) : Int)
        · rw [if_pos c3]
          obtain ⟨s2, g1, g2, g3⟩ := s_failsO p1
          dsimp only
          rw [g1]
          rw [Option.bind_some]
          try dsimp only
          unfold g_m_run_L68
          unfold pO at g2
          exact s_runStop h (f1.trans (frQ2.of g3)) (Or.inl (g2.2.2.2.2.2 rfl))
        · rw [if_neg c3]
          obtain ⟨b2, s2, g1, g2, g3⟩ := s_isSign (x := 59) p1 (by decide)
          rw [g1]
          rw [Option.bind_some]
          try dsimp only
          unfold g_m_run_L68
          have g4 := g2
          unfold pO at g4
          obtain ⟨p2, p25⟩ := pI_160 p1 p15 g2
          by_cases c4 : b2 = 0
          · rw [c4]
            exact s_runStop h (f1.trans (frQ2.of g3)) (Or.inl (g4.2.2.2.2.2 c4))
          · have hb2 : b2 = 1 := by omega
            rw [hb2]
            refine ih (k + 1) (n + 1) s2 (by omega) (by omega) (by omega) (f1.trans (frQ2.of g3)) p2 p25 ?_
            rcases hq1 with hq1 | hq1
            · exact Or.inl (g4.2.2.2.2.1 hq1)
            · exact Or.inr (fun t ht => qOk_fr (hq1 t ht) (fun j _ _ => g3 161 j (by omega)))
      · rw [if_neg c2]
        refine s_runStop h f1 ?_
        rcases hq1 with hq1 | hq1
        · exact Or.inl hq1
        · exact Or.inr ⟨by omega, hq1⟩
theorem m_run2 {σ : zS} (h : MI σ) : ∃ c s, g_m_run σ = some (c, s) ∧ MI s ∧ s 143 20 = 0 ∧ frT3 σ s := by
  unfold g_m_run g_m_begins
  rw [Option.bind_some]
  try dsimp only
  have f1 : frQ2 σ (zu (zu σ 143 21 0) 143 22 (-1)) := fun a j k1 k2 => by rw [zu_c (by omega), zu_c (by omega)]
  have h20 := h.2.2.1.1
  have q20 : zu (zu σ 143 21 0) 143 22 (-1) 143 20 = σ 143 20 := f1 143 20 (by decide) (by omega)
  have q21 : zu (zu σ 143 21 0) 143 22 (-1) 143 21 = 0 := by rw [zu_i (by omega), zu_e rfl]
  exact s_run8 h 8 0 zK _ rfl (by omega) (by show _ < 1000000; omega) f1 ⟨by rw [q20]; omega, by rw [q20]; omega, by rw [q21]; omega⟩ (by rw [q21]; omega) (Or.inr (fun t ht => absurd ht (Nat.not_lt_zero _)))
theorem m_run {σ : zS} (h : MI σ) : ∃ c s, g_m_run σ = some (c, s) ∧ MI s ∧ s 143 20 = 0 ∧ frT σ s := by
  obtain ⟨c, s, h1, h2, h3, h4⟩ := m_run2 h
  exact ⟨c, s, h1, h2, h3, h4.t⟩
theorem m_answer {x : Int} {σ : zS} (h : MI σ) : ∃ c, g_m_answer x σ = some (c, σ) := by
  have h27 := h.2.2.1.2.1
  unfold g_m_answer
  show ∃ c, (g_m_isIn x 0 (w32 (σ 143 27 - 1)) σ).bind _ = _
  rw [w32_id (x := σ 143 27 - 1) (by omega) (by omega)]
  by_cases c : 0 ≤ x ∧ x ≤ σ 143 27 - 1
  · rw [s_isIn_t c.1 c.2]
    rw [Option.bind_some]
    try dsimp only
    rw [if_neg (by decide), if_pos (by omega)]
    exact ⟨_, rfl⟩
  · rw [s_isIn_f (by omega)]
    rw [Option.bind_some]
    try dsimp only
    rw [if_pos rfl]
    exact ⟨_, rfl⟩
end
section
/-! 4c.refm -/
/-! THE REFERENCE over the typed memory: keeping, probing -/
theorem s_shl12 {x : Int} (h1 : 0 ≤ x) (h2 : x ≤ 12) : iShl 1 x ≤ 4096 := by
  obtain ⟨n, rfl⟩ : ∃ n : Nat, x = (n : Int) := ⟨x.toNat, by omega⟩
  have h : ∀ n : Fin 13, iShl 1 ((n.val : Nat) : Int) ≤ 4096 := by decide +kernel
  exact h ⟨n, by omega⟩
theorem s_keep36 {g14 : Int → Int → Int → Int → zS → Option (Int × zS)} {σ : zS} {N : Nat} {x1 x2 y3 x5 : Int} (hN : σ 144 0 = (N : Int)) (hN2 : N ≤ 239) (hg : ∀ a b, ∃ c, g14 x1 a b (w32 (x5 + 1)) σ = some (c, σ)) : ∀ (d k n : Nat) (x6 y7 : Int), k + d = N → d < n → ∃ c, g_m_keep_L36 g14 n x1 x2 y3 x5 x6 y7 (k : Int) σ = some (c, σ)
  | _, _, 0, _, _, _, h => absurd h (Nat.not_lt_zero _)
  | 0, k, n + 1, x6, y7, hk, _ => by
    unfold g_m_keep_L36
    show ∃ c, (if σ 144 0 ≤ (k : Int) then _ else _) = _
    rw [if_pos (by omega)]
    unfold g_m_keep_L135
    split
    · exact hg _ _
    · split
      · exact hg _ _
      · exact hg _ _
  | d + 1, k, n + 1, x6, y7, hk, hn => by
    unfold g_m_keep_L36
    show ∃ c, (if σ 144 0 ≤ (k : Int) then _ else _) = _
    rw [if_neg (by omega)]
    unfold g_m_keep_L107
    have e1 : w32 ((k : Int) + 1) = ((k + 1 : Nat) : Int) := by rw [w32_id (by omega) (by omega)]; omega
    by_cases c : iAnd (iShr x5 (k : Int)) 1 ≠ 0
    · rw [if_pos c, s_size (by omega) (by omega)]
      rw [Option.bind_some]
      try dsimp only
      rw [s_region (by omega) (by omega)]
      rw [Option.bind_some]
      try dsimp only
      rw [s_cost (by omega) (by rw [l144]; omega) (by rw [l144]; omega)]
      rw [Option.bind_some]
      try dsimp only
      rw [s_region (by omega) (by omega)]
      rw [Option.bind_some]
      try dsimp only
      rw [w32_id (x := 340 + 10 * (k : Int) + 9) (by omega) (by omega), if_pos (by omega), e1]
      exact s_keep36 hN hN2 hg d (k + 1) n _ _ (by omega) (by omega)
    · rw [if_neg c, e1]
      exact s_keep36 hN hN2 hg d (k + 1) n _ _ (by omega) (by omega)
theorem s_keep14 {σ : zS} {N : Nat} {x1 : Int} (hN : σ 144 0 = (N : Int)) (hN2 : N ≤ 12) : ∀ (d e n : Nat) (x2 y3 : Int), e + d = 4096 → d < n → ∃ c, g_m_keep_L14 n x1 x2 y3 (e : Int) σ = some (c, σ)
  | _, _, 0, _, _, _, h => absurd h (Nat.not_lt_zero _)
  | d, e, n + 1, x2, y3, he, hn => by
    unfold g_m_keep_L14
    show ∃ c, (if iShl 1 (σ 144 0) ≤ (e : Int) then _ else _) = _
    by_cases c : iShl 1 (σ 144 0) ≤ (e : Int)
    · rw [if_pos c]; exact ⟨_, rfl⟩
    · rw [if_neg c]
      have h := s_shl12 (x := σ 144 0) (by omega) (by omega)
      cases d with
      | zero => omega
      | succ d =>
        have e1 : w32 ((e : Int) + 1) = ((e + 1 : Nat) : Int) := by rw [w32_id (by omega) (by omega)]; omega
        exact s_keep36 hN (by omega) (fun a b => by rw [e1]; exact s_keep14 hN hN2 d (e + 1) n a b (by omega) (by omega)) N 0 zK 0 0 (by omega) (by show _ < 1000000; omega)
theorem m_keep {x : Int} {σ : zS} (h : MI σ) : ∃ c, g_m_keep x σ = some (c, σ) := by
  obtain ⟨N, hN2, hN, -⟩ := h.1
  unfold g_m_keep
  by_cases c : 0 ≤ x
  · rw [if_pos c]; exact s_keep14 hN hN2 4095 1 zK 0 0 (by omega) (by show _ < 1000000; omega)
  · rw [if_neg c]; exact ⟨_, rfl⟩
theorem l165 : zLI 165 = 3000 := rfl
theorem l150 : zLI 150 = 2400 := rfl
theorem l152 : zLI 152 = 4 := rfl
theorem l153 : zLI 153 = 4 := rfl
theorem s_probe145 {M : Nat} (hM : M ≤ 200) : ∀ (d k n : Nat) (s : zS) (P : Nat), k + d = M → d < n → s 143 10 = (M : Int) → s 143 32 = (P : Int) → P ≤ 20 + k → ∃ v s', g_m_probe_L145 n (k : Int) s = some (v, s') ∧ (0 ≤ s' 143 32 ∧ s' 143 32 ≤ 600) ∧ ∀ a j, a ≠ 165 → (a ≠ 143 ∨ j ≠ 32) → s' a j = s a j
  | _, _, 0, _, _, _, h => absurd h (Nat.not_lt_zero _)
  | 0, k, n + 1, s, P, hk, _ => by
    intro h10 h32 hP
    unfold g_m_probe_L145
    show ∃ v s', (if s 143 10 ≤ (k : Int) then _ else _) = _ ∧ _
    rw [if_pos (by omega)]
    exact ⟨_, s, rfl, by omega, fun _ _ _ _ => rfl⟩
  | d + 1, k, n + 1, s, P, hk, hn => by
    intro h10 h32 hP
    unfold g_m_probe_L145
    show ∃ v s', (if s 143 10 ≤ (k : Int) then _ else _) = _ ∧ _
    rw [if_neg (by omega)]
    dsimp only
    rw [h32, w32_id (x := 4 * (k : Int)) (by omega) (by omega), w32_id (x := 5 * (P : Int)) (by omega) (by omega)]
    rw [s_copies (by omega) (by rw [l150]; omega) (by rw [l150]; omega) (by omega) (by rw [l165]; omega) (by rw [l165]; omega)]
    rw [Option.bind_some]
    dsimp only
    have hq : zb s 165 (5 * (P : Int)) (bxA s 150 (4 * (k : Int))) 143 32 = (P : Int) := (zb_a (by decide)).trans h32
    have hw1 := w32_id (x := 5 * (P : Int)) (by omega) (by omega)
    have hw2 := w32_id (x := 5 * (P : Int) + 4) (by omega) (by omega)
    simp only [hq, hw1, hw2]
    rw [if_pos (by omega)]
    rw [show zu (zb s 165 (5 * (P : Int)) (bxA s 150 (4 * (k : Int)))) 165 (5 * (P : Int) + 4) (-5) 143 32 = (P : Int) from (zu_a (by decide)).trans ((zb_a (by decide)).trans h32)]
    rw [w32_id (x := (P : Int) + 1) (by omega) (by omega), w32_id (x := (k : Int) + 1) (by omega) (by omega)]
    generalize hs : zu (zu (zb s 165 (5 * (P : Int)) (bxA s 150 (4 * (k : Int)))) 165 (5 * (P : Int) + 4) (-5)) 143 32 ((P : Int) + 1) = s1
    have q : ∀ a j, a ≠ 165 → (a ≠ 143 ∨ j ≠ 32) → s1 a j = s a j := fun a j k1 k2 => by rw [← hs, zu_c (by omega), zu_a k1, zb_a k1]
    have q32 : s1 143 32 = ((P + 1 : Nat) : Int) := by rw [← hs, zu_e rfl]; omega
    obtain ⟨v, s', e1, e2, e3⟩ := s_probe145 hM d (k + 1) n s1 (P + 1) (by omega) (by omega) (by rw [q 143 10 (by decide) (by decide)]; exact h10) q32 (by omega)
    rw [show ((k + 1 : Nat) : Int) = (k : Int) + 1 by omega] at e1
    exact ⟨v, s', e1, e2, fun a j k1 k2 => (e3 a j k1 k2).trans (q a j k1 k2)⟩
theorem s_probe39 {M N : Nat} (hM : M ≤ 200) (hN2 : N ≤ 12) : ∀ (d k n : Nat) (s : zS) (P : Nat), k + d = N → d < n → s 144 0 = (N : Int) → s 143 10 = (M : Int) → s 143 32 = (P : Int) → P ≤ k → ∃ v s', g_m_probe_L39 n (k : Int) s = some (v, s') ∧ (0 ≤ s' 143 32 ∧ s' 143 32 ≤ 600) ∧ ∀ a j, a ≠ 165 → (a ≠ 143 ∨ j ≠ 32) → s' a j = s a j
  | _, _, 0, _, _, _, h => absurd h (Nat.not_lt_zero _)
  | 0, k, n + 1, s, P, hk, _ => by
    intro h0 h10 h32 hP
    unfold g_m_probe_L39
    show ∃ v s', (if s 144 0 ≤ (k : Int) then _ else _) = _ ∧ _
    rw [if_pos (by omega)]
    exact s_probe145 hM M 0 zK s P (by omega) (by show _ < 1000000; omega) h10 h32 (by omega)
  | d + 1, k, n + 1, s, P, hk, hn => by
    intro h0 h10 h32 hP
    unfold g_m_probe_L39
    show ∃ v s', (if s 144 0 ≤ (k : Int) then _ else _) = _ ∧ _
    rw [if_neg (by omega)]
    rw [s_region (by omega) (by omega)]
    rw [Option.bind_some]
    dsimp only
    rw [s_doMeet (by omega) (by rw [l144]; omega) (by rw [l144]; omega) (by omega) (by rw [l152]; omega) (by rw [l152]; omega)]
    rw [Option.bind_some]
    dsimp only
    unfold g_m_probe_L136
    have e1 : w32 ((k : Int) + 1) = ((k + 1 : Nat) : Int) := by rw [w32_id (by omega) (by omega)]; omega
    by_cases c : bMt (bxA s 144 (340 + 10 * (k : Int))) (bxA s 152 0)
    · rw [if_pos c, if_pos (by decide)]
      rw [s_region (by omega) (by omega)]
      rw [Option.bind_some]
      dsimp only
      rw [h32, w32_id (x := 5 * (P : Int)) (by omega) (by omega)]
      rw [s_commons (by omega) (by rw [l144]; omega) (by rw [l144]; omega) (by omega) (by rw [l152]; omega) (by rw [l152]; omega) (by omega) (by rw [l165]; omega) (by rw [l165]; omega)]
      rw [Option.bind_some]
      dsimp only
      generalize hs1 : zb s 165 (5 * (P : Int)) (bCom (bxA s 144 (340 + 10 * (k : Int))) (bxA s 152 0)) = s1
      have q1 : ∀ a j, a ≠ 165 → s1 a j = s a j := fun a j k1 => by rw [← hs1, zb_a k1]
      rw [s_region (by omega) (by omega)]
      rw [Option.bind_some]
      dsimp only
      have hq : s1 143 32 = (P : Int) := (q1 143 32 (by decide)).trans h32
      have hw1 := w32_id (x := 5 * (P : Int)) (by omega) (by omega)
      have hw2 := w32_id (x := 5 * (P : Int) + 4) (by omega) (by omega)
      have hw3 := w32_id (x := 340 + 10 * (k : Int) + 8) (by omega) (by omega)
      simp only [hq, hw1, hw2, hw3]
      rw [if_pos (by omega), if_pos (by omega)]
      rw [show zu s1 165 (5 * (P : Int) + 4) (s1 144 (340 + 10 * (k : Int) + 8)) 143 32 = (P : Int) from (zu_a (by decide)).trans ((q1 143 32 (by decide)).trans h32)]
      rw [w32_id (x := (P : Int) + 1) (by omega) (by omega), e1]
      generalize hs2 : zu (zu s1 165 (5 * (P : Int) + 4) (s1 144 (340 + 10 * (k : Int) + 8))) 143 32 ((P : Int) + 1) = s2
      have q : ∀ a j, a ≠ 165 → (a ≠ 143 ∨ j ≠ 32) → s2 a j = s a j := fun a j k1 k2 => by rw [← hs2, zu_c (by omega), zu_a k1, q1 a j k1]
      have q32 : s2 143 32 = ((P + 1 : Nat) : Int) := by rw [← hs2, zu_e rfl]; omega
      obtain ⟨v, s', g1, g2, g3⟩ := s_probe39 hM hN2 d (k + 1) n s2 (P + 1) (by omega) (by omega) (by rw [q 144 0 (by decide) (by decide)]; exact h0) (by rw [q 143 10 (by decide) (by decide)]; exact h10) q32 (by omega)
      exact ⟨v, s', g1, g2, fun a j k1 k2 => (g3 a j k1 k2).trans (q a j k1 k2)⟩
    · rw [if_neg c, if_neg (by decide), e1]
      exact s_probe39 hM hN2 d (k + 1) n s P (by omega) (by omega) h0 h10 h32 (by omega)
/-- the missing boxes of the box that stands in 152 -/
theorem s_missM {σ : zS} {q : Bx} (hq : bOk q) (hb : bxA σ 152 0 = q) (hI : NI σ) : ∃ s M N, g_m_misses σ = some ((), s) ∧ frM σ s ∧ s 143 10 = ((M : Nat) : Int) ∧ M ≤ 169 ∧ σ 144 0 = ((N : Nat) : Int) ∧ N ≤ 12 := by
  obtain ⟨N, hN2, hN, hR⟩ := hI
  obtain ⟨r1, r2⟩ := RI_rbx hR
  have r3 : (rbx σ N).length = N := rbx_len
  obtain ⟨s, e1, e2, e3, -⟩ := s_misses hq hb r1 r2 (by omega) (by rw [r3]; exact hN) (by rw [r3])
  exact ⟨s, _, N, e1, e2, e3, bMissAll_169 hq r1 r2 (by omega), hN, hN2⟩
/-- the paper's and the pieces' counts and what every call may change besides -/
theorem MI_pg {σ s : zS} (h : MI σ) (e : ∀ a j, (a = 144 ∨ a = 145 ∨ a = 166 ∨ (a = 143 ∧ (j = 6 ∨ j = 20 ∨ j = 27))) → s a j = σ a j) (h1 : 0 ≤ s 143 29 ∧ s 143 29 ≤ 40000) (h2 : 0 ≤ s 143 32 ∧ s 143 32 ≤ 600) : MI s := by
  obtain ⟨x1, x2, x3, x4, x5⟩ := h.2.2.1
  refine ⟨NI_fr h.1 (fun j _ => e 144 j (by omega)), HI_fr8 h.2.1 (fun j _ _ => e 144 j (by omega)), ⟨?_, ?_, h1, h2, fun k hk => ?_⟩, II_fr h.2.2.2 (e 143 6 (by omega)) (fun j => e 145 j (by omega))⟩
  · rw [e 143 20 (by omega)]; exact x1
  · rw [e 143 27 (by omega)]; exact x2
  · rw [e 166 _ (by omega)]; exact x5 k hk
theorem m_probe {x0 x1 y0 y1 : Int} {σ : zS} (h : MI σ) : ∃ v s, g_m_probe x0 x1 y0 y1 σ = some (v, s) ∧ MI s ∧ frC σ s := by
  unfold g_m_probe
  by_cases c : bOk (x0, x1, y0, y1)
  · rw [s_isBox_t c]
    rw [Option.bind_some]
    dsimp only
    rw [if_pos (by decide), s_sets (by omega) (by rw [l152]; omega) (by rw [l152]; omega)]
    rw [Option.bind_some]
    dsimp only
    generalize hs0 : zb σ 152 0 (x0, x1, y0, y1) = s0'
    have q0 : ∀ a j, a ≠ 152 → s0' a j = σ a j := fun a j k1 => by rw [← hs0, zb_a k1]
    obtain ⟨s1, M, N, e1, e2, e3, e4, e5, e6⟩ := s_missM (σ := s0') c (by rw [← hs0]; exact zb_bx rfl) (NI_fr h.1 (fun j _ => q0 144 j (by decide)))
    rw [e1]
    rw [Option.bind_some]
    dsimp only
    have q1 : ∀ a j, a ≠ 150 → a ≠ 151 → (a ≠ 143 ∨ j ≠ 10) → a ≠ 152 → s1 a j = σ a j := fun a j k1 k2 k3 k4 => (e2 a j k1 k2 k3).trans (q0 a j k4)
    obtain ⟨v, s', g1, g2, g3⟩ := s_probe39 (M := M) (N := N) (by omega) e6 N 0 zK (zu s1 143 32 0) 0 (by omega) (by show _ < 1000000; omega) (by rw [zu_a (by decide), e2 144 0 (by decide) (by decide) (by decide)]; exact e5) (by rw [zu_i (by decide)]; exact e3) (zu_e rfl) (by omega)
    have q2 : ∀ a j, a ≠ 150 → a ≠ 151 → (a ≠ 143 ∨ (j ≠ 10 ∧ j ≠ 32)) → a ≠ 152 → a ≠ 165 → s' a j = σ a j := fun a j k1 k2 k3 k4 k5 => by
      rw [g3 a j k5 (by omega), zu_c (by omega), q1 a j k1 k2 (by omega) k4]
    refine ⟨v, s', g1, MI_pg h (fun a j hh => q2 a j (by omega) (by omega) (by omega) (by omega) (by omega)) ?_ g2, fun a j hh => q2 a j (by omega) (by omega) (by omega) (by omega) (by omega)⟩
    rw [q2 143 29 (by decide) (by decide) (by omega) (by decide) (by decide)]
    exact h.2.2.1.2.2.1
  · rw [s_isBox_f c]
    rw [Option.bind_some]
    dsimp only
    rw [if_neg (by decide)]
    exact MI_sam h _
end
section
/-! 4d.refn -/
/-! THE REFERENCE over the typed memory: what is written onto the paper -/
/-- at most so many bytes more on the paper, nothing else changed -/
def sO (σ s : zS) (n : Int) : Prop := (∀ a j, a ≠ 163 → (a ≠ 143 ∨ j ≠ 29) → s a j = σ a j) ∧ σ 143 29 ≤ s 143 29 ∧ s 143 29 ≤ σ 143 29 + n
theorem sO.trans {σ s t : zS} {n m : Int} (h1 : sO σ s n) (h2 : sO s t m) : sO σ t (n + m) := by
  refine ⟨fun a j k1 k2 => (h2.1 a j k1 k2).trans (h1.1 a j k1 k2), ?_, ?_⟩
  · have a := h1.2.1; have b := h2.2.1; omega
  · have a := h1.2.2; have b := h2.2.2; omega
theorem sO.up {σ s : zS} {n m : Int} (h1 : sO σ s n) (h : n ≤ m) : sO σ s m := ⟨h1.1, h1.2.1, by have a := h1.2.2; omega⟩
theorem sO.refl (σ : zS) : sO σ σ 0 := ⟨fun _ _ _ _ => rfl, by omega, by omega⟩
theorem s_says {c : Int} {σ : zS} (h : 0 ≤ σ 143 29) (h2 : σ 143 29 < 40000) : ∃ u s, g_m_says c σ = some (u, s) ∧ sO σ s 1 := by
  unfold g_m_says
  show ∃ u s, (if 0 ≤ σ 143 29 ∧ σ 143 29 < 40000 then _ else _) = _ ∧ _
  rw [if_pos ⟨h, h2⟩]
  dsimp only
  rw [show zu σ 163 (σ 143 29) c 143 29 = σ 143 29 from zu_a (by decide)]
  rw [w32_id (x := σ 143 29 + 1) (by omega) (by omega)]
  refine ⟨(), _, rfl, fun a j k1 k2 => by rw [zu_c (by omega), zu_a k1], ?_, ?_⟩
  · rw [zu_e rfl]; omega
  · rw [zu_e rfl]; omega
theorem s_word2 {a L : Nat} (hL : zLI (a + 18) = (L : Int)) (hl : iShr (zLI (a + 18)) 0 = zLI (a + 18)) (hL2 : L ≤ 100) : ∀ (d k n : Nat) (σ : zS), k + d = L → d < n → 0 ≤ σ 143 29 → σ 143 29 + d ≤ 40000 → ∃ u s, g_m_saysWord_L2 a n (k : Int) σ = some (u, s) ∧ sO σ s (d : Int)
  | _, _, 0, _, _, h => absurd h (Nat.not_lt_zero _)
  | 0, k, n + 1, σ, hk, _ => by
    intro h1 h2
    unfold g_m_saysWord_L2
    rw [s_length hl]
    rw [Option.bind_some]
    dsimp only
    rw [if_pos (by omega)]
    exact ⟨(), σ, rfl, sO.refl σ⟩
  | d + 1, k, n + 1, σ, hk, hn => by
    intro h1 h2
    unfold g_m_saysWord_L2
    rw [s_length hl]
    rw [Option.bind_some]
    dsimp only
    rw [if_neg (by omega), s_charAt (by omega)]
    rw [Option.bind_some]
    dsimp only
    obtain ⟨u, s, e1, e2⟩ := s_says (c := charC a (k : Int)) h1 (by omega)
    have e3 := e2.2.1
    have e4 := e2.2.2
    rw [e1]
    rw [Option.bind_some]
    dsimp only
    rw [w32_id (x := (k : Int) + 1) (by omega) (by omega)]
    obtain ⟨u', s', g1, g2⟩ := s_word2 hL hl hL2 d (k + 1) n s (by omega) (by omega) (by omega) (by omega)
    rw [show ((k + 1 : Nat) : Int) = (k : Int) + 1 by omega] at g1
    exact ⟨u', s', g1, (e2.trans g2).up (by omega)⟩
theorem s_saysW {a L : Nat} (hL : zLI (a + 18) = (L : Int)) (hl : iShr (zLI (a + 18)) 0 = zLI (a + 18)) (hL2 : L ≤ 100) {σ : zS} (h1 : 0 ≤ σ 143 29) (h2 : σ 143 29 + L ≤ 40000) : ∃ u s, g_m_saysWord a σ = some (u, s) ∧ sO σ s (L : Int) :=
  s_word2 hL hl hL2 L 0 zK σ (by omega) (by show _ < 1000000; omega) h1 h2
theorem s_w16 {σ : zS} (h1 : 0 ≤ σ 143 29) (h2 : σ 143 29 + 5 ≤ 40000) : ∃ u s, g_m_saysWord 16 σ = some (u, s) ∧ sO σ s 5 := s_saysW (a := 16) (L := 5) rfl (by decide +kernel) (by decide) h1 h2
theorem s_w17 {σ : zS} (h1 : 0 ≤ σ 143 29) (h2 : σ 143 29 + 4 ≤ 40000) : ∃ u s, g_m_saysWord 17 σ = some (u, s) ∧ sO σ s 4 := s_saysW (a := 17) (L := 4) rfl (by decide +kernel) (by decide) h1 h2
theorem s_w18 {σ : zS} (h1 : 0 ≤ σ 143 29) (h2 : σ 143 29 + 4 ≤ 40000) : ∃ u s, g_m_saysWord 18 σ = some (u, s) ∧ sO σ s 4 := s_saysW (a := 18) (L := 4) rfl (by decide +kernel) (by decide) h1 h2
theorem grp236_236 {n : Nat} : g_grp236 (n + 1) 236 = g_m_saysNumber (g_grp236 n) := by
  funext x σ
  show (if 236 = 236 then g_m_saysNumber (g_grp236 n) x σ else none) = _
  rw [if_pos rfl]
theorem s_num0 {rec : Nat → Int → zS → Option (Unit × zS)} {x : Int} {σ : zS} (h1 : 0 ≤ σ 143 29) (h2 : σ 143 29 < 40000) : ∃ u s, g_m_saysNumber_L14 rec x σ = some (u, s) ∧ sO σ s 1 := by
  obtain ⟨u, s, e1, e2⟩ := s_says (c := w32 (48 + (Int.tmod x 10))) h1 h2
  unfold g_m_saysNumber_L14
  rw [e1]
  rw [Option.bind_some]
  dsimp only
  exact ⟨(), s, rfl, e2⟩
theorem s_numA : ∀ (m n : Nat) (x p : Int) (σ : zS), (10 : Int) ^ (m + 1) = p → x < p → x ≤ 2147483647 → m < n → 0 ≤ σ 143 29 → σ 143 29 + m + 1 ≤ 40000 → ∃ u s, g_grp236 n 236 x σ = some (u, s) ∧ sO σ s ((m : Int) + 1)
  | _, 0, _, _, _, _, _, _, h => absurd h (Nat.not_lt_zero _)
  | 0, n + 1, x, p, σ, hp, hx, hx2, _ => by
    intro h1 h2
    rw [grp236_236]
    unfold g_m_saysNumber
    have : p = 10 := by rw [← hp]; rfl
    rw [if_pos (by omega)]
    obtain ⟨u, s, e1, e2⟩ := s_num0 (rec := g_grp236 n) (x := x) h1 (by omega)
    exact ⟨u, s, e1, e2.up (by omega)⟩
  | m + 1, n + 1, x, p, σ, hp, hx, hx2, hn => by
    intro h1 h2
    rw [grp236_236]
    unfold g_m_saysNumber
    by_cases c : x ≤ 9
    · rw [if_pos c]
      obtain ⟨u, s, e1, e2⟩ := s_num0 (rec := g_grp236 n) (x := x) h1 (by omega)
      exact ⟨u, s, e1, e2.up (by omega)⟩
    · rw [if_neg c]
      have ed : Int.tdiv x 10 = x / 10 := Int.tdiv_eq_ediv_of_nonneg (by omega)
      rw [ed, w32_id (x := x / 10) (by omega) (by omega)]
      rw [Int.pow_succ] at hp
      generalize hq : (10 : Int) ^ (m + 1) = q at hp
      obtain ⟨u, s, e1, e2⟩ := s_numA m n (x / 10) q σ hq (by omega) (by omega) (by omega) h1 (by omega)
      have e3 := e2.2.1
      have e4 := e2.2.2
      rw [e1]
      rw [Option.bind_some]
      dsimp only
      obtain ⟨u', s', g1, g2⟩ := s_num0 (rec := g_grp236 n) (x := x) (σ := s) (by omega) (by omega)
      exact ⟨u', s', g1, (e2.trans g2).up (by omega)⟩
theorem s_num {x : Int} {σ : zS} (h1 : 0 ≤ σ 143 29) (h2 : σ 143 29 + 11 ≤ 40000) : ∃ u s, g_grp236 zR 236 x σ = some (u, s) ∧ sO σ s 11 := by
  rw [show zR = 499 + 1 from rfl, grp236_236]
  unfold g_m_saysNumber
  by_cases c : x ≤ 9
  · rw [if_pos c]
    obtain ⟨u, s, e1, e2⟩ := s_num0 (rec := g_grp236 499) (x := x) h1 (by omega)
    exact ⟨u, s, e1, e2.up (by omega)⟩
  · rw [if_neg c]
    have hb := w32_bd (Int.tdiv x 10)
    have hp : (10 : Int) ^ (9 + 1) = 10000000000 := rfl
    obtain ⟨u, s, e1, e2⟩ := s_numA 9 499 (w32 (Int.tdiv x 10)) 10000000000 σ hp (by omega) (by omega) (by omega) h1 (by omega)
    have e3 := e2.2.1
    have e4 := e2.2.2
    rw [e1]
    rw [Option.bind_some]
    dsimp only
    obtain ⟨u', s', g1, g2⟩ := s_num0 (rec := g_grp236 499) (x := x) (σ := s) (by omega) (by omega)
    exact ⟨u', s', g1, (e2.trans g2).up (by omega)⟩
theorem s_sbox {a : Nat} {i : Int} {σ : zS} (hi : 0 ≤ i) (hi2 : i + 3 < zLI a) (hi3 : zLI a ≤ 100000) (h1 : 0 ≤ σ 143 29) (h2 : σ 143 29 + 47 ≤ 40000) : ∃ u s, g_m_saysBox a i σ = some (u, s) ∧ sO σ s 47 := by
  unfold g_m_saysBox
  rw [if_pos (by omega)]
  dsimp only
  obtain ⟨u1, s1, e1, f1⟩ := s_num (x := σ a i) h1 (by omega)
  have k1 := f1.2.1
  have l1 := f1.2.2
  rw [e1]
  rw [Option.bind_some]
  dsimp only
  obtain ⟨u2, s2, e2, f2⟩ := s_says (c := 45) (σ := s1) (by omega) (by omega)
  have k2 := f2.2.1
  have l2 := f2.2.2
  rw [e2]
  rw [Option.bind_some]
  dsimp only
  rw [w32_id (x := i + 1) (by omega) (by omega), if_pos (by omega)]
  obtain ⟨u3, s3, e3, f3⟩ := s_num (x := s2 a (i + 1)) (σ := s2) (by omega) (by omega)
  have k3 := f3.2.1
  have l3 := f3.2.2
  rw [e3]
  rw [Option.bind_some]
  dsimp only
  obtain ⟨u4, s4, e4, f4⟩ := s_says (c := 44) (σ := s3) (by omega) (by omega)
  have k4 := f4.2.1
  have l4 := f4.2.2
  rw [e4]
  rw [Option.bind_some]
  dsimp only
  rw [w32_id (x := i + 2) (by omega) (by omega), if_pos (by omega)]
  obtain ⟨u5, s5, e5, f5⟩ := s_num (x := s4 a (i + 2)) (σ := s4) (by omega) (by omega)
  have k5 := f5.2.1
  have l5 := f5.2.2
  rw [e5]
  rw [Option.bind_some]
  dsimp only
  obtain ⟨u6, s6, e6, f6⟩ := s_says (c := 45) (σ := s5) (by omega) (by omega)
  have k6 := f6.2.1
  have l6 := f6.2.2
  rw [e6]
  rw [Option.bind_some]
  dsimp only
  rw [w32_id (x := i + 3) (by omega) (by omega), if_pos (by omega)]
  obtain ⟨u7, s7, e7, f7⟩ := s_num (x := s6 a (i + 3)) (σ := s6) (by omega) (by omega)
  rw [e7]
  rw [Option.bind_some]
  dsimp only
  exact ⟨(), s7, rfl, ((((((f1.trans f2).trans f3).trans f4).trans f5).trans f6).trans f7).up (by omega)⟩
theorem s_spell7 {N : Nat} (hN2 : N ≤ 12) : ∀ (d k n : Nat) (s : zS), k + d = N → d < n → s 144 0 = (N : Int) → 0 ≤ s 143 29 → s 143 29 ≤ 48 * k → ∃ v s', g_m_spell_L7 n (k : Int) s = some (v, s') ∧ sO s s' (48 * d)
  | _, _, 0, _, _, h => absurd h (Nat.not_lt_zero _)
  | 0, k, n + 1, s, hk, _ => by
    intro h0 h1 h2
    unfold g_m_spell_L7
    show ∃ v s', (if s 144 0 ≤ (k : Int) then _ else _) = _ ∧ _
    rw [if_pos (by omega)]
    exact ⟨_, s, rfl, sO.refl s⟩
  | d + 1, k, n + 1, s, hk, hn => by
    intro h0 h1 h2
    unfold g_m_spell_L7
    show ∃ v s', (if s 144 0 ≤ (k : Int) then _ else _) = _ ∧ _
    rw [if_neg (by omega)]
    have e0 : w32 ((k : Int) + 1) = ((k + 1 : Nat) : Int) := by rw [w32_id (by omega) (by omega)]; omega
    have main : ∀ (s1 : zS) (m : Int), sO s s1 m → m ≤ 1 → ∃ v s', g_m_spell_L27 (g_m_spell_L7 n) (k : Int) s1 = some (v, s') ∧ sO s s' (48 * ((d + 1 : Nat) : Int)) := by
      intro s1 m f1 hm
      have k1 := f1.2.1
      have l1 := f1.2.2
      unfold g_m_spell_L27
      rw [s_region (by omega) (by omega)]
      rw [Option.bind_some]
      dsimp only
      obtain ⟨u2, s2, e2, f2⟩ := s_sbox (a := 144) (i := 340 + 10 * (k : Int)) (σ := s1) (by omega) (by rw [l144]; omega) (by rw [l144]; omega) (by omega) (by omega)
      have k2 := f2.2.1
      have l2 := f2.2.2
      rw [e2]
      rw [Option.bind_some]
      dsimp only
      rw [e0]
      obtain ⟨v, s', g1, g2⟩ := s_spell7 hN2 d (k + 1) n s2 (by omega) (by omega) (by rw [f2.1 144 0 (by decide) (by decide), f1.1 144 0 (by decide) (by decide)]; exact h0) (by omega) (by omega)
      exact ⟨v, s', g1, ((f1.trans f2).trans g2).up (by omega)⟩
    by_cases c : (k : Int) ≤ 0
    · rw [if_pos c]
      exact main s 0 (sO.refl s) (by omega)
    · rw [if_neg c]
      obtain ⟨u1, s1, e1, f1⟩ := s_says (c := 59) (σ := s) (by omega) (by omega)
      rw [e1]
      rw [Option.bind_some]
      dsimp only
      exact main s1 1 f1 (by omega)
theorem MI_sO {σ s : zS} (h : MI σ) (f : ∀ a j, a ≠ 163 → (a ≠ 143 ∨ j ≠ 29) → s a j = σ a j) (h1 : 0 ≤ s 143 29 ∧ s 143 29 ≤ 40000) : MI s ∧ frC σ s :=
  ⟨MI_pg h (fun a j hh => f a j (by omega) (by omega)) h1 (by rw [f 143 32 (by decide) (by decide)]; exact h.2.2.1.2.2.2.1), fun a j hh => f a j (by omega) (by omega)⟩
theorem m_spell {σ : zS} (h : MI σ) : ∃ v s, g_m_spell σ = some (v, s) ∧ MI s ∧ frC σ s := by
  obtain ⟨N, hN2, hN, -⟩ := h.1
  unfold g_m_spell
  dsimp only
  have q29 : zu σ 143 29 0 143 29 = 0 := zu_e rfl
  obtain ⟨v, s, e1, e2⟩ := s_spell7 hN2 N 0 zK (zu σ 143 29 0) (by omega) (by show _ < 1000000; omega) (by rw [zu_a (by decide)]; exact hN) (by omega) (by omega)
  have k1 := e2.2.1
  have l1 := e2.2.2
  obtain ⟨m1, m2⟩ := MI_sO h (s := s) (fun a j k1 k2 => by rw [e2.1 a j k1 k2, zu_c (by omega)]) (by omega)
  exact ⟨v, s, e1, m1, m2⟩
theorem s_exp152 {M : Nat} (hM : M ≤ 200) : ∀ (d k n : Nat) (s : zS) (x : Int), k + d = M → d < n → s 143 10 = (M : Int) → 0 ≤ s 143 29 → s 143 29 ≤ 2000 + 64 * k → ∃ v s', g_m_explain_L152 n x (k : Int) s = some (v, s') ∧ sO s s' (64 * d + 15)
  | _, _, 0, _, _, _, h => absurd h (Nat.not_lt_zero _)
  | 0, k, n + 1, s, x, hk, _ => by
    intro h10 h1 h2
    unfold g_m_explain_L152
    show ∃ v s', (if s 143 10 ≤ (k : Int) then _ else _) = _ ∧ _
    rw [if_pos (by omega)]
    obtain ⟨u1, s1, e1, f1⟩ := s_w18 (σ := s) (by omega) (by omega)
    have k1 := f1.2.1
    have l1 := f1.2.2
    rw [e1]
    rw [Option.bind_some]
    dsimp only
    obtain ⟨u2, s2, e2, f2⟩ := s_num (x := x) (σ := s1) (by omega) (by omega)
    rw [e2]
    rw [Option.bind_some]
    dsimp only
    exact ⟨_, s2, rfl, (f1.trans f2).up (by omega)⟩
  | d + 1, k, n + 1, s, x, hk, hn => by
    intro h10 h1 h2
    unfold g_m_explain_L152
    show ∃ v s', (if s 143 10 ≤ (k : Int) then _ else _) = _ ∧ _
    rw [if_neg (by omega)]
    obtain ⟨u1, s1, e1, f1⟩ := s_w17 (σ := s) (by omega) (by omega)
    have k1 := f1.2.1
    have l1 := f1.2.2
    rw [e1]
    rw [Option.bind_some]
    dsimp only
    rw [w32_id (x := 4 * (k : Int)) (by omega) (by omega)]
    obtain ⟨u2, s2, e2, f2⟩ := s_sbox (a := 150) (i := 4 * (k : Int)) (σ := s1) (by omega) (by rw [l150]; omega) (by rw [l150]; omega) (by omega) (by omega)
    have k2 := f2.2.1
    have l2 := f2.2.2
    rw [e2]
    rw [Option.bind_some]
    dsimp only
    obtain ⟨u3, s3, e3, f3⟩ := s_says (c := 32) (σ := s2) (by omega) (by omega)
    have k3 := f3.2.1
    have l3 := f3.2.2
    rw [e3]
    rw [Option.bind_some]
    dsimp only
    rw [s_cost (a := 150) (by omega) (by rw [l150]; omega) (by rw [l150]; omega)]
    rw [Option.bind_some]
    dsimp only
    obtain ⟨u4, s4, e4, f4⟩ := s_num (x := costN s3 (bxA s3 150 (4 * (k : Int)))) (σ := s3) (by omega) (by omega)
    have k4 := f4.2.1
    have l4 := f4.2.2
    rw [e4]
    rw [Option.bind_some]
    dsimp only
    rw [s_cost (a := 150) (by omega) (by rw [l150]; omega) (by rw [l150]; omega)]
    rw [Option.bind_some]
    dsimp only
    obtain ⟨u5, s5, e5, f5⟩ := s_says (c := 59) (σ := s4) (by omega) (by omega)
    have k5 := f5.2.1
    have l5 := f5.2.2
    rw [e5]
    rw [Option.bind_some]
    dsimp only
    rw [w32_id (x := (k : Int) + 1) (by omega) (by omega)]
    have f := (((f1.trans f2).trans f3).trans f4).trans f5
    obtain ⟨v, s', g1, g2⟩ := s_exp152 hM d (k + 1) n s5 _ (by omega) (by omega) (by rw [f.1 143 10 (by decide) (by decide)]; exact h10) (by omega) (by omega)
    rw [show ((k + 1 : Nat) : Int) = (k : Int) + 1 by omega] at g1
    exact ⟨v, s', g1, (f.trans g2).up (by omega)⟩
/-- as sO, the box that is common aside -/
def sP (σ s : zS) (n : Int) : Prop := (∀ a j, a ≠ 163 → a ≠ 153 → (a ≠ 143 ∨ j ≠ 29) → s a j = σ a j) ∧ σ 143 29 ≤ s 143 29 ∧ s 143 29 ≤ σ 143 29 + n
theorem sP.trans {σ s t : zS} {n m : Int} (h1 : sP σ s n) (h2 : sP s t m) : sP σ t (n + m) := by
  refine ⟨fun a j k1 k2 k3 => (h2.1 a j k1 k2 k3).trans (h1.1 a j k1 k2 k3), ?_, ?_⟩
  · have a := h1.2.1; have b := h2.2.1; omega
  · have a := h1.2.2; have b := h2.2.2; omega
theorem sP.up {σ s : zS} {n m : Int} (h1 : sP σ s n) (h : n ≤ m) : sP σ s m := ⟨h1.1, h1.2.1, by have a := h1.2.2; omega⟩
theorem sO.p {σ s : zS} {n : Int} (h : sO σ s n) : sP σ s n := ⟨fun a j k1 _ k3 => h.1 a j k1 k3, h.2⟩
theorem s_exp39 {M N : Nat} (hM : M ≤ 200) (hN2 : N ≤ 12) : ∀ (d k n : Nat) (s : zS), k + d = N → d < n → s 144 0 = (N : Int) → s 143 10 = (M : Int) → 0 ≤ s 143 29 → s 143 29 ≤ 70 * k → ∃ v s', g_m_explain_L39 n (k : Int) s = some (v, s') ∧ sP s s' (70 * d + 64 * M + 15)
  | _, _, 0, _, _, h => absurd h (Nat.not_lt_zero _)
  | 0, k, n + 1, s, hk, _ => by
    intro h0 h10 h1 h2
    unfold g_m_explain_L39
    show ∃ v s', (if s 144 0 ≤ (k : Int) then _ else _) = _ ∧ _
    rw [if_pos (by omega)]
    obtain ⟨v, s', g1, g2⟩ := s_exp152 hM M 0 zK s 0 (by omega) (by show _ < 1000000; omega) h10 h1 (by omega)
    exact ⟨v, s', g1, g2.p.up (by omega)⟩
  | d + 1, k, n + 1, s, hk, hn => by
    intro h0 h10 h1 h2
    unfold g_m_explain_L39
    show ∃ v s', (if s 144 0 ≤ (k : Int) then _ else _) = _ ∧ _
    rw [if_neg (by omega)]
    rw [s_region (by omega) (by omega)]
    rw [Option.bind_some]
    dsimp only
    rw [s_doMeet (by omega) (by rw [l144]; omega) (by rw [l144]; omega) (by omega) (by rw [l152]; omega) (by rw [l152]; omega)]
    rw [Option.bind_some]
    dsimp only
    unfold g_m_explain_L140
    have e0 : w32 ((k : Int) + 1) = ((k + 1 : Nat) : Int) := by rw [w32_id (by omega) (by omega)]; omega
    by_cases c : bMt (bxA s 144 (340 + 10 * (k : Int))) (bxA s 152 0)
    · rw [if_pos c, if_pos (by decide)]
      obtain ⟨u1, s1, e1, f1⟩ := s_w16 (σ := s) (by omega) (by omega)
      have k1 := f1.2.1
      have l1 := f1.2.2
      rw [e1]
      rw [Option.bind_some]
      dsimp only
      rw [s_region (by omega) (by omega)]
      rw [Option.bind_some]
      dsimp only
      rw [w32_id (x := 340 + 10 * (k : Int) + 8) (by omega) (by omega), if_pos (by omega)]
      obtain ⟨u2, s2, e2, f2⟩ := s_num (x := s1 144 (340 + 10 * (k : Int) + 8)) (σ := s1) (by omega) (by omega)
      have k2 := f2.2.1
      have l2 := f2.2.2
      rw [e2]
      rw [Option.bind_some]
      dsimp only
      obtain ⟨u3, s3, e3, f3⟩ := s_says (c := 32) (σ := s2) (by omega) (by omega)
      have k3 := f3.2.1
      have l3 := f3.2.2
      rw [e3]
      rw [Option.bind_some]
      dsimp only
      rw [s_region (by omega) (by omega)]
      rw [Option.bind_some]
      dsimp only
      rw [s_commons (by omega) (by rw [l144]; omega) (by rw [l144]; omega) (by omega) (by rw [l152]; omega) (by rw [l152]; omega) (by omega) (by rw [l153]; omega) (by rw [l153]; omega)]
      rw [Option.bind_some]
      dsimp only
      generalize hs4 : zb s3 153 0 (bCom (bxA s3 144 (340 + 10 * (k : Int))) (bxA s3 152 0)) = s4
      have f4 : sP s3 s4 0 := by
        refine ⟨fun a j _ k2 _ => by rw [← hs4, zb_a k2], ?_, ?_⟩
        · rw [← hs4, zb_a (by decide)]; omega
        · rw [← hs4, zb_a (by decide)]; omega
      have k4 := f4.2.1
      have l4 := f4.2.2
      obtain ⟨u5, s5, e5, f5⟩ := s_sbox (a := 153) (i := 0) (σ := s4) (by omega) (by rw [l153]; omega) (by rw [l153]; omega) (by omega) (by omega)
      have k5 := f5.2.1
      have l5 := f5.2.2
      rw [e5]
      rw [Option.bind_some]
      dsimp only
      obtain ⟨u6, s6, e6, f6⟩ := s_says (c := 59) (σ := s5) (by omega) (by omega)
      have k6 := f6.2.1
      have l6 := f6.2.2
      rw [e6]
      rw [Option.bind_some]
      dsimp only
      rw [e0]
      have f := (((((f1.trans f2).trans f3).p.trans f4).trans f5.p).trans f6.p)
      obtain ⟨v, s', g1, g2⟩ := s_exp39 hM hN2 d (k + 1) n s6 (by omega) (by omega) (by rw [f.1 144 0 (by decide) (by decide) (by decide)]; exact h0) (by rw [f.1 143 10 (by decide) (by decide) (by decide)]; exact h10) (by omega) (by omega)
      exact ⟨v, s', g1, (f.trans g2).up (by omega)⟩
    · rw [if_neg c, if_neg (by decide), e0]
      obtain ⟨v, s', g1, g2⟩ := s_exp39 hM hN2 d (k + 1) n s (by omega) (by omega) h0 h10 h1 (by omega)
      exact ⟨v, s', g1, g2.up (by omega)⟩
theorem m_explain {x0 x1 y0 y1 : Int} {σ : zS} (h : MI σ) : ∃ v s, g_m_explain x0 x1 y0 y1 σ = some (v, s) ∧ MI s ∧ frC σ s := by
  unfold g_m_explain
  by_cases c : bOk (x0, x1, y0, y1)
  · rw [s_isBox_t c]
    rw [Option.bind_some]
    dsimp only
    rw [if_pos (by decide), s_sets (by omega) (by rw [l152]; omega) (by rw [l152]; omega)]
    rw [Option.bind_some]
    dsimp only
    generalize hs0 : zb σ 152 0 (x0, x1, y0, y1) = s0'
    have q0 : ∀ a j, a ≠ 152 → s0' a j = σ a j := fun a j k1 => by rw [← hs0, zb_a k1]
    obtain ⟨s1, M, N, e1, e2, e3, e4, e5, e6⟩ := s_missM (σ := s0') c (by rw [← hs0]; exact zb_bx rfl) (NI_fr h.1 (fun j _ => q0 144 j (by decide)))
    rw [e1]
    rw [Option.bind_some]
    dsimp only
    have q1 : ∀ a j, a ≠ 150 → a ≠ 151 → (a ≠ 143 ∨ j ≠ 10) → a ≠ 152 → s1 a j = σ a j := fun a j k1 k2 k3 k4 => (e2 a j k1 k2 k3).trans (q0 a j k4)
    have q29 : zu s1 143 29 0 143 29 = 0 := zu_e rfl
    obtain ⟨v, s', g1, g2⟩ := s_exp39 (M := M) (N := N) (by omega) e6 N 0 zK (zu s1 143 29 0) (by omega) (by show _ < 1000000; omega) (by rw [zu_a (by decide), e2 144 0 (by decide) (by decide) (by decide)]; exact e5) (by rw [zu_i (by decide)]; exact e3) (by omega) (by omega)
    have k1 := g2.2.1
    have l1 := g2.2.2
    have q2 : ∀ a j, a ≠ 150 → a ≠ 151 → (a ≠ 143 ∨ (j ≠ 10 ∧ j ≠ 29)) → a ≠ 152 → a ≠ 163 → a ≠ 153 → s' a j = σ a j := fun a j k1 k2 k3 k4 k5 k6 => by
      rw [g2.1 a j k5 k6 (by omega), zu_c (by omega), q1 a j k1 k2 (by omega) k4]
    refine ⟨v, s', g1, MI_pg h (fun a j hh => q2 a j (by omega) (by omega) (by omega) (by omega) (by omega) (by omega)) (by omega) ?_, fun a j hh => q2 a j (by omega) (by omega) (by omega) (by omega) (by omega) (by omega)⟩
    rw [q2 143 32 (by decide) (by decide) (by omega) (by decide) (by decide) (by decide)]
    exact h.2.2.1.2.2.2.1
  · rw [s_isBox_f c]
    rw [Option.bind_some]
    dsimp only
    rw [if_neg (by decide)]
    exact MI_sam h _
theorem m_paper {x : Int} {σ : zS} (h : MI σ) : ∃ c, g_m_paper x σ = some (c, σ) := by
  have h29 := h.2.2.1.2.2.1
  unfold g_m_paper
  show ∃ c, (g_m_isIn x 0 (w32 (σ 143 29 - 1)) σ).bind _ = _
  rw [w32_id (x := σ 143 29 - 1) (by omega) (by omega)]
  by_cases c : 0 ≤ x ∧ x ≤ σ 143 29 - 1
  · rw [s_isIn_t c.1 c.2]
    rw [Option.bind_some]
    dsimp only
    rw [if_neg (by decide), if_pos (by omega)]
    exact ⟨_, rfl⟩
  · rw [s_isIn_f (by omega)]
    rw [Option.bind_some]
    dsimp only
    rw [if_pos rfl]
    exact ⟨_, rfl⟩
end
