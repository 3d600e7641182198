/-! THE REFERENCE over the typed memory: a query -/
def mHit (σ : zS) (q : Bx) (r : Rg) : Rg := (r.1, bAro r.2.1 (bCom r.1 q), r.2.2.1, zmn 9999 (w32 (r.2.2.2.1 + 1)), wgt (σ 147 0) (costN σ r.1) (zmn 9999 (w32 (r.2.2.2.1 + 1))) (1 + rowsN σ r.1))
/-- all but regions' places, weights and common -/
def frH (σ s : zS) : Prop := ∀ a j, a ≠ 153 → (a ≠ 144 ∨ j < 340) → (a ≠ 147 ∨ j < 121) → s a j = σ a j
theorem frH_cost {σ s : zS} (h : frH σ s) (b : Bx) : costN s b = costN σ b ∧ rowsN s b = rowsN σ b := by
  have e : rowsN s b = rowsN σ b := rowsN_fr (fun j h1 h2 => h 144 j (by decide) (Or.inr (by omega)) (Or.inl (by decide))) b
  refine ⟨?_, e⟩
  unfold costN
  rw [e, h 144 11 (by decide) (Or.inr (by decide)) (Or.inl (by decide))]
theorem frH.bx {σ s : zS} (h : frH σ s) {a : Nat} {i : Int} (h1 : a ≠ 153) (h2 : a ≠ 144) (h3 : a ≠ 147) : bxA s a i = bxA σ a i := by
  unfold bxA
  rw [h a _ h1 (Or.inl h2) (Or.inl h3), h a _ h1 (Or.inl h2) (Or.inl h3), h a _ h1 (Or.inl h2) (Or.inl h3), h a _ h1 (Or.inl h2) (Or.inl h3)]
def htS (s : zS) (k : Int) (q : Bx) : zS := zb (zb (zu s 144 (349 + 10 * k) (zmn 9999 (w32 (s 144 (349 + 10 * k) + 1)))) 153 0 (bCom (bxA s 144 (340 + 10 * k)) q)) 144 (344 + 10 * k) (bAro (bxA s 144 (344 + 10 * k)) (bCom (bxA s 144 (340 + 10 * k)) q))
theorem htS_a {s : zS} {k : Int} {q : Bx} {a : Nat} {j : Int} (h1 : a ≠ 153) (h2 : a ≠ 144 ∨ j < 344 + 10 * k ∨ 350 + 10 * k ≤ j) : htS s k q a j = s a j := by
  unfold htS
  rcases h2 with h | h
  · rw [zb_a h, zb_a h1, zu_a h]
  · rw [zb_i (by omega), zb_a h1, zu_i (by omega)]
theorem htS_bx {s : zS} {k j : Int} {q : Bx} (h : j + 4 ≤ 344 + 10 * k ∨ 350 + 10 * k ≤ j) : bxA (htS s k q) 144 j = bxA s 144 j := by
  unfold bxA
  rw [htS_a (by decide) (by omega), htS_a (by decide) (by omega), htS_a (by decide) (by omega), htS_a (by decide) (by omega)]
theorem s_hit {s : zS} {k N : Nat} {q : Bx} (hN : s 144 0 = (N : Int)) (hN2 : N ≤ 239) (hk : k < N) (hq : bxA s 152 0 = q) (n : Nat) : g_m_queries_L6 (n + 1) (k : Int) s = if bMt (bxA s 144 (340 + 10 * (k : Int))) q then g_m_queries_L6 n ((k + 1 : Nat) : Int) (trW (htS s (k : Int) q) (k : Int)) else g_m_queries_L6 n ((k + 1 : Nat) : Int) s := by
  have l := l144
  have l152 : zLI 152 = 4 := rfl
  have l153 : zLI 153 = 4 := rfl
  conv => lhs; unfold g_m_queries_L6
  unfold g_m_queries_L104
  simp only [hN]
  rw [if_neg (by omega), s_region (by omega) (by omega)]
  rw [Option.bind_some]
  try dsimp only
  rw [s_doMeet (by omega) (by omega) (by omega) (by omega) (by omega) (by omega), hq]
  rw [Option.bind_some]
  try dsimp only
  rw [w32_id (x := (k : Int) + 1) (by omega) (by omega), show ((k + 1 : Nat) : Int) = (k : Int) + 1 by omega]
  by_cases c : bMt (bxA s 144 (340 + 10 * (k : Int))) q
  · rw [if_pos c, if_pos c, if_pos (by decide), w32_id (x := 340 + 10 * (k : Int) + 9) (by omega) (by omega), if_pos (by omega), s_less, Option.bind_some]
    try dsimp only
    rw [if_pos (by omega)]
    rw [show 340 + 10 * (k : Int) + 9 = 349 + 10 * (k : Int) by omega, s_commons (by omega) (by omega) (by omega) (by omega) (by omega) (by omega) (by omega) (by omega) (by omega)]
    rw [Option.bind_some]
    try dsimp only
    rw [zu_bxi (by omega), zu_bxa (by decide), hq, w32_id (x := 340 + 10 * (k : Int) + 4) (by omega) (by omega), s_arounds (by omega) (by omega) (by omega) (by omega) (by omega) (by omega)]
    rw [Option.bind_some]
    try dsimp only
    rw [zb_bx rfl, zb_bxa (by decide), zu_bxi (by omega), show 340 + 10 * (k : Int) + 4 = 344 + 10 * (k : Int) by omega, s_weighs (by omega) (by omega)]
    rfl
  · rw [if_neg c, if_neg c, if_neg (by decide)]
theorem rgA_ht {s : zS} {k : Int} {q : Bx} (hk : 0 ≤ k) : rgA (trW (htS s k q) k) k = mHit s q (rgA s k) := by
  have e1 : bxA (htS s k q) 144 (340 + 10 * k) = bxA s 144 (340 + 10 * k) := htS_bx (by omega)
  have e2 : ∀ b, rowsN (htS s k q) b = rowsN s b := fun b => rowsN_fr (fun j h1 h2 => htS_a (by decide) (by omega)) b
  have e3 : ∀ b, costN (htS s k q) b = costN s b := fun b => by
    unfold costN
    rw [e2, htS_a (by decide) (by omega)]
  have e4 : htS s k q 144 (349 + 10 * k) = zmn 9999 (w32 (s 144 (349 + 10 * k) + 1)) := by
    unfold htS
    rw [zb_i (by omega), zb_a (by decide), zu_e rfl]
  have e5 : htS s k q 147 0 = s 147 0 := htS_a (by decide) (Or.inl (by decide))
  have e6 : bxA (htS s k q) 144 (344 + 10 * k) = bAro (bxA s 144 (344 + 10 * k)) (bCom (bxA s 144 (340 + 10 * k)) q) := by
    unfold htS
    exact zb_bx rfl
  have e7 : htS s k q 144 (348 + 10 * k) = s 144 (348 + 10 * k) := by
    unfold htS
    rw [zb_i (by omega), zb_a (by decide), zu_i (by omega)]
  unfold rgA mHit trW
  rw [zu_bxa (by decide), zu_bxa (by decide), zu_a (by decide), zu_a (by decide), zu_e rfl, e1, e2, e3, e4, e5, e6, e7]
theorem rgA_ho {s : zS} {k t : Int} {q : Bx} (hk : 0 ≤ k) (ht : t ≠ k) : rgA (trW (htS s k q) k) t = rgA s t := by
  unfold rgA trW
  rw [zu_bxa (by decide), zu_bxa (by decide), zu_a (by decide), zu_a (by decide), zu_i (by omega), htS_bx (by omega), htS_bx (by omega), htS_a (by decide) (by omega), htS_a (by decide) (by omega), htS_a (by decide) (Or.inl (by decide))]
theorem frH_ht {s : zS} {k : Int} {q : Bx} (hk : 0 ≤ k) : frH s (trW (htS s k q) k) := by
  intro a j h1 h2 h3
  unfold trW
  rw [zu_c (by omega), htS_a h1 (by omega)]
theorem s_hits {σ : zS} {N : Nat} {q : Bx} (hN : σ 144 0 = (N : Int)) (hN2 : N ≤ 239) (hq : bxA σ 152 0 = q) : ∀ (d k n : Nat) (s : zS), k + d = N → d < n → frH σ s → (∀ t : Nat, t < N → rgA s (t : Int) = if t < k ∧ bMt (rgA σ (t : Int)).1 q then mHit σ q (rgA σ (t : Int)) else rgA σ (t : Int)) → ∃ s', g_m_queries_L6 n (k : Int) s = g_m_queries_L112 zK 0 s' ∧ frH σ s' ∧ ∀ t : Nat, t < N → rgA s' (t : Int) = if bMt (rgA σ (t : Int)).1 q then mHit σ q (rgA σ (t : Int)) else rgA σ (t : Int)
  | _, _, 0, _, _, h, _, _ => absurd h (Nat.not_lt_zero _)
  | 0, k, n + 1, s, hk, _, hf, hr => by
    refine ⟨s, ?_, hf, fun t ht => ?_⟩
    · unfold g_m_queries_L6
      simp only [hf 144 0 (by decide) (Or.inr (by decide)) (Or.inl (by decide)), hN]
      rw [if_pos (by omega)]
    · rw [hr t ht]
      by_cases c : bMt (rgA σ (t : Int)).1 q
      · rw [if_pos ⟨by omega, c⟩, if_pos c]
      · rw [if_neg (fun e => c e.2), if_neg c]
  | d + 1, k, n + 1, s, hk, hn, hf, hr => by
    have sN : s 144 0 = (N : Int) := (hf 144 0 (by decide) (Or.inr (by decide)) (Or.inl (by decide))).trans hN
    have sq : bxA s 152 0 = q := (hf.bx (by decide) (by decide) (by decide)).trans hq
    have hkN : k < N := by omega
    have ek : rgA s (k : Int) = rgA σ (k : Int) := by rw [hr k hkN, if_neg (by omega)]
    have ek1 : bxA s 144 (340 + 10 * (k : Int)) = (rgA σ (k : Int)).1 := congrArg (fun r : Rg => r.1) ek
    rw [s_hit sN hN2 hkN sq n, ek1]
    by_cases c : bMt (rgA σ (k : Int)).1 q
    · rw [if_pos c]
      refine s_hits hN hN2 hq d (k + 1) n _ (by omega) (by omega) ?_ ?_
      · intro a j h1 h2 h3
        rw [frH_ht (by omega) a j h1 h2 h3]
        exact hf a j h1 h2 h3
      · intro t ht
        by_cases htk : t = k
        · subst htk
          rw [rgA_ht (by omega), ek, if_pos ⟨by omega, c⟩]
          unfold mHit
          rw [(frH_cost hf _).1, (frH_cost hf _).2, hf 147 0 (by decide) (Or.inl (by decide)) (Or.inr (by decide))]
        · rw [rgA_ho (by omega) (by omega), hr t ht]
          by_cases c2 : t < k ∧ bMt (rgA σ (t : Int)).1 q
          · rw [if_pos c2, if_pos ⟨by omega, c2.2⟩]
          · rw [if_neg c2, if_neg (fun e => c2 ⟨by omega, e.2⟩)]
    · rw [if_neg c]
      refine s_hits hN hN2 hq d (k + 1) n s (by omega) (by omega) hf (fun t ht => ?_)
      rw [hr t ht]
      by_cases htk : t = k
      · subst htk
        rw [if_neg (by omega), if_neg (fun e => c e.2)]
      · by_cases c2 : t < k ∧ bMt (rgA σ (t : Int)).1 q
        · rw [if_pos c2, if_pos ⟨by omega, c2.2⟩]
        · rw [if_neg c2, if_neg (fun e => c2 ⟨by omega, e.2⟩)]
theorem bCom_ok {a b : Bx} (ha : bOk a) (hb : bOk b) (h : bMt a b) : bOk (bCom a b) ∧ bSub (bCom a b) a ∧ bSub (bCom a b) b := by
  have h1 := @zmx_le a.1 b.1
  have h2 := @zmn_le a.2.1 b.2.1
  have h3 := @zmx_le a.2.2.1 b.2.2.1
  have h4 := @zmn_le a.2.2.2 b.2.2.2
  unfold bCom
  dsimp only [bOk, bSub, bMt] at *
  refine ⟨⟨?_, ?_, ?_, ?_, ?_, ?_⟩, ⟨?_, ?_, ?_, ?_⟩, ?_, ?_, ?_, ?_⟩ <;> omega
theorem mHit_ok {σ : zS} {q : Bx} {r : Rg} (hr : rOk r) (hq : bOk q) (h : bMt r.1 q) : rOk (mHit σ q r) := by
  obtain ⟨c1, c2, c3⟩ := bCom_ok hr.1 hq h
  refine ⟨hr.1, ?_⟩
  show (bAro r.2.1 (bCom r.1 q)).1 < 0 ∨ (bOk (bAro r.2.1 (bCom r.1 q)) ∧ bSub (bAro r.2.1 (bCom r.1 q)) r.1)
  rcases hr.2 with k | k
  · rw [bAro_neg (by omega)]
    exact Or.inr ⟨c1, c2⟩
  · obtain ⟨v1, v2, v3⟩ := bAro_ok k.1 c1
    refine Or.inr ⟨v1, ?_⟩
    have t1 := k.2
    have k1 := @zmn_le r.2.1.1 (bCom r.1 q).1
    have k2 := @zmx_le r.2.1.2.1 (bCom r.1 q).2.1
    have k3 := @zmn_le r.2.1.2.2.1 (bCom r.1 q).2.2.1
    have k4 := @zmx_le r.2.1.2.2.2 (bCom r.1 q).2.2.2
    rw [bAro_pos k.1.1]
    dsimp only [bSub] at *
    refine ⟨?_, ?_, ?_, ?_⟩ <;> omega
theorem addsS_a {σ : zS} {k : Int} {b : Bx} {a : Nat} {j : Int} (h : a ≠ 144 ∨ ((j < 340 + 10 * k ∨ 350 + 10 * k ≤ j) ∧ j ≠ 0 ∧ j ≠ 1)) : addsS σ k b a j = σ a j := by
  unfold addsS
  rw [zu_c (by omega), zu_c (by omega), zu_c (by omega), zu_c (by omega)]
  rcases h with h | h
  · rw [zb_a h, zb_a h]
  · rw [zb_i (by omega), zb_i (by omega)]
theorem rgA_adds {σ : zS} {k : Int} {b : Bx} (hk : 0 ≤ k) : rgA (addsS σ k b) k = (b, (-5, -5, -5, -5), σ 144 1, 0, σ 147 (121 + k)) := by
  unfold rgA addsS
  rw [zu_bxi (by omega), zu_bxi (by omega), zu_bxi (by omega), zu_bxi (by omega), zb_bxi (by omega), zb_bx rfl, zu_bxi (by omega), zu_bxi (by omega), zu_bxi (by omega), zu_bxi (by omega), zb_bx rfl, zu_i (by omega), zu_i (by omega), zu_i (by omega), zu_e rfl, zu_i (by omega), zu_i (by omega), zu_e rfl, zu_a (by decide), zu_a (by decide), zu_a (by decide), zu_a (by decide), zb_a (by decide), zb_a (by decide)]
theorem rgA_addo {σ : zS} {k t : Int} {b : Bx} (hk : 0 ≤ k) (ht : 0 ≤ t) (htk : t < k) : rgA (addsS σ k b) t = rgA σ t := by
  unfold rgA bxA
  rw [addsS_a (by omega), addsS_a (by omega), addsS_a (by omega), addsS_a (by omega), addsS_a (by omega), addsS_a (by omega), addsS_a (by omega), addsS_a (by omega), addsS_a (by omega), addsS_a (by omega), addsS_a (Or.inl (by decide))]
theorem rgA_w {s : zS} {k t : Int} : (rgA (trW s k) t).1 = (rgA s t).1 ∧ (rgA (trW s k) t).2.1 = (rgA s t).2.1 := by
  unfold rgA trW
  exact ⟨zu_bxa (by decide), zu_bxa (by decide)⟩
theorem addsS_N {σ : zS} {k : Int} {b : Bx} (h1 : 0 ≤ k) (h2 : k ≤ 1000) : addsS σ k b 144 0 = k + 1 := by
  unfold addsS
  rw [zu_e rfl, w32_id (by omega) (by omega)]
/-- a region more, where nothing has a place of it -/
theorem RI_adds {σ : zS} {N : Nat} {b : Bx} (hR : RI σ N) (hb : bOk b) (h : ∀ k : Nat, k < N → ¬ bMt (rgA σ (k : Int)).1 b) : RI (addsS σ (N : Int) b) (N + 1) := by
  have e : ∀ k : Nat, k < N → rgA (addsS σ (N : Int) b) (k : Int) = rgA σ (k : Int) := fun k hk => rgA_addo (by omega) (by omega) (by omega)
  have eN := rgA_adds (σ := σ) (k := (N : Int)) (b := b) (by omega)
  refine ⟨fun k hk => ?_, fun k1 k2 h1 h2 => ?_⟩
  · by_cases c : k = N
    · subst c
      rw [eN]
      exact ⟨hb, Or.inl (show (-5 : Int) < 0 by decide)⟩
    · rw [e k (by omega)]; exact hR.1 k (by omega)
  · rw [e k1 (by omega)]
    by_cases c : k2 = N
    · subst c
      rw [eN]
      exact h k1 h1
    · rw [e k2 (by omega)]; exact hR.2 k1 k2 h1 (by omega)
/-- what asking and adding leave -/
def frA (σ s : zS) : Prop := ∀ a j, (a ≠ 144 ∨ (4 ≤ j ∧ j < 340)) → (a ≠ 147 ∨ j < 121) → s a j = σ a j
theorem frA.trans {σ s t : zS} (h1 : frA σ s) (h2 : frA s t) : frA σ t := fun a j k1 k2 => (h2 a j k1 k2).trans (h1 a j k1 k2)
def askS (σ : zS) (c : Int) : zS := zu (zu σ 144 2 (w32 (σ 144 2 + 1))) 144 3 (w32 (σ 144 3 + c))
theorem askS_a {σ : zS} {c : Int} {a : Nat} {j : Int} (h : a ≠ 144 ∨ (j ≠ 2 ∧ j ≠ 3)) : askS σ c a j = σ a j := by
  unfold askS
  rw [zu_c (by omega), zu_c (by omega)]
theorem askS_bx {σ : zS} {c : Int} {a : Nat} {j : Int} (h : a ≠ 144 ∨ 4 ≤ j) : bxA (askS σ c) a j = bxA σ a j := by
  unfold bxA
  rw [askS_a (by omega), askS_a (by omega), askS_a (by omega), askS_a (by omega)]
theorem s_asks {a : Nat} {i : Int} {σ : zS} (h0 : a ≠ 144) (h1 : 0 ≤ i) (h2 : i + 3 < zLI a) (h3 : zLI a ≤ 100000) : g_m_asks a i σ = some ((), askS σ (costN σ (bxA σ a i))) := by
  unfold g_m_asks
  have e1 : bxA (zu σ 144 2 (w32 (σ 144 2 + 1))) a i = bxA σ a i := zu_bxa h0
  have e2 : costN (zu σ 144 2 (w32 (σ 144 2 + 1))) (bxA σ a i) = costN σ (bxA σ a i) := by
    unfold costN
    rw [zu_i (by decide), rowsN_fr (fun j k1 k2 => zu_i (by omega)) _]
  show (g_m_cost a i (zu σ 144 2 (w32 (σ 144 2 + 1)))).bind _ = _
  rw [s_cost h1 h2 h3, e1, e2]
  rw [Option.bind_some]
  try dsimp only
  rw [zu_i (by decide)]
  rfl
theorem rgA_ask {σ : zS} {c t : Int} (ht : 0 ≤ t) : rgA (askS σ c) t = rgA σ t := by
  unfold rgA
  rw [askS_bx (by omega), askS_bx (by omega), askS_a (by omega), askS_a (by omega), askS_a (Or.inl (by decide))]
theorem s_piece {σ : zS} {t M N : Nat} {p : Bx} (hM : σ 143 10 = (M : Int)) (htM : t < M) (hM2 : M ≤ 300) (hN : σ 144 0 = (N : Int)) (hN2 : N ≤ 238) (hp : bxA σ 150 (4 * (t : Int)) = p) (n : Nat) : g_m_queries_L112 (n + 1) (t : Int) σ = g_m_queries_L112 n ((t + 1 : Nat) : Int) (if σ 144 17 < bArea p then askS σ (costN σ p) else trW (addsS (askS σ (costN σ p)) (N : Int) p) (N : Int)) := by
  have l150 : zLI 150 = 2400 := rfl
  have l := l144
  conv => lhs; unfold g_m_queries_L112
  unfold g_m_queries_L166
  simp only [hM]
  rw [if_neg (by omega), w32_id (x := 4 * (t : Int)) (by omega) (by omega), s_asks (by decide) (by omega) (by omega) (by omega), hp]
  rw [Option.bind_some]
  try dsimp only
  rw [s_area (by omega) (by omega) (by omega), askS_bx (Or.inl (by decide)), hp]
  rw [Option.bind_some]
  try dsimp only
  have e17 : askS σ (costN σ p) 144 17 = σ 144 17 := askS_a (by omega)
  simp only [e17]
  rw [w32_id (x := (t : Int) + 1) (by omega) (by omega), show ((t + 1 : Nat) : Int) = (t : Int) + 1 by omega]
  by_cases c : σ 144 17 < bArea p
  · rw [if_pos c, if_pos c]
  · rw [if_neg c, if_neg c, s_adds (k := (N : Int)) (by rw [askS_a (by omega)]; exact hN) (by omega) (by omega) (by omega) (by omega) (by omega), askS_bx (Or.inl (by decide)), hp]
    rw [Option.bind_some]
    try dsimp only
    rw [s_weighs (by omega) (by omega)]
    rfl
theorem s_pieces {P : List Bx} {σ0 : zS} (okP : ∀ p ∈ P, bOk p) (hPP : P.Pairwise (fun a b => ¬ bMt a b)) (hlP : P.length ≤ 200) : ∀ (suf pre : List Bx) (n N : Nat) (σ : zS), P = pre ++ suf → suf.length < n → frA σ0 σ → σ 143 10 = (P.length : Int) → lstA σ 150 P.length = P → RI σ N → σ 144 0 = (N : Int) → N ≤ 20 + pre.length → (∀ k : Nat, k < N → ∀ p ∈ suf, ¬ bMt (rgA σ (k : Int)).1 p) → ∃ s N', g_m_queries_L112 n (pre.length : Int) σ = g_m_queries_L188 (if σ 144 15 = 1 then 1 else 0) s ∧ frA σ0 s ∧ RI s N' ∧ s 144 0 = (N' : Int) ∧ N' ≤ 20 + P.length
  | _, _, 0, _, _, _, h, _, _, _, _, _, _, _ => absurd h (Nat.not_lt_zero _)
  | [], pre, n + 1, N, σ, h, _, hf, hM, _, hR, hN, hNp, _ => by
    rw [List.append_nil] at h
    subst h
    refine ⟨σ, N, ?_, hf, hR, hN, hNp⟩
    unfold g_m_queries_L112
    simp only [hM]
    rw [if_pos (by omega)]
    show (if σ 144 15 ≠ 1 then _ else _) = _
    by_cases c : σ 144 15 = 1
    · rw [if_neg (fun e => e c), if_pos c]
    · rw [if_pos c, if_neg c]
  | p :: suf, pre, n + 1, N, σ, h, hn, hf, hM, hP, hR, hN, hNp, hd => by
    have hlen : P.length = pre.length + (suf.length + 1) := by rw [h, List.length_append, List.length_cons]
    have hp : bxA σ 150 (4 * (pre.length : Int)) = p := by
      have e1 := lstA_get (σ := σ) (a := 150) (n := P.length) (k := pre.length) (by omega)
      rw [hP] at e1
      have e2 : P[pre.length]? = some p := by rw [h, List.getElem?_append_right (Nat.le_refl _), Nat.sub_self]; rfl
      rw [e2] at e1
      exact (Option.some.inj e1).symm
    have okp : bOk p := okP p (by rw [h]; exact List.mem_append_right _ List.mem_cons_self)
    have hps : ∀ x ∈ suf, ¬ bMt p x := by
      rw [h] at hPP
      exact (List.pairwise_cons.mp (List.pairwise_append.mp hPP).2.1).1
    rw [s_piece hM (by omega) (by omega) hN (by omega) hp n]
    have h' : P = (pre ++ [p]) ++ suf := by rw [h, List.append_assoc]; rfl
    have hn' : suf.length < n := by rw [List.length_cons] at hn; omega
    have ek : (pre ++ [p]).length = pre.length + 1 := by rw [List.length_append, List.length_singleton]
    by_cases c : σ 144 17 < bArea p
    · rw [if_pos c]
      have := s_pieces okP hPP hlP suf (pre ++ [p]) n N (askS σ (costN σ p)) h' hn' (hf.trans (fun a j k1 k2 => askS_a (by omega))) (by rw [askS_a (Or.inl (by decide))]; exact hM) (by
        rw [← hP, lstA_len]
        unfold lstA
        congr 1) (RI_of hR (fun k hk => by rw [rgA_ask (by omega)]; exact ⟨rfl, rfl⟩)) (by rw [askS_a (by omega)]; exact hN) (by omega) (fun k hk x hx => by rw [rgA_ask (by omega)]; exact hd k hk x (List.mem_cons_of_mem _ hx))
      rw [ek, askS_a (by omega)] at this
      exact this
    · rw [if_neg c]
      have hR1 : RI (askS σ (costN σ p)) N := RI_of hR (fun k hk => by rw [rgA_ask (by omega)]; exact ⟨rfl, rfl⟩)
      have hR2 : RI (addsS (askS σ (costN σ p)) (N : Int) p) (N + 1) := RI_adds hR1 okp (fun k hk => by rw [rgA_ask (by omega)]; exact hd k hk p List.mem_cons_self)
      have wa : ∀ a j, (a ≠ 147 ∨ j ≠ 121 + (N : Int)) → trW (addsS (askS σ (costN σ p)) (N : Int) p) (N : Int) a j = addsS (askS σ (costN σ p)) (N : Int) p a j := fun a j h => zu_c h
      have fin : ∀ a j, (a ≠ 144 ∨ (4 ≤ j ∧ j < 340)) → (a ≠ 147 ∨ j < 121) → trW (addsS (askS σ (costN σ p)) (N : Int) p) (N : Int) a j = σ a j := fun a j k1 k2 => by
        rw [wa a j (by omega), addsS_a (by omega), askS_a (by omega)]
      have := s_pieces okP hPP hlP suf (pre ++ [p]) n (N + 1) (trW (addsS (askS σ (costN σ p)) (N : Int) p) (N : Int)) h' hn' (hf.trans fin) (by rw [fin 143 10 (Or.inl (by decide)) (Or.inl (by decide))]; exact hM) (by
        rw [← hP, lstA_len]
        unfold lstA
        congr 1) (RI_of hR2 (fun k hk => rgA_w)) (by
        rw [wa 144 0 (Or.inl (by decide)), addsS_N (by omega) (by omega)]
        omega) (by omega) (fun k hk x hx => by
        rw [rgA_w.1]
        by_cases ckN : k = N
        · subst ckN
          rw [rgA_adds (by omega)]
          exact hps x hx
        · rw [rgA_addo (by omega) (by omega) (by omega), rgA_ask (by omega)]
          exact hd k (by omega) x (List.mem_cons_of_mem _ hx))
      rw [ek, fin 144 15 (by omega) (Or.inl (by decide))] at this
      exact this
theorem s_merges : ∀ (d n : Nat) (σ : zS) (N : Nat), N ≤ d → d + 1 < n → RI σ N → σ 144 0 = (N : Int) → N ≤ 239 → ∃ s N', g_m_queries_L189 n 1 σ = (g_m_trims s).bind (fun o => some ((), o.2)) ∧ N' ≤ N ∧ RI s N' ∧ s 144 0 = (N' : Int) ∧ frR σ s
  | d, 0, _, _, _, h, _, _, _ => absurd h (Nat.not_lt_zero _)
  | d, n + 1, σ, N, hd, hn, hR, hN, hN2 => by
    have stop : ∀ (m : Nat) (t : zS), 0 < m → g_m_queries_L189 m 0 t = (g_m_trims t).bind (fun o => some ((), o.2)) := by
      intro m t hm
      obtain ⟨m', rfl⟩ : ∃ m', m = m' + 1 := ⟨m - 1, by omega⟩
      unfold g_m_queries_L189
      rw [if_pos rfl]
    have step : g_m_queries_L189 (n + 1) 1 σ = (g_m_isMerged σ).bind (fun o => g_m_queries_L189 n o.1 o.2) := by
      conv => lhs; unfold g_m_queries_L189
      rw [if_neg (by decide)]
    rw [step]
    rcases s_isMerged hR hN hN2 with ⟨i, j, k1, k2, k3, -, k5⟩ | ⟨-, k2⟩
    · rw [k5]
      rw [Option.bind_some]
      try dsimp only
      obtain ⟨f1, f2⟩ := jnS_fr (σ := σ) k1 k2 hN2
      cases d with
      | zero => omega
      | succ d =>
        obtain ⟨s, N', m1, m2, m3, m4, m5⟩ := s_merges d n _ (N - 1) (by omega) (by omega) (RI_join hR k1 k2 hN2 k3) f2 (by omega)
        exact ⟨s, N', m1, by omega, m3, m4, f1.trans m5⟩
    · rw [k2]
      rw [Option.bind_some]
      try dsimp only
      exact ⟨σ, N, stop n σ (by omega), Nat.le_refl _, hR, hN, frR.refl σ⟩
/-- all that a query leaves as it was -/
def frQ (σ s : zS) : Prop := ∀ a j, (a ≠ 144 ∨ (8 ≤ j ∧ j < 340)) → (a ≠ 147 ∨ (1 ≤ j ∧ j < 121)) → a ≠ 150 → a ≠ 151 → a ≠ 153 → (a ≠ 143 ∨ j ≠ 10) → s a j = σ a j
theorem RI_rbx {σ : zS} {N : Nat} (h : RI σ N) : (∀ r ∈ rbx σ N, bOk r) ∧ (rbx σ N).Pairwise (fun a b => ¬ bMt a b) := by
  have g : ∀ (k : Nat) (hk : k < (rbx σ N).length), (rbx σ N)[k] = (rgA σ (k : Int)).1 := by
    intro k hk
    have e := rbx_get (σ := σ) (n := N) (k := k) (by rw [rbx_len] at hk; exact hk)
    rw [List.getElem?_eq_getElem hk] at e
    exact Option.some.inj e
  constructor
  · intro r hr
    obtain ⟨k, hk, rfl⟩ := List.getElem_of_mem hr
    rw [g k hk]
    exact (h.1 k (by rw [rbx_len] at hk; exact hk)).1
  · rw [List.pairwise_iff_getElem]
    intro i j hi hj hij
    rw [g i hi, g j hj]
    exact h.2 i j hij (by rw [rbx_len] at hj; exact hj)
theorem s_queries {σ : zS} {N : Nat} {q : Bx} (hR : RI σ N) (hN : σ 144 0 = (N : Int)) (hN2 : N ≤ 12) (hq : bOk q) (hb : bxA σ 152 0 = q) (h13 : 1 ≤ σ 144 13) (h13b : σ 144 13 ≤ 12) (h12 : 1 ≤ σ 144 12) : ∃ s N', g_m_queries σ = some ((), s) ∧ RI s N' ∧ s 144 0 = (N' : Int) ∧ N' ≤ 12 ∧ frQ σ s := by
  obtain ⟨r1, r2⟩ := RI_rbx hR
  obtain ⟨s1, m1, m2, m3, m4⟩ := s_misses (σ := σ) (q := q) (rs := rbx σ N) hq hb r1 r2 (by rw [rbx_len]; exact hN2) (by rw [rbx_len]; exact hN) (by rw [rbx_len])
  have hinv := (bMissAll_inv hq (rbx σ N) r1 r2).1
  have h169 := bMissAll_169 hq r1 r2 (by rw [rbx_len]; exact hN2)
  generalize hP : bMissAll q (rbx σ N) = P at m3 m4 hinv h169
  have a1 : ∀ a j, a ≠ 150 → a ≠ 151 → (a ≠ 143 ∨ j ≠ 10) → s1 a j = σ a j := m2
  have e144 : ∀ j, s1 144 j = σ 144 j := fun j => a1 144 j (by decide) (by decide) (Or.inl (by decide))
  have e147 : ∀ j, s1 147 j = σ 147 j := fun j => a1 147 j (by decide) (by decide) (Or.inl (by decide))
  have hrg : ∀ k : Int, rgA s1 k = rgA σ k := fun k => by
    unfold rgA bxA
    rw [e144, e144, e144, e144, e144, e144, e144, e144, e144, e144, e147]
  have hN1 : s1 144 0 = (N : Int) := (e144 0).trans hN
  have hb1 : bxA s1 152 0 = q := (frM_bx m2 (by decide) (by decide) (by decide)).trans hb
  obtain ⟨s2, n1, n2, n3⟩ := s_hits hN1 (by omega) hb1 N 0 zK s1 (by omega) (by show _ < 1000000; omega) (fun _ _ _ _ _ => rfl) (fun t ht => by rw [if_neg (by omega)])
  have hR2 : RI s2 N := by
    refine ⟨fun k hk => ?_, fun k1 k2 h1 h2 => ?_⟩
    · rw [n3 k hk, hrg]
      by_cases c : bMt (rgA σ (k : Int)).1 q
      · rw [if_pos c]; exact mHit_ok (hR.1 k hk) hq c
      · rw [if_neg c]; exact hR.1 k hk
    · have eb : ∀ k : Nat, k < N → (rgA s2 (k : Int)).1 = (rgA σ (k : Int)).1 := by
        intro k hk
        rw [n3 k hk, hrg]
        split <;> rfl
      rw [eb k1 (by omega), eb k2 h2]
      exact hR.2 k1 k2 h1 h2
  have hl2 : lstA s2 150 P.length = P := by
    rw [← m4, lstA_len]
    unfold lstA
    congr 1
    funext k
    exact n2.bx (by decide) (by decide) (by decide)
  have hbx2 : ∀ k : Nat, k < N → (rgA s2 (k : Int)).1 = (rgA σ (k : Int)).1 := by
    intro k hk
    rw [n3 k hk, hrg]
    split <;> rfl
  obtain ⟨s3, N3, p1, p2, p3, p4, p5⟩ := s_pieces (P := P) (σ0 := s2) (fun p hp => (hinv.1 p hp).1) (List.Pairwise.imp_of_mem (fun {a b} ha hb' hab => bSep_not (hinv.1 a ha).1 (hinv.1 b hb').1 hab) hinv.2) (by omega) P [] zK N s2 rfl (by show _ < 1000000; omega) (fun _ _ _ _ => rfl) ((n2 143 10 (by decide) (Or.inl (by decide)) (Or.inl (by decide))).trans m3) hl2 hR2 ((n2 144 0 (by decide) (Or.inr (by decide)) (Or.inl (by decide))).trans hN1) (by omega) (fun k hk p hp hm => by
    rw [hbx2 k hk] at hm
    have hmem : (rgA σ (k : Int)).1 ∈ rbx σ N := List.mem_of_getElem? (rbx_get (σ := σ) hk)
    exact (hinv.1 p hp).2.2.2 _ hmem (bMt_comm hm))
  have f3 : frQ σ s3 := by
    intro a j k1 k2 k3 k4 k5 k6
    rw [p2 a j (by omega) (by omega), n2 a j k5 (by omega) (by omega), a1 a j k3 k4 k6]
  have e1 : g_m_queries σ = g_m_queries_L188 (if s2 144 15 = 1 then 1 else 0) s3 := by
    unfold g_m_queries
    rw [m1]
    rw [Option.bind_some]
    try dsimp only
    exact n1.trans p1
  have s3k : ∀ j : Int, 8 ≤ j → j < 340 → s3 144 j = σ 144 j := fun j h1 h2 => f3 144 j (Or.inr ⟨h1, h2⟩) (Or.inl (by decide)) (by decide) (by decide) (by decide) (Or.inl (by decide))
  have fin : ∀ (s4 : zS) (N4 : Nat), RI s4 N4 → s4 144 0 = (N4 : Int) → N4 ≤ 239 → frR s3 s4 → ∃ s N', (g_m_trims s4).bind (fun o => some ((), o.2)) = some ((), s) ∧ RI s N' ∧ s 144 0 = (N' : Int) ∧ N' ≤ 12 ∧ frQ σ s := by
    intro s4 N4 h1 h2 h3 h4
    have k13 : s4 144 13 = σ 144 13 := (h4 144 13 (by omega) (Or.inl (by decide))).trans (s3k 13 (by decide) (by decide))
    have k12 : s4 144 12 = σ 144 12 := (h4 144 12 (by omega) (Or.inl (by decide))).trans (s3k 12 (by decide) (by decide))
    obtain ⟨s5, N5, t1, t2, t3, t4, t5, t6⟩ := s_trims h1 h2 h3 (by omega) (by omega)
    refine ⟨s5, N5, by rw [t1]; rfl, t3, t4, by omega, fun a j c1 c2 c3 c4 c5 c6 => ?_⟩
    rw [t5 a j c1 c2, h4 a j c1 c2]
    exact f3 a j c1 c2 c3 c4 c5 c6
  rw [e1]
  unfold g_m_queries_L188
  by_cases c : s2 144 15 = 1
  · rw [if_pos c]
    obtain ⟨s4, N4, q1, q2, q3, q4, q5⟩ := s_merges N3 zK s3 N3 (Nat.le_refl _) (by show _ < 1000000; omega) p3 p4 (by omega)
    rw [q1]
    exact fin s4 N4 q3 q4 (by omega) q5
  · rw [if_neg c]
    have stop : g_m_queries_L189 zK 0 s3 = (g_m_trims s3).bind (fun o => some ((), o.2)) := by
      show g_m_queries_L189 (999999 + 1) 0 s3 = _
      unfold g_m_queries_L189
      rw [if_pos rfl]
    rw [stop]
    exact fin s3 N3 p3 p4 (by omega) (frR.refl s3)
