/-! THE REGIONS alike: run -/
/-- a state of the reference that tells these regions: it may be one that no call reaches -/
def VRg (rn : Bx → Int) (st : Int → Int) (L : List Rg) (ct : Int → Int) (τ : zS) : Prop := mSt τ rn st L ct ∧ RI τ L.length ∧ L.length ≤ 12 ∧ asc L (ct 8)
theorem VRg.step {rn : Bx → Int} {st : Int → Int} {L : List Rg} {ct : Int → Int} {τ : zS} {q : Bx} (so : stO1 st) (h : VRg rn st L ct τ) (h8 : 0 ≤ ct 8 ∧ ct 8 + 169 < 2147483648) (hq : bOk q) : ∃ L' ct' τ', srvR rn st q L ct L' ct' ∧ VRg rn st L' ct' τ' ∧ (ct 8 ≤ ct' 8 ∧ ct' 8 ≤ ct 8 + 169) := by
  obtain ⟨M, R, hL, A⟩ := h
  obtain ⟨o1, o2, o3, o4, o5⟩ := so
  have M1 : mSt (zb τ 152 0 q) rn st L ct := M.mv (by omega) (fun j _ _ => zb_a (by decide)) (fun j _ _ => zb_a (by decide))
  have R1 : RI (zb τ 152 0 q) L.length := R.mv (by omega) (fun j _ _ => zb_a (by decide))
  have e13 : zb τ 152 0 q 144 13 = st 2 := M1.2.2.1 2 (by decide) (by decide)
  have e12 : zb τ 152 0 q 144 12 = st 1 := M1.2.2.1 1 (by decide) (by decide)
  obtain ⟨s, N, e1, e2, e3, e4, e5⟩ := s_queries (q := q) R1 M1.1.1 hL hq (zb_bx rfl) (by omega) (by omega) (by omega)
  obtain ⟨L', ct', p1, p2, p3, p4, p5⟩ := t_queries (q := q) (by omega) (by omega) o4 o5 R1 M1 hL hq (zb_bx rfl) A h8 _ s e1
  have eN : N = L'.length := by
    have := p5.1.1
    omega
  subst eN
  exact ⟨L', ct', s, p1, ⟨p5, e2, e4, p3⟩, p4⟩
theorem VRg.ok {rn : Bx → Int} {st : Int → Int} {L : List Rg} {ct : Int → Int} {τ : zS} (h : VRg rn st L ct τ) : (∀ r ∈ L, hOk r) ∧ (L.map (fun r => r.1)).Pairwise (fun a b => ¬ bMt a b) := ⟨ok_of h.1.1 h.2.1, pw_of h.1.1 h.2.1⟩
def srvL (rn : Bx → Int) (st : Int → Int) : List Bx → List Rg → (Int → Int) → List Rg → (Int → Int) → Prop
  | [], L, ct, L', ct' => L' = L ∧ ct' = ct
  | q :: l, L, ct, L', ct' => ∃ L1 c1, srvR rn st q L ct L1 c1 ∧ srvL rn st l L1 c1 L' ct'
theorem srvL.det {rn : Bx → Int} {st : Int → Int} : ∀ (l : List Bx) {L L1 L2 : List Rg} {ct c1 c2 : Int → Int}, srvL rn st l L ct L1 c1 → srvL rn st l L ct L2 c2 → L1 = L2 ∧ c1 = c2
  | [], _, _, _, _, _, _, h1, h2 => ⟨h1.1.trans h2.1.symm, h1.2.trans h2.2.symm⟩
  | q :: l, _, _, _, _, _, _, h1, h2 => by
    obtain ⟨A, a, a1, a2⟩ := h1
    obtain ⟨B, b, b1, b2⟩ := h2
    obtain ⟨rfl, rfl⟩ := a1.det b1
    exact srvL.det l a2 b2
theorem k_run37R {I : Nat → Bool} {σ : zS} {l : List zQy} {rn : Bx → Int} {st : Int → Int} (so : stO1 st) (hl : l.length ≤ 8) (ok : ∀ Q ∈ l, (0 ≤ Q.1 ∧ Q.1 ≤ 6) ∧ bOk Q.2.1) (S : ST σ 41 I) (o4 : ok44 σ) : ∀ (n k : Nat) (s τ : zS) (L : List Rg) (ct : Int → Int), k ≤ l.length → CI s → stE σ s → s 120 3 = -1 → s 122 5 = (l.length : Int) → quH I l s → VRg rn st L ct τ → (0 ≤ ct 8 ∧ ct 8 + 169 * ((l.length : Int) - (k : Int)) < 2147483000) → cSt s 48 I rn st L ct → zP' (g_c_run_L37 n (k : Int) s) (fun _ t => ∃ L' ct', srvL rn st ((l.drop k).map (fun Q => Q.2.1)) L ct L' ct' ∧ cSt t 48 I rn st L' ct')
  | 0, _, _, _, _, _, _, _, _, _, _, _, _, _, _ => zP'.no
  | n + 1, k, s, τ, L, ct, hk, H, e, h3, h5, hq, V, h8, C => by
    unfold g_c_run_L37
    try dsimp +instances only
    rw [h5]
    by_cases c : (l.length : Int) ≤ (k : Int)
    · have ek : k = l.length := by omega
      subst ek
      rw [if_pos c]
      unfold g_c_run_L100
      try dsimp +instances only
      rw [c_end, if_pos h3]
      rw [Option.bind_some]
      rw [List.drop_length]
      exact zP'.ret ⟨L, ct, ⟨rfl, rfl⟩, C.mv (fun c j k => zu_a (by omega))⟩
    · have hk' : k < l.length := by omega
      obtain ⟨okm, okb⟩ := ok l[k] (List.getElem_mem hk')
      obtain ⟨q1, q2, q3⟩ := hq k hk'
      rw [if_neg c, if_neg (by omega), if_pos (by omega), if_pos (by omega), if_pos (by omega), q1, q2]
      have S1 := ST_E S e
      have o41 : ok44 s := fun r hr => by
        rw [e 44 _ (by unfold stK; omega)]
        exact o4 r hr
      obtain ⟨v1, v2⟩ := V.ok
      refine zP'.bind ((k_done (T := l[k].2.2.2) H S1 okb okm o41 q3 (by have := so.1; omega) (by have := so.2.1; omega) V.2.2.1 v1 v2 C).and (zP'.of (g_c_done_sp H))) (fun v t p => ?_)
      obtain ⟨⟨L1, c1, p1, p2⟩, Ht, Gt, -⟩ := p
      obtain ⟨L2, c2, τ2, w1, w2, w3⟩ := V.step so (by omega) okb
      obtain ⟨rfl, rfl⟩ := p1.det w1
      try dsimp +instances only
      rw [if_pos (by omega), w32_id (x := (k : Int) + 1) (by omega) (by omega), show (k : Int) + 1 = ((k + 1 : Nat) : Int) by omega]
      have et : stE s t := stE.of Gt (fun _ => ⟨rfl, rfl, rfl, rfl, rfl, rfl, rfl⟩)
      have z : ∀ a j, a ≠ 128 → zu t 128 (k : Int) v a j = t a j := fun a j ha => zu_a (by omega)
      have ez : stE σ (zu t 128 (k : Int) v) := (e.trans et).trans (fun a j hh => z a j (by unfold stK at hh; omega))
      refine (k_run37R so hl ok S o4 n (k + 1) _ τ2 L1 c1 (by omega) (CI_zun Ht (by decide) (by decide) rfl) ez ?_ ?_ ?_ w2 (by omega) (p2.mv (fun c j k => z c j (by omega)))).imp (fun _ u g => ?_)
      · rw [z 120 3 (by decide), Gt 120 3 (Or.inr rfl)]
        exact h3
      · rw [z 122 5 (by decide), Gt 122 5 (Or.inr rfl)]
        exact h5
      · intro i hi
        rw [z 123 _ (by decide), z 124 _ (by decide), z 125 _ (by decide), Gt 123 _ (Or.inr rfl), Gt 124 _ (Or.inr rfl), Gt 125 _ (Or.inr rfl)]
        exact hq i hi
      · obtain ⟨L', ct', g1, g2⟩ := g
        refine ⟨L', ct', ?_, g2⟩
        rw [List.drop_eq_getElem_cons hk']
        exact ⟨L1, c1, p1, g1⟩
/-- what a text of queries makes of the regions -/
def runR (rn : Bx → Int) (st : Int → Int) (r : Sum Int (List zQy)) (L : List Rg) (ct : Int → Int) (L' : List Rg) (ct' : Int → Int) : Prop := match r with
  | .inl _ => L' = L ∧ ct' = ct
  | .inr l => srvL rn st (l.map (fun Q => Q.2.1)) L ct L' ct'
theorem gL_srvL {rn : Bx → Int} {st : Int → Int} : ∀ (l : List Bx) {L L' : List Rg} {ct ct' : Int → Int}, srvL rn st l L ct L' ct' → (∀ q ∈ l, 0 ≤ q.1) → st 2 ≤ 12 → L.length ≤ 12 → 0 ≤ ct 8 → ct 8 + 16777216 * (l.length : Int) < 2147483648 → gL L → gL L'
  | [], _, _, _, _, h, _, _, _, _, _, g => by
    rw [h.1]
    exact g
  | q :: l, L, L', ct, ct', h, hq, s2, hL, h0, h8, g => by
    obtain ⟨L1, c1, h1, h2⟩ := h
    rw [List.length_cons] at h8
    obtain ⟨a, b, c, d⟩ := gL_srv h1 (hq q List.mem_cons_self) s2 hL (by omega) g
    exact gL_srvL l h2 (fun x hx => hq x (List.mem_cons_of_mem _ hx)) s2 b (by omega) (by omega) a
theorem gL_run {rn : Bx → Int} {st : Int → Int} {r : Sum Int (List zQy)} {L L' : List Rg} {ct ct' : Int → Int} (h : runR rn st r L ct L' ct') (hq : ∀ l, r = .inr l → l.length ≤ 8 ∧ ∀ Q ∈ l, 0 ≤ Q.2.1.1) (s2 : st 2 ≤ 12) (hL : L.length ≤ 12) (h8 : 0 ≤ ct 8 ∧ ct 8 ≤ 2000000000) (g : gL L) : gL L' := by
  cases r with
  | inl q =>
    rw [h.1]
    exact g
  | inr l =>
    refine gL_srvL _ (show srvL rn st (l.map (fun Q => Q.2.1)) L ct L' ct' from h) (fun q k => ?_) s2 hL h8.1 (by have := (hq l rfl).1; rw [List.length_map]; omega) g
    obtain ⟨Q, k0, rfl⟩ := List.mem_map.mp k
    exact (hq l rfl).2 Q k0
theorem runR.det {rn : Bx → Int} {st : Int → Int} {r : Sum Int (List zQy)} {L L1 L2 : List Rg} {ct c1 c2 : Int → Int} (h1 : runR rn st r L ct L1 c1) (h2 : runR rn st r L ct L2 c2) : L1 = L2 ∧ c1 = c2 := by
  cases r with
  | inl q => exact ⟨h1.1.trans h2.1.symm, h1.2.trans h2.2.symm⟩
  | inr l => exact srvL.det _ h1 h2
theorem k_runR {I : Nat → Bool} {ev : Int → Int → Int} {σ τ : zS} {rn : Bx → Int} {st : Int → Int} {L : List Rg} {ct : Int → Int} (so : stO1 st) (H : CI σ) (hb : byC σ) (S : ST σ 41 I) (o4 : ok44 σ) (hev : ∀ q : Nat, q < 60 → I q = true → ∀ l : Int, 0 ≤ l → l ≤ 3 → cev σ l (q : Int) = ev l (q : Int)) (V : VRg rn st L ct τ) (h8 : 0 ≤ ct 8 ∧ ct 8 ≤ 2000000) (C : cSt σ 48 I rn st L ct) : zP' (g_c_run σ) (fun _ t => ∃ L' ct', runR rn st (runP ev (cT σ) (σ 120 1) 8 0 []) L ct L' ct' ∧ cSt t 48 I rn st L' ct') := by
  have ht := CI.ct H
  unfold g_c_run
  rw [c_begin]
  rw [Option.bind_some]
  try dsimp +instances only
  have Hb : CI (zu (zu σ 120 2 0) 120 3 (-1)) := (zP'.of (g_ta_begin_sp H) _ _ c_begin).1
  have PP : zP' (g_qu_readParts (zu (zu σ 120 2 0) 120 3 (-1))) (fun _ s => frQu σ s ∧ quPo I (zu (zu (zu σ 120 2 0) 120 3 (-1)) 122 5 0) (runP ev (cT σ) (σ 120 1) 8 0 []) s) := by
    unfold g_qu_readParts
    try dsimp +instances only
    have f0 : frQu σ (zu (zu (zu σ 120 2 0) 120 3 (-1)) 122 5 0) := fun a j k1 k2 k3 k4 k5 => by rw [zu_c k5, zu_c (by omega), zu_c (by omega)]
    have e2 : zu (zu (zu σ 120 2 0) 120 3 (-1)) 122 5 0 120 2 = 0 := by rw [zu_a (by decide), zu_i (by decide), zu_e rfl]
    have e3 : zu (zu (zu σ 120 2 0) 120 3 (-1)) 122 5 0 120 3 = -1 := by rw [zu_a (by decide), zu_e rfl]
    have e5 : zu (zu (zu σ 120 2 0) 120 3 (-1)) 122 5 0 122 5 = 0 := zu_e rfl
    generalize zu (zu (zu σ 120 2 0) 120 3 (-1)) 122 5 0 = s1 at f0 e2 e3 e5
    have t1 : tpL s1 := by
      have e121 : s1 121 = σ 121 := funext (fun j => f0 121 j (Or.inl (by decide)) (by decide) (by decide) (by decide) (Or.inl (by decide)))
      unfold tpL
      rw [f0.L, e2, e121]
      exact ⟨ht, by omega, hb⟩
    have H1 : CI s1 := CI_Qu H f0 (by omega) (by omega)
    have O1 : exOk I ev s1 := (show exOk I ev σ from ⟨H, S, hev⟩).q f0 H1
    have P := c_runP (I := I) (ev := ev) zK 8 [] s1 t1 e3 O1 rfl (by decide) (fun i hi => absurd hi (Nat.not_lt_zero _))
    rw [f0.T, f0.L, e2] at P
    have P : zP' (g_qu_readParts_L9 zK 1 0 s1) (fun _ s => quPo I s1 (runP ev (cT σ) (σ 120 1) 8 0 []) s) := P
    exact P.imp (fun _ s p => ⟨f0.trans p.1, p⟩)
  refine zP'.bind (PP.and (zP'.of (g_qu_readParts_sp Hb))) (fun _ s2 p2 => ?_)
  obtain ⟨⟨F2, f2, p2⟩, H2, -, -⟩ := p2
  have C2 : cSt s2 48 I rn st L ct := C.mv (fun c j k => F2 c j (Or.inl (by omega)) (by omega) (by omega) (by omega) (Or.inl (by omega)))
  try dsimp +instances only
  rw [p_isSound]
  rw [Option.bind_some]
  try dsimp +instances only
  have ok := runP_ok (ev := ev) (f := cT σ) (L := σ 120 1) 8 0 [] (by decide) (by omega) rfl (fun Q hQ => absurd hQ List.not_mem_nil)
  cases e : runP ev (cT σ) (σ 120 1) 8 0 [] with
  | inl q =>
    rw [e] at p2
    have p2 : s2 120 3 = q := p2
    have hq := ok.1 q e
    have n3 : ¬ s2 120 3 = -1 := by omega
    rw [if_neg n3, if_pos rfl]
    unfold g_c_run_L100
    try dsimp +instances only
    rw [c_end, if_neg n3]
    rw [Option.bind_some]
    exact zP'.ret ⟨L, ct, ⟨rfl, rfl⟩, C2.mv (fun c j k => zu_a (by omega))⟩
  | inr l =>
    rw [e] at p2
    obtain ⟨q3, q5, q6⟩ := p2
    rw [if_pos q3, if_neg (by decide)]
    obtain ⟨l8, l0, lq⟩ := ok.2 l e
    have H3 : CI (zu s2 39 9 (s2 122 5)) := CI_zuy H2 (by decide) (by decide) (lo := 0) (hi := 8) rfl (by omega) (by omega)
    have z : ∀ a j, a ≠ 39 → zu s2 39 9 (s2 122 5) a j = s2 a j := fun a j ha => zu_a (by omega)
    have e2 : stE σ (zu s2 39 9 (s2 122 5)) := fun a j hh => by
      unfold stK at hh
      rw [z a j (by omega)]
      exact F2 a j (Or.inl (by omega)) (by omega) (by omega) (by omega) (Or.inl (by omega))
    exact k_run37R so l8 (fun Q hQ => ⟨(lq Q hQ).1, (lq Q hQ).2.1⟩) S o4 zK 0 _ τ L ct (Nat.zero_le _) H3 e2 ((z 120 3 (by decide)).trans q3) ((z 122 5 (by decide)).trans q5) (fun i hi => by
      rw [z 123 _ (by decide), z 124 _ (by decide), z 125 _ (by decide)]
      exact q6 i hi) V (by omega) (C2.mv (fun c j k => z c j (by omega)))
theorem m_run86R {σ : zS} {l : List zQy} {rn : Bx → Int} {st : Int → Int} (so : stO1 st) (hl : l.length ≤ 8) (h0 : 0 < l.length) (hL : 0 ≤ σ 143 20 ∧ σ 143 20 ≤ 160) (hb : tpR σ) (ok : ∀ Q ∈ l, qOkP (mev σ) (mT σ) (σ 143 20) Q) (o7 : ok147 σ) : ∀ (n k : Nat) (s : zS) (L : List Rg) (ct : Int → Int), k ≤ l.length → MI s → tpK σ s → s 143 22 = -1 → quR' l s → mSt s rn st L ct → asc L (ct 8) → (0 ≤ ct 8 ∧ ct 8 + 169 * ((l.length : Int) - (k : Int)) < 2147483000) → zP' (g_m_run_L86 n (l.length : Int) (k : Int) s) (fun _ t => ∃ L' ct', srvL rn st ((l.drop k).map (fun Q => Q.2.1)) L ct L' ct' ∧ asc L' (ct' 8) ∧ (ct 8 ≤ ct' 8 ∧ ct' 8 ≤ ct 8 + 169 * ((l.length : Int) - (k : Int))) ∧ mSt t rn st L' ct')
  | 0, _, _, _, _, _, _, _, _, _, _, _, _ => zP'.no
  | n + 1, k, s, L, ct, hk, h, kp, hs, hq, M, A, h8 => by
    have l161 : zLI 161 = 48 := rfl
    have l152 : zLI 152 = 4 := rfl
    obtain ⟨R0, L12⟩ := RI_at M.1 h.1
    unfold g_m_run_L86
    by_cases c : (l.length : Int) ≤ (k : Int)
    · have ek : k = l.length := by omega
      subst ek
      rw [if_pos c]
      unfold g_m_run_L145
      try dsimp +instances only
      have e22 : zu s 143 20 0 143 22 = -1 := (zu_i (by decide)).trans hs
      rw [if_neg (by rw [e22]; decide)]
      rw [List.drop_length]
      exact zP'.ret ⟨L, ct, ⟨rfl, rfl⟩, A, by omega, M.mv (by omega) (fun j _ _ => zu_a (by decide)) (fun j _ _ => zu_a (by decide))⟩
    · have hk' : k < l.length := by omega
      have okQ := ok l[k] (List.getElem_mem hk')
      obtain ⟨q1, q2, q3⟩ := hq k hk'
      rw [if_neg c, w32_id (x := 6 * (k : Int)) (by omega) (by omega), w32_id (x := 6 * (k : Int) + 1) (by omega) (by omega), s_copies (by omega) (by omega) (by omega) (by omega) (by omega) (by omega)]
      rw [Option.bind_some]
      try dsimp +instances only
      rw [if_pos (by omega), w32_id (x := 6 * (k : Int) + 5) (by omega) (by omega), if_pos (by omega)]
      generalize hs1 : zb s 152 0 (bxA s 161 (6 * (k : Int) + 1)) = s1
      have f1 : ∀ a j, a ≠ 152 → s1 a j = s a j := fun a j ha => by rw [← hs1]; exact zb_a ha
      have hb1 : bxA s1 152 0 = l[k].2.1 := by rw [← hs1, ← q2]; exact zb_bx rfl
      have h1 : MI s1 := MI_144 h (fun a j hh => f1 a j (by omega))
      have k1 : tpK σ s1 := kp.trans ⟨f1 143 20 (by decide), fun j => f1 159 j (by decide), fun j _ _ => f1 144 j (by decide), fun j _ _ => f1 147 j (by decide)⟩
      rw [f1 161 _ (by decide), f1 161 _ (by decide), q1, q3]
      obtain ⟨N, n1, n2, n3⟩ := h1.1
      have hp : plR s1 := fun r hr => h1.2.1.2.2.2.2.2.2 r hr
      have o71 : ok147 s1 := fun r hr => by
        rw [k1.2.2.2 _ (by omega) (by omega)]
        exact o7 r hr
      obtain ⟨t, N', e1, e2, e3, e4, e5, e6, e7, e8⟩ := t_askedQ hL hb k1 okQ n3 n2 n1 hb1 h1.2.1.2.1.1 h1.2.1.2.1.2 h1.2.1.1.1 hp o71
      have M1 : mSt s1 rn st L ct := M.mv (by omega) (fun j _ _ => f1 144 j (by decide)) (fun j _ _ => f1 147 j (by decide))
      have R1 : RI s1 L.length := R0.mv (by omega) (fun j _ _ => f1 144 j (by decide))
      have tso : ∀ u, frQ s1 u → tstOk u l[k].2.2.1 := fun u g => tst_ok (by rw [(k1.trans (tpK.Q g)).1]; exact hL) (by
        rcases okQ.2.2 with h | h
        · omega
        · omega)
      obtain ⟨L1, c1, w1, w2, w3, w4⟩ := t_askedR (x := l[k].1) (t := l[k].2.2.1) so R1 M1 L12 okQ.2.1 hb1 A (by omega) tso _ t e1
      rw [e1]
      rw [Option.bind_some]
      try dsimp +instances only
      rw [if_pos (by omega), w32_id (x := (k : Int) + 1) (by omega) (by omega)]
      have q : ∀ a j, (a < 143 ∨ 168 ≤ a ∨ a = 159 ∨ a = 161 ∨ a = 162 ∨ a = 166 ∨ a = 167 ∨ a = 145 ∨ a = 148 ∨ (a = 144 ∧ ((9 ≤ j ∧ j < 200) ∨ (260 ≤ j ∧ j < 340))) ∨ (a = 147 ∧ 1 ≤ j ∧ j < 61) ∨ (a = 143 ∧ (j = 6 ∨ j = 20 ∨ j = 27 ∨ j = 29 ∨ j = 32))) → t a j = s1 a j := fun a j hh => e7 a j (by omega) (by omega) (by omega) (by omega) (by omega) (by omega) (by omega) (by omega)
      have hH2 : HI t := HI_fr h1.2.1 (fun j hj => q 144 j (by omega)) e8
      have h2 : MI t := MI_q h1 ⟨N', e6, e5, e4⟩ hH2 (fun a j hh => q a j (by omega))
      generalize hv : valR (σ 144) (σ 147) l[k].2.1 l[k].2.2.2 l[k].1 = v
      have h3 : MI (zu t 162 (k : Int) v) := MI_144 h2 (fun a j hh => zu_a (by omega))
      have z : ∀ a j, a ≠ 162 → zu t 162 (k : Int) v a j = t a j := fun a j ha => zu_a (by omega)
      have L1b : L1.length ≤ 12 := by
        have := w4.1.1
        omega
      rw [show (k : Int) + 1 = ((k + 1 : Nat) : Int) by omega]
      refine (m_run86R so hl h0 hL hb ok o7 n (k + 1) _ L1 c1 (by omega) h3 (k1.trans ⟨?_, fun j => ?_, fun j j1 j2 => ?_, fun j j1 j2 => ?_⟩) ?_ ?_ (w4.mv (by omega) (fun j _ _ => z 144 j (by decide)) (fun j _ _ => z 147 j (by decide))) w2 (by omega)).imp (fun _ u g => ?_)
      · rw [z 143 20 (by decide)]
        exact q 143 20 (by omega)
      · rw [z 159 j (by decide)]
        exact q 159 j (by omega)
      · rw [z 144 j (by decide)]
        exact q 144 j (by omega)
      · rw [z 147 j (by decide)]
        exact q 147 j (by omega)
      · rw [z 143 22 (by decide), e3, f1 143 22 (by decide)]
        exact hs
      · intro i hi
        have g := hq i hi
        have e : ∀ j, zu t 162 (k : Int) v 161 j = s 161 j := fun j => (z 161 j (by decide)).trans ((q 161 j (by omega)).trans (f1 161 j (by decide)))
        have eb : bxA (zu t 162 (k : Int) v) 161 (6 * (i : Int) + 1) = bxA s 161 (6 * (i : Int) + 1) := by
          unfold bxA
          rw [e, e, e, e]
        rw [e, e, eb]
        exact g
      · obtain ⟨L', ct', g1, g2, g3, g4⟩ := g
        refine ⟨L', ct', ?_, g2, by omega, g4⟩
        rw [List.drop_eq_getElem_cons hk']
        exact ⟨L1, c1, w1, g1⟩
theorem m_runR {σ : zS} {rn : Bx → Int} {st : Int → Int} {L : List Rg} {ct : Int → Int} (so : stO1 st) (h : MI σ) (hb : tpR σ) (o7 : ok147 σ) (M : mSt σ rn st L ct) (A : asc L (ct 8)) (h8 : 0 ≤ ct 8 ∧ ct 8 ≤ 2000000) : zP' (g_m_run σ) (fun _ t => ∃ L' ct', runR rn st (runP (mev σ) (mT σ) (σ 143 20) 8 0 []) L ct L' ct' ∧ asc L' (ct' 8) ∧ (ct 8 ≤ ct' 8 ∧ ct' 8 ≤ ct 8 + 1352) ∧ mSt t rn st L' ct') := by
  have h20 := h.2.2.1.1
  obtain ⟨-, L12⟩ := RI_at M.1 h.1
  have ok := runP_ok (ev := mev σ) (f := mT σ) (L := σ 143 20) 8 0 [] (by decide) h20.1 rfl (fun Q hQ => absurd hQ List.not_mem_nil)
  unfold g_m_run g_m_begins
  rw [Option.bind_some]
  try dsimp +instances only
  have f3 : fr3 σ (zu (zu σ 143 21 0) 143 22 (-1)) := fun a j k2 => by rw [zu_c (by omega), zu_c (by omega)]
  have q21 : zu (zu σ 143 21 0) 143 22 (-1) 143 21 = 0 := by rw [zu_i (by omega), zu_e rfl]
  have q22 : zu (zu σ 143 21 0) 143 22 (-1) 143 22 = -1 := zu_e rfl
  generalize zu (zu σ 143 21 0) 143 22 (-1) = s1 at f3 q21 q22
  have e20 : s1 143 20 = σ 143 20 := f3 143 20 (by omega)
  have t1 : tpP s1 := by
    refine ⟨by rw [e20]; exact h20, by rw [e20, q21]; exact ⟨Int.le_refl 0, h20.1⟩, ?_⟩
    unfold tpR
    rw [e20]
    exact fun j j1 j2 => by rw [f3 159 j (Or.inl (by decide))]; exact hb j j1 j2
  refine m_runP (ev := mev σ) (σ0 := s1) zK 8 [] s1 t1 q22 rfl (by decide) (fun _ _ _ _ => rfl) (fun i hi => absurd hi (Nat.not_lt_zero _)) (fun r s f hr k => ?_)
  rw [mT_f f3, e20, q21] at hr
  have f : frQ2 σ s := (frQ2.of f3).trans f
  have hM := (MI_Q2 h f).1
  cases k with
  | zero => exact zP'.no
  | succ k =>
    unfold g_m_run_L8
    rw [if_pos rfl]
    cases e : runP (mev σ) (mT σ) (σ 143 20) 8 0 [] with
    | inl q =>
      rw [e] at hr
      have hr : s 143 22 = q := hr
      have bq := ok.1 q e
      try dsimp +instances only
      rw [if_pos (by omega)]
      unfold g_m_run_L145
      try dsimp +instances only
      have e22 : zu s 143 20 0 143 22 = q := (zu_i (by decide)).trans hr
      rw [e22, if_pos (by omega)]
      exact zP'.ret ⟨L, ct, ⟨rfl, rfl⟩, A, by omega, M.mv (by omega) (fun j _ _ => (zu_a (by decide)).trans (f 144 j (by decide) (by omega))) (fun j _ _ => (zu_a (by decide)).trans (f 147 j (by decide) (by omega)))⟩
    | inr l =>
      rw [e] at hr
      obtain ⟨rfl, h22, hq⟩ := hr
      obtain ⟨l8, l0, lq⟩ := ok.2 l e
      try dsimp +instances only
      rw [if_neg (by omega)]
      have z : ∀ a j, (a ≠ 143 ∨ j ≠ 27) → zu s 143 27 (l.length : Int) a j = s a j := fun a j hh => zu_c hh
      have kp : tpK σ (zu s 143 27 (l.length : Int)) := ⟨by rw [z 143 20 (by omega)]; exact f 143 20 (by decide) (by omega), fun j => by rw [z 159 j (by omega)]; exact f 159 j (by decide) (by omega), fun j _ _ => by rw [z 144 j (by omega)]; exact f 144 j (by decide) (by omega), fun j _ _ => by rw [z 147 j (by omega)]; exact f 147 j (by decide) (by omega)⟩
      have hM2 : MI (zu s 143 27 (l.length : Int)) := by
        refine ⟨NI_fr hM.1 (fun j _ => z 144 j (by omega)), HI_fr8 hM.2.1 (fun j _ _ => z 144 j (by omega)), ?_, II_fr hM.2.2.2 (z 143 6 (by omega)) (fun j => z 145 j (by omega))⟩
        obtain ⟨x1, x2, x3, x4, x5⟩ := hM.2.2.1
        refine ⟨by rw [z 143 20 (by omega)]; exact x1, by rw [zu_e rfl]; omega, by rw [z 143 29 (by omega)]; exact x3, by rw [z 143 32 (by omega)]; exact x4, fun k hk => ?_⟩
        rw [z 166 _ (by omega)]
        exact x5 k hk
      refine (m_run86R so l8 l0 h20 hb lq o7 zK 0 _ L ct (Nat.zero_le _) hM2 kp ((z 143 22 (by omega)).trans h22) (fun i hi => by
        have g := hq i hi
        have eb : bxA (zu s 143 27 (l.length : Int)) 161 (6 * (i : Int) + 1) = bxA s 161 (6 * (i : Int) + 1) := by
          unfold bxA
          rw [z 161 _ (by omega), z 161 _ (by omega), z 161 _ (by omega), z 161 _ (by omega)]
        rw [z 161 _ (by omega), z 161 _ (by omega), eb]
        exact g) (M.mv (by omega) (fun j _ _ => (z 144 j (by omega)).trans (f 144 j (by decide) (by omega))) (fun j _ _ => (z 147 j (by omega)).trans (f 147 j (by decide) (by omega)))) A (by omega)).imp (fun _ u g => ?_)
      obtain ⟨L', ct', g1, g2, g3, g4⟩ := g
      exact ⟨L', ct', g1, g2, by omega, g4⟩
theorem qr_run {K : Int} {σ : zS} (hK : K ≤ 2000000) (I : InvR K σ) : two (g_c_run σ) g_m_run (fun v w s => InvR (K + 2400) s ∧ v = w) := by
  obtain ⟨v, s1, e1, w, s2, e2, J, q⟩ := qd_run I.1
  refine ⟨v, s1, e1, w, s2, e2, ?_, q⟩
  obtain ⟨L, ct, C, M, hR, hk, A, B, hL⟩ := R_open I
  have so := R_st I
  have Bk : BK σ 41 144 147 := I.1.1.1.2.1
  obtain ⟨H1, G1, -⟩ := zO.at (g_c_run_sp I.1.ci) e1
  have ref := fr_ref G1
  have M1 : MI s1 := MI_cls I.1.mi ref
  have F := f_run M1 w s2 e2
  have cl : ∀ a j, a < 143 → s2 a j = s1 a j := fun a j h => F a j (Or.inl h)
  have ir : irE s1 s2 := fun a j k => F a j (by omega)
  have i1 := imE.of G1 (fun _ => ⟨rfl, rfl, rfl, rfl, rfl, rfl, rfl⟩)
  have sb : stB s1 50 := I.2.2.1.mv (fun j _ _ => G1 50 j (Or.inr rfl))
  have Mm := M.mv (s := s1) (by omega) (fun j _ _ => ref 144 j (by decide) (by decide)) (fun j _ _ => ref 147 j (by decide) (by decide))
  have hL0 : σ 120 1 = σ 143 20 := I.1.1.1.1.2.2.1
  have e159 : s1 159 = σ 159 := funext (fun j => ref 159 j (by decide) (by decide))
  have e144 : s1 144 = σ 144 := funext (fun j => ref 144 j (by decide) (by decide))
  have e147 : s1 147 = σ 147 := funext (fun j => ref 147 j (by decide) (by decide))
  have e20 : s1 143 20 = σ 143 20 := ref 143 20 (by decide) (by decide)
  have hTR : tpR s1 := by
    unfold tpR
    rw [e20, e159]
    exact I.1.1.2.m hL0
  have eT : mT s1 = cT σ := by
    rw [cT_mT hL0 I.1.1.2]
    unfold mT
    rw [e20, e159]
  have eE : mev s1 = mev σ := by
    funext l r
    unfold mev
    rw [e144, e147]
  obtain ⟨L1, c1, u1, u2⟩ := k_runR (I := inS σ 144) (ev := mev σ) so I.1.ci I.1.1.2.c I.1.rw.1 Bk.ok (RW_ev I.1.rw) (show VRg (rowsN σ) (σ 50) L ct σ from ⟨M, hR, hL, A⟩) (by omega) C v s1 e1
  obtain ⟨L2, c2, v1, v2, v3, v4⟩ := m_runR so M1 hTR (Bk.ok7 e147) Mm A (by omega) w s2 e2
  rw [eT, eE, e20, ← hL0] at v1
  obtain ⟨rfl, rfl⟩ := u1.det v1
  exact R_closeP J I.2 (by omega) i1 (rK.cls G1).ir cl ir u2 v4 v2 (by omega) sb (gL_run u1 (fun l el => have ok := (runP_ok (ev := mev σ) (f := cT σ) (L := σ 120 1) 8 0 [] (by decide) (by rw [hL0]; exact I.1.mi.2.2.1.1.1) rfl (fun Q hQ => absurd hQ List.not_mem_nil)).2 l el; ⟨ok.1, fun Q hQ => (ok.2.2 Q hQ).2.1.1⟩) so.2.1.2 hL (by omega) (R_g I M.1))
