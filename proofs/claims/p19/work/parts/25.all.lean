section
/-! 8s.probe -/
/-! THE REGIONS' answers alike: probe, and the pieces it lays -/
theorem bs_addN {a N : Nat} {L : List Bx} {b : Bx} {σ : zS} (hz : zLI (a + 1) = (N : Int)) (hN : N ≤ 10000) (h : bsR σ a L) (hL : L.length < N) : zP' (g_bs_add a (enc b) σ) (fun _ s => bsR s a (L ++ [b]) ∧ frBs a σ s) := by
  unfold g_bs_add
  try dsimp +instances only
  rw [h.1, hz, if_neg (by omega), if_pos (by omega), if_pos (by omega)]
  have e : zu σ (a + 1) (L.length : Int) (enc b) a 1 = (L.length : Int) := (zu_a (by omega)).trans h.1
  rw [e, w32_id (x := (L.length : Int) + 1) (by omega) (by omega)]
  refine zP'.ret ⟨⟨?_, fun k hk => ?_⟩, fun c j k1 k2 => by rw [zu_c (by omega), zu_a k1]⟩
  · rw [zu_e rfl, List.length_append]
    show (L.length : Int) + 1 = ((L.length + 1 : Nat) : Int)
    omega
  · rw [List.length_append] at hk
    have hk : k < L.length + 1 := hk
    rw [zu_a (by omega)]
    by_cases ck : k < L.length
    · rw [zu_i (by omega), List.getElem_append_left ck]
      exact h.2 k ck
    · have ek : k = L.length := by omega
      subst ek
      rw [zu_e rfl, List.getElem_append_right (Nat.le_refl _)]
      have e0 : ([b] : List Bx)[L.length - L.length]'(by rw [Nat.sub_self]; exact Nat.one_pos) = b := by simp
      rw [e0]
abbrev Pc : Type := Bx × Int
def cPc (σ : zS) (P : List Pc) : Prop := bsR σ 131 (P.map (fun p => p.1)) ∧ ∀ (k : Nat) (hk : k < P.length), σ 133 (k : Int) = P[k].2
def frPc (σ s : zS) : Prop := ∀ c j, c ≠ 132 → c ≠ 133 → (c ≠ 131 ∨ j ≠ 1) → s c j = σ c j
theorem frPc.trans {σ s t : zS} (h1 : frPc σ s) (h2 : frPc s t) : frPc σ t := fun c j a b d => (h2 c j a b d).trans (h1 c j a b d)
theorem app_at {α : Type} {P : List α} {x : α} {k : Nat} (hk : k < (P ++ [x]).length) : (P ++ [x])[k] = if h : k < P.length then P[k] else x := by
  by_cases c : k < P.length
  · rw [dif_pos c, List.getElem_append_left c]
  · rw [dif_neg c, List.getElem_append_right (by omega)]
    simp
theorem pc_add {P : List Pc} {b : Bx} {n : Int} {σ : zS} (h : cPc σ P) (hl : P.length < 181) : zP' (g_c_addPiece (enc b) n σ) (fun _ s => cPc s (P ++ [(b, n)]) ∧ frPc σ s) := by
  have hm : (P.map (fun p => p.1)).length = P.length := List.length_map _
  have e1 : σ 131 1 = (P.length : Int) := h.1.1.trans (by rw [hm])
  unfold g_c_addPiece
  try dsimp +instances only
  rw [e1, if_neg (by omega), if_pos (by omega)]
  unfold g_c_addPiece_L28
  have h' : bsR (zu σ 133 (P.length : Int) n) 131 (P.map (fun p => p.1)) := ⟨(zu_a (by decide)).trans h.1.1, fun k hk => (zu_a (by decide)).trans (h.1.2 k hk)⟩
  refine zP'.bind (bs_addN (b := b) (N := 181) rfl (by decide) h' (by rw [hm]; exact hl)) (fun _ s p => ?_)
  obtain ⟨p1, p2⟩ := p
  try dsimp +instances only
  refine zP'.ret ⟨⟨by rw [List.map_append]; exact p1, fun k hk => ?_⟩, fun c j k1 k2 k3 => (p2 c j k1 k3).trans (zu_a k2)⟩
  rw [p2 133 (k : Int) (by decide) (Or.inl (by decide)), app_at hk]
  have hk' : k < P.length + 1 := by
    rw [List.length_append] at hk
    exact hk
  by_cases c : k < P.length
  · rw [dif_pos c, zu_i (by omega)]
    exact h.2 k c
  · rw [dif_neg c, zu_e (by omega)]
theorem bsR.mvv {σ s : zS} {a : Nat} {M : List Bx} (h : bsR σ a M) (e : ∀ j, s a j = σ a j) (e' : ∀ j, s (a + 1) j = σ (a + 1) j) : bsR s a M := ⟨(e 1).trans h.1, fun k hk => (e' _).trans (h.2 k hk)⟩
def noP (b : Bx) : Pc := (b, -5)
theorem k_prb129 {M : List Bx} (hM : M.length ≤ 169) : ∀ (n k : Nat) (P : List Pc) (σ : zS), k ≤ M.length → bsR σ 56 M → cPc σ P → P.length + (M.length - k) ≤ 181 → zP' (g_c_probe_L129 n (k : Int) σ) (fun v s => cPc s (P ++ (M.drop k).map noP) ∧ v = ((P ++ (M.drop k).map noP).length : Int))
  | 0, _, _, _, _, _, _, _ => zP'.no
  | n + 1, k, P, σ, hk, hb, h, hl => by
    unfold g_c_probe_L129
    try dsimp +instances only
    rw [hb.1]
    by_cases ck : k = M.length
    · rw [if_pos (by omega), List.drop_of_length_le (by omega), List.map_nil, List.append_nil]
      have hm : (P.map (fun p => p.1)).length = P.length := List.length_map _
      exact zP'.ret ⟨h, h.1.1.trans (by rw [hm])⟩
    · have hk' : k < M.length := by omega
      rw [if_neg (by omega), bs_at (a := 56) rfl hb hM hk', Option.bind_some]
      try dsimp +instances only
      refine zP'.bind (pc_add (b := M[k]) (n := -5) h (by omega)) (fun _ s p => ?_)
      obtain ⟨p1, p2⟩ := p
      try dsimp +instances only
      rw [w32_id (x := (k : Int) + 1) (by omega) (by omega), show (k : Int) + 1 = ((k + 1 : Nat) : Int) by omega]
      have e : (M.drop k).map noP = (M[k], -5) :: (M.drop (k + 1)).map noP := by
        rw [List.drop_eq_getElem_cons hk', List.map_cons]
        rfl
      have e2 : P ++ (M.drop k).map noP = (P ++ [(M[k], -5)]) ++ (M.drop (k + 1)).map noP := by
        rw [e, List.append_assoc]
        rfl
      rw [e2]
      exact k_prb129 hM n (k + 1) _ s (by omega) (hb.mvv (fun j => p2 56 j (by decide) (by decide) (Or.inl (by decide))) (fun j => p2 57 j (by decide) (by decide) (Or.inl (by decide)))) p1 (by rw [List.length_append]; show P.length + 1 + _ ≤ 181; omega)
/-- what of a box the regions have -/
def hvO (q : Bx) (r : Rg) : List Pc := if bMt r.1 q then [(bCom r.1 q, r.2.2.1)] else []
theorem hvO_t {q : Bx} {r : Rg} (h : bMt r.1 q) : hvO q r = [(bCom r.1 q, r.2.2.1)] := if_pos h
theorem hvO_f {q : Bx} {r : Rg} (h : ¬ bMt r.1 q) : hvO q r = [] := if_neg h
def hvP (q : Bx) : List Rg → List Pc
  | [] => []
  | r :: L => hvO q r ++ hvP q L
theorem hvP_le (q : Bx) : ∀ L : List Rg, (hvP q L).length ≤ L.length
  | [] => Nat.le_refl 0
  | r :: L => by
    have h := hvP_le q L
    have e : (hvP q (r :: L)).length = (hvO q r).length + (hvP q L).length := List.length_append
    rw [e, List.length_cons]
    by_cases c : bMt r.1 q
    · rw [hvO_t c]
      show 1 + _ ≤ _
      omega
    · rw [hvO_f c]
      show 0 + _ ≤ _
      omega
def prbP (q : Bx) (L : List Rg) : List Pc := hvP q L ++ (bMissAll q (L.map (fun r => r.1))).map noP
theorem k_prb35 {q : Bx} {L : List Rg} (hq : bOk q) (hb : ∀ r ∈ L, bOk r.1) (hw : (L.map (fun r => r.1)).Pairwise (fun a b => ¬ bMt a b)) (hL : L.length ≤ 12) : ∀ (n k : Nat) (P : List Pc) (σ : zS), k ≤ L.length → cRs σ 48 L → cPc σ P → P.length ≤ k → zP' (g_c_probe_L35 n (enc q) (k : Int) σ) (fun v s => cPc s (P ++ (hvP q (L.drop k) ++ (bMissAll q (L.map (fun r => r.1))).map noP)) ∧ v = ((P ++ (hvP q (L.drop k) ++ (bMissAll q (L.map (fun r => r.1))).map noP)).length : Int))
  | 0, _, _, _, _, _, _, _ => zP'.no
  | n + 1, k, P, σ, hk, hc, h, hp => by
    unfold g_c_probe_L35
    try dsimp +instances only
    rw [hc.1]
    have hbm : ∀ r ∈ L.map (fun r => r.1), bOk r := fun r hr => by
      obtain ⟨x, hx, rfl⟩ := List.mem_map.mp hr
      exact hb x hx
    by_cases ck : k = L.length
    · rw [if_pos (by omega), List.drop_of_length_le (by omega)]
      refine zP'.bind (c_missingOf (Or.inl rfl) hq hb hw hL hc) (fun _ s p => ?_)
      obtain ⟨p1, p2⟩ := p
      have h169 := bMissAll_169 hq hbm hw (by rw [List.length_map]; exact hL)
      have h1 : cPc s P := ⟨h.1.mvv (fun j => p2 131 j (by decide)) (fun j => p2 132 j (by decide)), fun k hk => (p2 133 _ (by decide)).trans (h.2 k hk)⟩
      exact k_prb129 h169 zK 0 P s (Nat.zero_le _) p1 h1 (by omega)
    · have hk' : k < L.length := by omega
      have ok := hb _ (List.getElem_mem hk')
      have x1 : σ 52 (k : Int) = enc L[k].1 := (hc.2 k hk').1
      have x3 : σ 51 (k : Int) = L[k].2.2.1 := (hc.2 k hk').2.2.1
      have k181 : 0 ≤ (k : Int) ∧ (k : Int) < 181 := by omega
      have e : hvP q (L.drop k) = hvO q L[k] ++ hvP q (L.drop (k + 1)) := by
        rw [List.drop_eq_getElem_cons hk']
        rfl
      rw [if_neg (by omega), if_pos k181, x1, c_meet ok hq, Option.bind_some, e]
      try dsimp +instances only
      by_cases c : bMt L[k].1 q
      · rw [if_pos c, if_neg (show ¬ (1 : Int) = 0 by decide), if_pos k181, x1, ← encH_ok ok, c_common (Or.inr ok) hq, if_pos ⟨by have := ok.n; omega, c⟩, Option.bind_some, if_pos k181]
        try dsimp +instances only
        rw [x3]
        refine zP'.bind (pc_add (b := bCom L[k].1 q) (n := L[k].2.2.1) h (by omega)) (fun _ s p => ?_)
        obtain ⟨p1, p2⟩ := p
        unfold g_c_probe_L106
        try dsimp +instances only
        rw [w32_id (x := (k : Int) + 1) (by omega) (by omega), show (k : Int) + 1 = ((k + 1 : Nat) : Int) by omega]
        have e2 : P ++ ([(bCom L[k].1 q, L[k].2.2.1)] ++ hvP q (L.drop (k + 1)) ++ (bMissAll q (L.map (fun r => r.1))).map noP) = (P ++ [(bCom L[k].1 q, L[k].2.2.1)]) ++ (hvP q (L.drop (k + 1)) ++ (bMissAll q (L.map (fun r => r.1))).map noP) := by
          rw [List.append_assoc, List.append_assoc]
        rw [hvO_t c, e2]
        exact k_prb35 hq hb hw hL n (k + 1) _ s (by omega) (cRs_mv hc (fun c j x => p2 c j (by omega) (by omega) (Or.inl (by omega)))) p1 (by rw [List.length_append]; show P.length + 1 ≤ _; omega)
      · rw [if_neg c, if_pos rfl]
        unfold g_c_probe_L106
        try dsimp +instances only
        rw [w32_id (x := (k : Int) + 1) (by omega) (by omega), show (k : Int) + 1 = ((k + 1 : Nat) : Int) by omega, hvO_f c, List.nil_append]
        exact k_prb35 hq hb hw hL n (k + 1) P σ (by omega) hc h (by omega)
theorem k_probeR {σ : zS} {L : List Rg} {a b c d : Int} (C : cRs σ 48 L) (hL : L.length ≤ 12) (hk : ∀ r ∈ L, hOk r) (hw : (L.map (fun r => r.1)).Pairwise (fun a b => ¬ bMt a b)) : zP' (g_c_probe a b c d σ) (fun v s => (bOk (a, b, c, d) → cPc s (prbP (a, b, c, d) L) ∧ v = ((prbP (a, b, c, d) L).length : Int)) ∧ (¬ bOk (a, b, c, d) → v = -2 ∧ s = σ)) := by
  unfold g_c_probe
  by_cases ok : bOk (a, b, c, d)
  · rw [p_isBox, if_pos ok, Option.bind_some]
    try dsimp +instances only
    have e := b_of (b := (a, b, c, d)) ok.s σ
    have e : g_b_of a b c d σ = some (enc (a, b, c, d), σ) := e
    rw [if_pos (by decide), e, Option.bind_some]
    try dsimp +instances only
    have z : ∀ x j, (x ≠ 131 ∨ j ≠ 1) → zu σ 131 1 0 x j = σ x j := fun x j k => zu_c k
    exact (k_prb35 (q := (a, b, c, d)) ok (fun r hr => (hk r hr).1) hw hL zK 0 [] _ (Nat.zero_le _) (cRs_mv C (fun x j k => z x j (Or.inl (by omega)))) ⟨⟨zu_e rfl, fun k hk => absurd hk (Nat.not_lt_zero _)⟩, fun k hk => absurd hk (Nat.not_lt_zero _)⟩ (Nat.le_refl 0)).imp (fun v s p => ⟨fun _ => p, fun h => absurd ok h⟩)
  · rw [p_isBox, if_neg ok, Option.bind_some]
    try dsimp +instances only
    rw [if_neg (by decide)]
    exact zP'.ret ⟨fun h => absurd h ok, fun _ => ⟨rfl, rfl⟩⟩
/-! the reference -/
def mPc (σ : zS) (P : List Pc) : Prop := σ 143 32 = (P.length : Int) ∧ ∀ (k : Nat) (hk : k < P.length), bxA σ 165 (5 * (k : Int)) = P[k].1 ∧ σ 165 (5 * (k : Int) + 4) = P[k].2
theorem mP_add {P : List Pc} {b : Bx} {n v : Int} {σ : zS} (h : mPc σ P) (hv : v = (P.length : Int) + 1) : mPc (zu (zu (zb σ 165 (5 * (P.length : Int)) b) 165 (5 * (P.length : Int) + 4) n) 143 32 v) (P ++ [(b, n)]) := by
  refine ⟨?_, fun k hk => ?_⟩
  · rw [zu_e rfl, hv, List.length_append]
    show (P.length : Int) + 1 = ((P.length + 1 : Nat) : Int)
    omega
  · rw [zu_bxa (by decide), zu_a (by decide), app_at hk]
    have hk' : k < P.length + 1 := by
      rw [List.length_append] at hk
      exact hk
    by_cases c : k < P.length
    · rw [dif_pos c, zu_bxi (by omega), zb_bxi (by omega), zu_i (by omega), zb_i (by omega)]
      exact h.2 k c
    · rw [dif_neg c, zu_bxi (by omega), zb_bx (by omega), zu_e (by omega)]
      exact ⟨rfl, rfl⟩
theorem t_prb145 {M : List Bx} (hM : M.length ≤ 169) : ∀ (n k : Nat) (P : List Pc) (σ : zS), k ≤ M.length → σ 143 10 = (M.length : Int) → lstA σ 150 M.length = M → mPc σ P → P.length + (M.length - k) ≤ 181 → zP' (g_m_probe_L145 n (k : Int) σ) (fun v s => mPc s (P ++ (M.drop k).map noP) ∧ v = ((P ++ (M.drop k).map noP).length : Int))
  | 0, _, _, _, _, _, _, _, _ => zP'.no
  | n + 1, k, P, σ, hk, h10, hb, h, hl => by
    have l150 : zLI 150 = 2400 := rfl
    have l165 : zLI 165 = 3000 := rfl
    unfold g_m_probe_L145
    try dsimp +instances only
    rw [h10]
    by_cases ck : k = M.length
    · rw [if_pos (by omega), List.drop_of_length_le (by omega), List.map_nil, List.append_nil]
      exact zP'.ret ⟨h, h.1⟩
    · have hk' : k < M.length := by omega
      have x : bxA σ 150 (4 * (k : Int)) = M[k] := by
        have g := lstA_get (σ := σ) (a := 150) hk'
        rw [hb, List.getElem?_eq_getElem hk'] at g
        exact (Option.some.inj g).symm
      have z1 : ∀ x j, (x ≠ 165) → zb σ 165 (5 * (P.length : Int)) M[k] x j = σ x j := fun x j k => zb_a k
      rw [if_neg (by omega), h.1, w32_id (x := 4 * (k : Int)) (by omega) (by omega), w32_id (x := 5 * (P.length : Int)) (by omega) (by omega), s_copies (by omega) (by omega) (by omega) (by omega) (by omega) (by omega), Option.bind_some, x]
      try dsimp +instances only
      rw [z1 143 32 (by decide), h.1, w32_id (x := 5 * (P.length : Int)) (by omega) (by omega), w32_id (x := 5 * (P.length : Int) + 4) (by omega) (by omega), if_pos (by omega), zu_a (by decide), z1 143 32 (by decide), h.1, w32_id (x := (P.length : Int) + 1) (by omega) (by omega), w32_id (x := (k : Int) + 1) (by omega) (by omega), show (k : Int) + 1 = ((k + 1 : Nat) : Int) by omega]
      have e : (M.drop k).map noP = (M[k], -5) :: (M.drop (k + 1)).map noP := by
        rw [List.drop_eq_getElem_cons hk', List.map_cons]
        rfl
      have e2 : P ++ (M.drop k).map noP = (P ++ [(M[k], -5)]) ++ (M.drop (k + 1)).map noP := by
        rw [e, List.append_assoc]
        rfl
      rw [e2]
      refine t_prb145 hM n (k + 1) _ _ (by omega) ?_ ?_ (mP_add h rfl) (by rw [List.length_append]; show P.length + 1 + _ ≤ 181; omega)
      · rw [zu_i (by decide), zu_a (by decide), z1 143 10 (by decide)]
        exact h10
      · refine (lstA_ext (fun i hi => ?_))
        have g := lstA_get (σ := σ) (a := 150) hi
        rw [hb, List.getElem?_eq_getElem hi] at g
        rw [zu_bxa (by decide), zu_bxa (by decide), zb_bxa (by decide)]
        exact (Option.some.inj g).symm
theorem t_prb39 {q : Bx} {L : List Rg} {M : List Bx} (hL : L.length ≤ 12) (hM : M.length ≤ 169) : ∀ (n k : Nat) (P : List Pc) (σ : zS), k ≤ L.length → mRs σ L → bxA σ 152 0 = q → σ 143 10 = (M.length : Int) → lstA σ 150 M.length = M → mPc σ P → P.length ≤ k → zP' (g_m_probe_L39 n (k : Int) σ) (fun v s => mPc s (P ++ (hvP q (L.drop k) ++ M.map noP)) ∧ v = ((P ++ (hvP q (L.drop k) ++ M.map noP)).length : Int))
  | 0, _, _, _, _, _, _, _, _, _, _ => zP'.no
  | n + 1, k, P, σ, hk, hr, hbx, h10, hb, h, hp => by
    have l144 : zLI 144 = 2740 := rfl
    have l152 : zLI 152 = 4 := rfl
    have l165 : zLI 165 = 3000 := rfl
    unfold g_m_probe_L39
    try dsimp +instances only
    rw [hr.1]
    by_cases ck : k = L.length
    · rw [if_pos (by omega), List.drop_of_length_le (by omega)]
      exact t_prb145 hM zK 0 P σ (Nat.zero_le _) h10 hb h (by omega)
    · have hk' : k < L.length := by omega
      have x := hr.2 k hk'
      have x1 : bxA σ 144 (340 + 10 * (k : Int)) = L[k].1 := congrArg (fun r : Rg => r.1) x
      have x3 : σ 144 (348 + 10 * (k : Int)) = L[k].2.2.1 := congrArg (fun r : Rg => r.2.2.1) x
      have e : hvP q (L.drop k) = hvO q L[k] ++ hvP q (L.drop (k + 1)) := by
        rw [List.drop_eq_getElem_cons hk']
        rfl
      rw [if_neg (by omega), s_region (by omega) (by omega), Option.bind_some]
      try dsimp +instances only
      rw [s_doMeet (by omega) (by omega) (by omega) (by omega) (by omega) (by omega), Option.bind_some, x1, hbx, e]
      try dsimp +instances only
      by_cases c : bMt L[k].1 q
      · have z1 : ∀ x j, (x ≠ 165) → zb σ 165 (5 * (P.length : Int)) (bCom L[k].1 q) x j = σ x j := fun x j k => zb_a k
        rw [if_pos c, if_pos (by decide), s_region (by omega) (by omega), Option.bind_some]
        try dsimp +instances only
        rw [h.1, w32_id (x := 5 * (P.length : Int)) (by omega) (by omega), s_commons (by omega) (by omega) (by omega) (by omega) (by omega) (by omega) (by omega) (by omega) (by omega), Option.bind_some, x1, hbx]
        try dsimp +instances only
        rw [z1 143 32 (by decide), h.1, s_region (by omega) (by omega), Option.bind_some]
        try dsimp +instances only
        rw [w32_id (x := 340 + 10 * (k : Int) + 8) (by omega) (by omega), if_pos (by omega), w32_id (x := 5 * (P.length : Int)) (by omega) (by omega), w32_id (x := 5 * (P.length : Int) + 4) (by omega) (by omega), if_pos (by omega), z1 144 _ (by decide), show 340 + 10 * (k : Int) + 8 = 348 + 10 * (k : Int) by omega, x3, zu_a (by decide), z1 143 32 (by decide), h.1, w32_id (x := (P.length : Int) + 1) (by omega) (by omega)]
        unfold g_m_probe_L136
        try dsimp +instances only
        rw [w32_id (x := (k : Int) + 1) (by omega) (by omega), show (k : Int) + 1 = ((k + 1 : Nat) : Int) by omega]
        have e2 : P ++ ([(bCom L[k].1 q, L[k].2.2.1)] ++ hvP q (L.drop (k + 1)) ++ M.map noP) = (P ++ [(bCom L[k].1 q, L[k].2.2.1)]) ++ (hvP q (L.drop (k + 1)) ++ M.map noP) := by
          rw [List.append_assoc, List.append_assoc]
        rw [hvO_t c, e2]
        have zz : ∀ x j, x ≠ 165 → (x ≠ 143 ∨ j ≠ 32) → zu (zu (zb σ 165 (5 * (P.length : Int)) (bCom L[k].1 q)) 165 (5 * (P.length : Int) + 4) L[k].2.2.1) 143 32 ((P.length : Int) + 1) x j = σ x j := fun x j k1 k2 => by rw [zu_c k2, zu_a k1, z1 x j k1]
        refine t_prb39 hL hM n (k + 1) _ _ (by omega) (hr.mv (fun j _ => zz 144 j (by decide) (Or.inl (by decide))) (fun j _ _ => zz 147 j (by decide) (Or.inl (by decide))) (by omega)) ?_ ((zz 143 10 (by decide) (Or.inr (by decide))).trans h10) ?_ (mP_add h rfl) (by rw [List.length_append]; show P.length + 1 ≤ _; omega)
        · rw [zu_bxa (by decide), zu_bxa (by decide), zb_bxa (by decide)]
          exact hbx
        · refine (lstA_ext (fun i hi => ?_))
          have g := lstA_get (σ := σ) (a := 150) hi
          rw [hb, List.getElem?_eq_getElem hi] at g
          rw [zu_bxa (by decide), zu_bxa (by decide), zb_bxa (by decide)]
          exact (Option.some.inj g).symm
      · rw [if_neg c, if_neg (by decide)]
        unfold g_m_probe_L136
        try dsimp +instances only
        rw [w32_id (x := (k : Int) + 1) (by omega) (by omega), show (k : Int) + 1 = ((k + 1 : Nat) : Int) by omega, hvO_f c, List.nil_append]
        exact t_prb39 hL hM n (k + 1) P σ (by omega) hr hbx h10 hb h (by omega)
theorem rbx_eq {σ : zS} {L : List Rg} (h : mRs σ L) : rbx σ L.length = L.map (fun r => r.1) := by
  refine List.ext_getElem (by rw [rbx_len, List.length_map]) (fun i h1 h2 => ?_)
  rw [rbx_len] at h1
  have e := rbx_get (σ := σ) (n := L.length) (k := i) h1
  rw [List.getElem?_eq_getElem (by rw [rbx_len]; exact h1)] at e
  rw [Option.some.inj e, List.getElem_map, ← h.2 i h1]
  rfl
theorem t_probeR {σ : zS} {L : List Rg} {a b c d : Int} (h : mRs σ L) (hR : RI σ L.length) (hL : L.length ≤ 12) : zP' (g_m_probe a b c d σ) (fun v s => (bOk (a, b, c, d) → mPc s (prbP (a, b, c, d) L) ∧ v = ((prbP (a, b, c, d) L).length : Int)) ∧ (¬ bOk (a, b, c, d) → v = -2 ∧ s = σ)) := by
  unfold g_m_probe
  by_cases ok : bOk (a, b, c, d)
  · rw [s_isBox_t ok, Option.bind_some]
    try dsimp +instances only
    have l152 : zLI 152 = 4 := rfl
    rw [if_pos (by decide), s_sets (by omega) (by omega) (by omega), Option.bind_some]
    try dsimp +instances only
    have h1 : mRs (zb σ 152 0 (a, b, c, d)) L := h.mv (fun j _ => zb_a (by decide)) (fun j _ _ => zb_a (by decide)) (by omega)
    have R1 : RI (zb σ 152 0 (a, b, c, d)) L.length := hR.mv (by omega) (fun j _ _ => zb_a (by decide))
    have hbx : bxA (zb σ 152 0 (a, b, c, d)) 152 0 = (a, b, c, d) := zb_bx rfl
    obtain ⟨r1, r2⟩ := RI_rbx R1
    obtain ⟨s1, m1, m2, m3, m4⟩ := s_misses (σ := zb σ 152 0 (a, b, c, d)) (q := (a, b, c, d)) (rs := rbx (zb σ 152 0 (a, b, c, d)) L.length) ok hbx r1 r2 (by rw [rbx_len]; exact hL) (by rw [rbx_len]; exact h1.1) (by rw [rbx_len])
    have h169 := bMissAll_169 ok r1 r2 (by rw [rbx_len]; exact hL)
    rw [rbx_eq h1] at m3 m4 h169
    rw [m1, Option.bind_some]
    try dsimp +instances only
    have z : ∀ x j, x ≠ 150 → x ≠ 151 → x ≠ 143 → zu s1 143 32 0 x j = zb σ 152 0 (a, b, c, d) x j := fun x j k1 k2 k3 => (zu_a k3).trans (m2 x j k1 k2 (Or.inl k3))
    refine (t_prb39 (q := (a, b, c, d)) hL h169 zK 0 [] _ (Nat.zero_le _) (h1.mv (fun j _ => z 144 j (by decide) (by decide) (by decide)) (fun j _ _ => z 147 j (by decide) (by decide) (by decide)) (by omega)) ?_ ((zu_i (by decide)).trans m3) ?_ ⟨zu_e rfl, fun k hk => absurd hk (Nat.not_lt_zero _)⟩ (Nat.le_refl 0)).imp (fun v s p => ⟨fun _ => p, fun h => absurd ok h⟩)
    · rw [zu_bxa (by decide), frM_bx m2 (by decide) (by decide) (by decide)]
      exact hbx
    · refine (lstA_ext (fun i hi => ?_))
      have g := lstA_get (σ := s1) (a := 150) hi
      rw [m4, List.getElem?_eq_getElem hi] at g
      rw [zu_bxa (by decide)]
      exact (Option.some.inj g).symm
  · rw [s_isBox_f ok, Option.bind_some]
    try dsimp +instances only
    rw [if_neg (by decide)]
    exact zP'.ret ⟨fun h => absurd h ok, fun _ => ⟨rfl, rfl⟩⟩
theorem qu_probe {K : Int} {a b c d : Int} {σ : zS} (I : InvR K σ) : two (g_c_probe a b c d σ) (g_m_probe a b c d) (fun v w s => InvR K s ∧ v = w) := by
  obtain ⟨v, s1, e1, w, s2, e2, J⟩ := qr_probe (a := a) (b := b) (c := c) (d := d) I
  refine ⟨v, s1, e1, w, s2, e2, J, ?_⟩
  obtain ⟨L, ct, C, M, hR, hk, A, B, hL⟩ := R_open I
  obtain ⟨H1, G1, -⟩ := zO.at (g_c_probe_sp I.1.ci) e1
  have ref := fr_ref G1
  have Mm := M.mv (s := s1) (by omega) (fun j _ _ => ref 144 j (by decide) (by decide)) (fun j _ _ => ref 147 j (by decide) (by decide))
  have Rm := hR.mv (s := s1) (by omega) (fun j _ _ => ref 144 j (by decide) (by decide))
  obtain ⟨p1, p2⟩ := k_probeR (a := a) (b := b) (c := c) (d := d) C.1 hL hk (pw_of M.1 hR) v s1 e1
  obtain ⟨r1, r2⟩ := t_probeR (a := a) (b := b) (c := c) (d := d) Mm.1 Rm hL w s2 e2
  by_cases ok : bOk (a, b, c, d)
  · rw [(p1 ok).2, (r1 ok).2]
  · rw [(p2 ok).1, (r2 ok).1]
end
section
/-! 8t.pieceC -/
/-! THE PIECES between the calls alike -/
def PCe (σ : zS) : Prop := ∃ P : List Pc, cPc σ P ∧ mPc σ P ∧ P.length ≤ 181 ∧ ∀ p ∈ P, bOk p.1
theorem PCe_keep {σ s : zS} (h : PCe σ) (e : ∀ a j, ((a = 131 ∧ j = 1) ∨ (a = 132) ∨ (a = 133) ∨ (a = 143 ∧ j = 32) ∨ a = 165) → s a j = σ a j) : PCe s := by
  obtain ⟨P, h1, h2, h3, h4⟩ := h
  refine ⟨P, ⟨⟨(e 131 1 (by omega)).trans h1.1.1, fun k hk => (e 132 _ (by omega)).trans (h1.1.2 k hk)⟩, fun k hk => (e 133 _ (by omega)).trans (h1.2 k hk)⟩, ⟨(e 143 32 (by omega)).trans h2.1, fun k hk => ?_⟩, h3, h4⟩
  have g := h2.2 k hk
  unfold bxA at *
  rw [e 165 _ (by omega), e 165 _ (by omega), e 165 _ (by omega), e 165 _ (by omega), e 165 _ (by omega)]
  exact g
def pcV (P : List Pc) (a b : Int) : Int := if h : (0 ≤ a ∧ a < (P.length : Int)) ∧ 0 ≤ b ∧ b ≤ 4 then (if b < 4 then bSd (P[a.toNat]'(by omega)).1 b else (P[a.toNat]'(by omega)).2) else -1
theorem k_piece {σ : zS} {P : List Pc} {a b : Int} (h : cPc σ P) (hl : P.length ≤ 181) (ok : ∀ p ∈ P, bOk p.1) : zP' (g_c_piece a b σ) (fun v s => s = σ ∧ v = pcV P a b) := by
  have hm : (P.map (fun p => p.1)).length = P.length := List.length_map _
  have e1 : σ 131 1 = (P.length : Int) := h.1.1.trans (by rw [hm])
  unfold g_c_piece pcV
  try dsimp +instances only
  rw [e1]
  by_cases c : 0 ≤ a ∧ a < (P.length : Int)
  · obtain ⟨k, rfl⟩ : ∃ k : Nat, a = (k : Int) := ⟨a.toNat, by omega⟩
    have hk : k < P.length := by omega
    rw [if_neg (by omega), if_neg (by omega)]
    by_cases d0 : b < 0
    · rw [if_pos d0, dif_neg (by omega)]
      exact zP'.ret ⟨rfl, rfl⟩
    rw [if_neg d0]
    by_cases d1 : b ≤ 4
    case neg =>
      rw [if_neg d1, dif_neg (by omega)]
      exact zP'.ret ⟨rfl, rfl⟩
    rw [if_pos d1, dif_pos (show ((0 ≤ (k : Int) ∧ (k : Int) < (P.length : Int)) ∧ 0 ≤ b ∧ b ≤ 4) by omega)]
    by_cases d2 : 4 ≤ b
    · rw [if_pos d2, if_pos (by omega), if_neg (by omega)]
      exact zP'.ret ⟨rfl, h.2 k hk⟩
    · have z : zLI (131 + 1) = 181 := rfl
      have x : σ (131 + 1) (k : Int) = enc P[k].1 := by
        rw [h.1.2 k (by rw [hm]; exact hk), List.getElem_map]
      rw [if_neg d2, p_at (a := 131) (by omega) (by rw [e1]; omega) (by rw [z]; omega), Option.bind_some, x]
      try dsimp +instances only
      rw [p_side (ok _ (List.getElem_mem hk)).s (by omega), Option.bind_some, if_pos (by omega)]
      exact zP'.ret ⟨rfl, rfl⟩
  · rw [dif_neg (fun h => c h.1)]
    by_cases d : a < 0
    · rw [if_pos d]
      exact zP'.ret ⟨rfl, rfl⟩
    · rw [if_neg d, if_pos (by omega)]
      exact zP'.ret ⟨rfl, rfl⟩
theorem t_piece {σ : zS} {P : List Pc} {a b : Int} (h : mPc σ P) (hl : P.length ≤ 181) : zP' (g_m_piece a b σ) (fun v s => s = σ ∧ v = pcV P a b) := by
  unfold g_m_piece pcV
  try dsimp +instances only
  rw [h.1, w32_id (x := (P.length : Int) - 1) (by omega) (by omega)]
  by_cases c : 0 ≤ a ∧ a < (P.length : Int)
  · obtain ⟨k, rfl⟩ : ∃ k : Nat, a = (k : Int) := ⟨a.toNat, by omega⟩
    have hk : k < P.length := by omega
    obtain ⟨x1, x2⟩ := h.2 k hk
    rw [s_isIn_t (by omega) (by omega), Option.bind_some]
    try dsimp +instances only
    rw [if_neg (by decide)]
    by_cases d1 : 0 ≤ b ∧ b ≤ 4
    case neg =>
      rw [s_isIn_f (by omega), Option.bind_some]
      try dsimp +instances only
      rw [if_pos rfl, dif_neg (fun h => d1 h.2)]
      exact zP'.ret ⟨rfl, rfl⟩
    rw [s_isIn_t d1.1 d1.2, Option.bind_some]
    try dsimp +instances only
    rw [if_neg (by decide), w32_id (x := 5 * (k : Int)) (by omega) (by omega), w32_id (x := 5 * (k : Int) + b) (by omega) (by omega), if_pos (by omega), dif_pos (show ((0 ≤ (k : Int) ∧ (k : Int) < (P.length : Int)) ∧ 0 ≤ b ∧ b ≤ 4) by omega)]
    by_cases d2 : b < 4
    · rw [if_pos d2]
      refine zP'.ret ⟨rfl, ?_⟩
      show σ 165 (5 * (k : Int) + b) = bSd P[k].1 b
      rw [← x1]
      exact bxA_sd (by omega)
    · have hb4 : b = 4 := by omega
      rw [if_neg d2]
      refine zP'.ret ⟨rfl, ?_⟩
      show σ 165 (5 * (k : Int) + b) = P[k].2
      rw [hb4]
      exact x2
  · rw [s_isIn_f (by omega), Option.bind_some]
    try dsimp +instances only
    rw [if_pos rfl, dif_neg (fun h => c h.1)]
    exact zP'.ret ⟨rfl, rfl⟩
theorem bCom_1 {a b : Bx} (ha : bOk a) (hb : bOk b) (h : bMt a b) : bOk (bCom a b) := (bCom_ok ha hb h).1
theorem hvP_ok {q : Bx} (hq : bOk q) : ∀ L : List Rg, (∀ r ∈ L, bOk r.1) → ∀ p ∈ hvP q L, bOk p.1
  | [], _, p, hp => absurd hp List.not_mem_nil
  | r :: L, hL, p, hp => by
    have hp : p ∈ hvO q r ++ hvP q L := hp
    rcases List.mem_append.mp hp with k | k
    · by_cases c : bMt r.1 q
      · rw [hvO_t c] at k
        rw [List.mem_singleton.mp k]
        exact bCom_1 (hL r List.mem_cons_self) hq c
      · rw [hvO_f c] at k
        exact absurd k List.not_mem_nil
    · exact hvP_ok hq L (fun r hr => hL r (List.mem_cons_of_mem _ hr)) p k
theorem prbP_ok {q : Bx} {L : List Rg} (hq : bOk q) (hb : ∀ r ∈ L, bOk r.1) (hw : (L.map (fun r => r.1)).Pairwise (fun a b => ¬ bMt a b)) (hL : L.length ≤ 12) : (prbP q L).length ≤ 181 ∧ ∀ p ∈ prbP q L, bOk p.1 := by
  have hbm : ∀ r ∈ L.map (fun r => r.1), bOk r := fun r hr => by
    obtain ⟨x, hx, rfl⟩ := List.mem_map.mp hr
    exact hb x hx
  have h169 := bMissAll_169 hq hbm hw (by rw [List.length_map]; exact hL)
  have hinv := (bMissAll_inv hq _ hbm hw).1
  refine ⟨?_, fun p hp => ?_⟩
  · unfold prbP
    rw [List.length_append, List.length_map]
    have := hvP_le q L
    omega
  · rcases List.mem_append.mp hp with k | k
    · exact hvP_ok hq L hb p k
    · obtain ⟨x, hx, rfl⟩ := List.mem_map.mp k
      exact (hinv.1 x hx).1
end
section
/-! 8tz.run6 -/
/-! A WIDER FRAME of run() (printed by wip/zf2.py) -/
def frT6 (σ s : zS) : Prop := ∀ a j, (a < 143 ∨ 168 ≤ a ∨ a = 159 ∨ (163 ≤ a ∧ a ≤ 167) ∨ a = 145 ∨ a = 148 ∨ (a = 144 ∧ ((9 ≤ j ∧ j < 200) ∨ (260 ≤ j ∧ j < 340))) ∨ (a = 147 ∧ 1 ≤ j ∧ j < 61) ∨ (a = 143 ∧ (j = 6 ∨ j = 29 ∨ j = 32))) → s a j = σ a j
theorem y_MI_z20 {σ0 s : zS} (h : MI s) (f : frT6 σ0 s) : MI (zu s 143 20 0) ∧ zu s 143 20 0 143 20 = 0 ∧ frT6 σ0 (zu s 143 20 0) := by
  obtain ⟨s', e1, e2, e3, e4⟩ := m_clear h
  have q : s' = zu s 143 20 0 := by
    unfold g_m_clear at e1
    injection e1 with e1
    exact (congrArg Prod.snd e1).symm
  subst q
  exact ⟨e2, e3, fun a j hh => (e4 a j (by omega)).trans (f a j hh)⟩
theorem y_s_run145 {σ0 s : zS} {x : Int} (h : MI s) (f : frT6 σ0 s) : ∃ c s', g_m_run_L145 x s = some (c, s') ∧ MI s' ∧ s' 143 20 = 0 ∧ frT6 σ0 s' := by
  have e := y_MI_z20 h f
  unfold g_m_run_L145
  dsimp only
  split
  · exact ⟨_, _, rfl, e⟩
  · exact ⟨_, _, rfl, e⟩
theorem y_s_run86 {σ0 : zS} {K : Nat} (hK : K ≤ 8) : ∀ (d k n : Nat) (s : zS), k + d = K → d < n → MI s → frT6 σ0 s → (∀ t : Nat, t < K → qOk s t) → ∃ c s', g_m_run_L86 n (K : Int) (k : Int) s = some (c, s') ∧ MI s' ∧ s' 143 20 = 0 ∧ frT6 σ0 s'
  | _, _, 0, _, _, h, _, _, _ => absurd h (Nat.not_lt_zero _)
  | 0, k, n + 1, s, hk, _, h, f, _ => by
    unfold g_m_run_L86
    rw [if_pos (by omega)]
    exact y_s_run145 h f
  | d + 1, k, n + 1, s, hk, hn, h, f, hq => by
    have l161 : zLI 161 = 48 := rfl
    have l152 : zLI 152 = 4 := rfl
    unfold g_m_run_L86
    rw [if_neg (by omega), w32_id (x := 6 * (k : Int)) (by omega) (by omega), w32_id (x := 6 * (k : Int) + 1) (by omega) (by omega), s_copies (by omega) (by omega) (by omega) (by omega) (by omega) (by omega)]
    rw [Option.bind_some]
    try dsimp only
    rw [if_pos (by omega), w32_id (x := 6 * (k : Int) + 5) (by omega) (by omega), if_pos (by omega)]
    obtain ⟨qb, qt⟩ := hq k (by omega)
    generalize hs1 : zb s 152 0 (bxA s 161 (6 * (k : Int) + 1)) = s1
    have f1 : ∀ a j, a ≠ 152 → s1 a j = s a j := fun a j ha => by rw [← hs1]; exact zb_a ha
    have hb1 : bxA s1 152 0 = bxA s 161 (6 * (k : Int) + 1) := by rw [← hs1]; exact zb_bx rfl
    have h1 : MI s1 := MI_144 h (fun a j hh => f1 a j (by omega))
    obtain ⟨N, n1, n2, n3⟩ := h1.1
    have h20 := h1.2.2.1.1
    obtain ⟨v, s2, N', e1, e2, e3, e4, e5, e6⟩ := s_asked (x := s1 161 (6 * (k : Int))) (t := s1 161 (6 * (k : Int) + 5)) n3 n2 n1 qb hb1 h1.2.1.2.1.1 h1.2.1.2.1.2 h1.2.1.1.1 (fun s' hs' => tst_ok (by rw [hs' 143 20 (by omega) (by omega) (by omega) (by omega) (by omega) (by omega)]; exact h20) (by rw [f1 161 _ (by decide)]; omega))
    rw [e1]
    rw [Option.bind_some]
    try dsimp only
    rw [if_pos (by omega), w32_id (x := (k : Int) + 1) (by omega) (by omega)]
    have q : ∀ a j, (a < 143 ∨ 168 ≤ a ∨ a = 159 ∨ a = 161 ∨ (163 ≤ a ∧ a ≤ 167) ∨ a = 145 ∨ a = 148 ∨ (a = 144 ∧ ((9 ≤ j ∧ j < 200) ∨ (260 ≤ j ∧ j < 340))) ∨ (a = 147 ∧ 1 ≤ j ∧ j < 61) ∨ (a = 143 ∧ (j = 6 ∨ j = 20 ∨ j = 27 ∨ j = 29 ∨ j = 32))) → s2 a j = s1 a j := fun a j hh => e5 a j (by omega) (by omega) (by omega) (by omega) (by omega) (by omega) (by omega) (by omega)
    have hH2 : HI s2 := HI_fr h1.2.1 (fun j hj => e5 144 j (by omega) (by omega) (by omega) (by omega) (by omega) (by omega) (by omega) (by omega)) e6
    have h2 : MI s2 := MI_q h1 ⟨N', e4, e3, e2⟩ hH2 (fun a j hh => q a j (by omega))
    have h3 : MI (zu s2 162 (k : Int) v) := MI_144 h2 (fun a j hh => zu_a (by omega))
    obtain ⟨c, s', g1, g2⟩ := y_s_run86 (σ0 := σ0) hK d (k + 1) n (zu s2 162 (k : Int) v) (by omega) (by omega) h3 (fun a j hh => by rw [zu_a (by omega), q a j (by omega), f1 a j (by omega)]; exact f a j hh) (fun t ht => qOk_fr (hq t ht) (fun j _ _ => by rw [zu_a (by decide), q 161 j (by omega), f1 161 j (by decide)]))
    rw [show ((k + 1 : Nat) : Int) = (k : Int) + 1 by omega] at g1
    exact ⟨c, s', g1, g2⟩
theorem y_MI_Q2 {σ s : zS} (h : MI σ) (f : frQ2 σ s) : MI s ∧ frT6 σ s :=
  ⟨MI_144 h (fun a j hh => f a j (by omega) (by omega)), fun a j hh => f a j (by omega) (by omega)⟩
theorem y_s_runStop {σ0 s : zS} {n k : Nat} (h : MI σ0) (f : frQ2 σ0 s) (hk : 0 ≤ s 143 22 ∨ (k ≤ 8 ∧ ∀ t : Nat, t < k → qOk s t)) : ∃ c s', g_m_run_L8 (n + 1) (k : Int) 0 s = some (c, s') ∧ MI s' ∧ s' 143 20 = 0 ∧ frT6 σ0 s' := by
  obtain ⟨h1, f1⟩ := y_MI_Q2 h f
  unfold g_m_run_L8
  rw [if_pos rfl]
  dsimp only
  by_cases c : 0 ≤ s 143 22
  · rw [if_pos c]; exact y_s_run145 h1 f1
  · rw [if_neg c]
    obtain ⟨k8, hq⟩ := hk.resolve_left c
    have q : ∀ a j, ¬ (a = 143 ∧ j = 27) → zu s 143 27 (k : Int) a j = s a j := fun a j hh => zu_c (by omega)
    refine y_s_run86 k8 k 0 zK (zu s 143 27 (k : Int)) (by omega) (by show _ < 1000000; omega) ⟨NI_fr h1.1 (fun j _ => q 144 j (by omega)), HI_fr8 h1.2.1 (fun j _ _ => q 144 j (by omega)), ?_, II_fr h1.2.2.2 (q 143 6 (by omega)) (fun j => q 145 j (by omega))⟩ (fun a j hh => (q a j (by omega)).trans (f1 a j hh)) (fun t ht => qOk_fr (hq t ht) (fun j _ _ => q 161 j (by omega)))
    obtain ⟨x1, x2, x3, x4, x5⟩ := h1.2.2.1
    refine ⟨by rw [q 143 20 (by omega)]; exact x1, by rw [zu_e rfl]; omega, by rw [q 143 29 (by omega)]; exact x3, by rw [q 143 32 (by omega)]; exact x4, fun k hk => ?_⟩
    rw [q 166 _ (by omega)]
    exact x5 k hk
theorem y_s_run8 {σ0 : zS} (h : MI σ0) : ∀ (d k n : Nat) (s : zS), k + d = 8 → 1 ≤ d → d + 1 < n → frQ2 σ0 s → pI s → s 143 21 ≤ 160 → (0 ≤ s 143 22 ∨ ∀ t : Nat, t < k → qOk s t) → ∃ c s', g_m_run_L8 n (k : Int) 1 s = some (c, s') ∧ MI s' ∧ s' 143 20 = 0 ∧ frT6 σ0 s' := by
  intro d
  induction d with
  | zero => intro k n s _ h1; omega
  | succ d ih =>
    intro k n s hk _ hn f p p5 hq
    obtain ⟨n, rfl⟩ : ∃ m, n = m + 2 := ⟨n - 2, by omega⟩
    unfold g_m_run_L8
    rw [if_neg (by decide)]
    obtain ⟨b, s1, e1, e2, e3, e4, e5⟩ := s_isQuery (k := k) (by omega) p p5
    rw [e1]
    rw [Option.bind_some]
    try dsimp only
    obtain ⟨p1, p15⟩ := pI_160 p p5 e2
    have f1 := f.trans e3
    rw [w32_id (x := (k : Int) + 1) (by omega) (by omega), show (k : Int) + 1 = ((k + 1 : Nat) : Int) by omega]
    have hb := e2
    unfold pO at hb
    by_cases c : b = 0
    · rw [if_pos c]
      unfold g_m_run_L41
      rw [if_pos c, c]
      exact y_s_runStop h f1 (Or.inl (hb.2.2.2.2.2 c))
    · have hb1 : b = 1 := by omega
      have hq1 : 0 ≤ s1 143 22 ∨ ∀ t : Nat, t < k + 1 → qOk s1 t := by
        rcases hq with hq | hq
        · exact Or.inl (hb.2.2.2.2.1 hq)
        · refine Or.inr (fun t ht => ?_)
          by_cases ct : t = k
          · subst ct; exact e5 hb1
          · exact qOk_fr (hq t (by omega)) (fun j _ j2 => e4 j (by omega))
      rw [if_neg c]
      by_cases c2 : s1 143 21 ≠ s1 143 20
      · rw [if_pos c2]
        unfold g_m_run_L41
        rw [if_neg c]
        by_cases c3 : 8 ≤ ((k + 1 : Nat) : Int)
        · rw [if_pos c3]
          obtain ⟨s2, g1, g2, g3⟩ := s_failsO p1
          dsimp only
          rw [g1]
          rw [Option.bind_some]
          try dsimp only
          unfold g_m_run_L68
          unfold pO at g2
          exact y_s_runStop h (f1.trans (frQ2.of g3)) (Or.inl (g2.2.2.2.2.2 rfl))
        · rw [if_neg c3]
          obtain ⟨b2, s2, g1, g2, g3⟩ := s_isSign (x := 59) p1 (by decide)
          rw [g1]
          rw [Option.bind_some]
          try dsimp only
          unfold g_m_run_L68
          have g4 := g2
          unfold pO at g4
          obtain ⟨p2, p25⟩ := pI_160 p1 p15 g2
          by_cases c4 : b2 = 0
          · rw [c4]
            exact y_s_runStop h (f1.trans (frQ2.of g3)) (Or.inl (g4.2.2.2.2.2 c4))
          · have hb2 : b2 = 1 := by omega
            rw [hb2]
            refine ih (k + 1) (n + 1) s2 (by omega) (by omega) (by omega) (f1.trans (frQ2.of g3)) p2 p25 ?_
            rcases hq1 with hq1 | hq1
            · exact Or.inl (g4.2.2.2.2.1 hq1)
            · exact Or.inr (fun t ht => qOk_fr (hq1 t ht) (fun j _ _ => g3 161 j (by omega)))
      · rw [if_neg c2]
        refine y_s_runStop h f1 ?_
        rcases hq1 with hq1 | hq1
        · exact Or.inl hq1
        · exact Or.inr ⟨by omega, hq1⟩
theorem y_m_run2 {σ : zS} (h : MI σ) : ∃ c s, g_m_run σ = some (c, s) ∧ MI s ∧ s 143 20 = 0 ∧ frT6 σ s := by
  unfold g_m_run g_m_begins
  rw [Option.bind_some]
  try dsimp only
  have f1 : frQ2 σ (zu (zu σ 143 21 0) 143 22 (-1)) := fun a j k1 k2 => by rw [zu_c (by omega), zu_c (by omega)]
  have h20 := h.2.2.1.1
  have q20 : zu (zu σ 143 21 0) 143 22 (-1) 143 20 = σ 143 20 := f1 143 20 (by decide) (by omega)
  have q21 : zu (zu σ 143 21 0) 143 22 (-1) 143 21 = 0 := by rw [zu_i (by omega), zu_e rfl]
  exact y_s_run8 h 8 0 zK _ rfl (by omega) (by show _ < 1000000; omega) f1 ⟨by rw [q20]; omega, by rw [q20]; omega, by rw [q21]; omega⟩ (by rw [q21]; omega) (Or.inr (fun t ht => absurd ht (Nat.not_lt_zero _)))
theorem f_run6 {σ : zS} (h : MI σ) : zP' (g_m_run σ) (fun _ s => frT6 σ s) := by
  obtain ⟨v, s, e, -, -, e3⟩ := y_m_run2 h
  rw [e]
  exact zP'.ret e3
end
section
/-! 8u.pieceL -/
/-! COMPONENT Pc: PCe is kept by every call that does not touch it (printed by wip/zc.py) -/
def KPc (a : Nat) (j : Int) : Prop := (a = 131 ∧ j = 1) ∨ (a = 132) ∨ (a = 133) ∨ (a = 143 ∧ j = 32) ∨ a = 165
def cFPc (F : Nat → Int → Bool) : Prop := ∀ j : Int, F 131 (1) = false ∧ F 132 j = false ∧ F 133 j = false
theorem hcPc {F : Nat → Int → Bool} {σ : zS} {c : Option (Int × zS)} {P : Int → zS → Prop} (hc : zO c (fun v s => CI s ∧ fr F σ s ∧ P v s)) (f : cFPc F) : zP' c (fun _ s1 => ∀ a j, (KPc a j ∨ (143 ≤ a ∧ a < 168)) → s1 a j = σ a j) := (zP'.of hc).imp (fun v s p a j k => by
  have G := p.2.1
  rcases k with k | k
  · unfold KPc at k
    obtain ⟨h0, h1, h2⟩ := f j
    rcases k with ⟨rfl, rfl⟩ | rfl | rfl | k
    · exact G _ _ (Or.inr h0)
    · exact G _ _ (Or.inr h1)
    · exact G _ _ (Or.inr h2)
    · exact G _ _ (Or.inl (by omega))
  · exact G _ _ (Or.inl k))
theorem hpPc {σ : zS} {c : Option (Int × zS)} {P : Int → Prop} (hc : zOp c σ P) : zP' c (fun _ s1 => ∀ a j, (KPc a j ∨ (143 ≤ a ∧ a < 168)) → s1 a j = σ a j) := fun v s e => by
  obtain ⟨v0, e0, -⟩ := hc
  rw [e0] at e
  cases e
  exact fun _ _ _ => rfl
theorem hmPc {m : zS → Option (Int × zS)} (h : ∀ s, MI s → ∃ w, m s = some (w, s)) : ∀ s, MI s → zP' (m s) (fun _ s2 => ∀ a j, KPc a j → s2 a j = s a j) := fun s hs v t e => by
  obtain ⟨w, e0⟩ := h s hs
  rw [e0] at e
  cases e
  exact fun _ _ _ => rfl
def InvP (K : Int) (σ : zS) : Prop := InvR K σ ∧ PCe σ
theorem liftPc {K K' : Int} {σ : zS} {c : Option (Int × zS)} {m : zS → Option (Int × zS)} {Q : Int → Int → zS → Prop} (I : InvP K σ) (o : two c m (fun v w s => InvR K' s ∧ Q v w s)) (hc : zP' c (fun _ s1 => ∀ a j, (KPc a j ∨ (143 ≤ a ∧ a < 168)) → s1 a j = σ a j)) (hm : ∀ s, MI s → zP' (m s) (fun _ s2 => ∀ a j, KPc a j → s2 a j = s a j)) : two c m (fun v w s => InvP K' s ∧ Q v w s) := by
  obtain ⟨v, s1, e1, w, s2, e2, J, q⟩ := o
  have h1 := hc v s1 e1
  have M1 : MI s1 := MI_cls ((fun (s : zS) (h : InvR K s) => h.1.1.1) σ I.1).1.2.1 (fun a j k1 k2 => h1 a j (Or.inr ⟨k1, k2⟩))
  have h2 := hm s1 M1 w s2 e2
  exact ⟨v, s1, e1, w, s2, e2, ⟨J, PCe_keep I.2 (fun a j k => (h2 a j k).trans (h1 a j (Or.inl k)))⟩, q⟩
theorem qp_put {K : Int} {a b c d : Int} {σ : zS} (hK : K ≤ 2000000) (hd : okL d) (I : InvP K σ) : two (g_c_put a b c d σ) (g_m_put a b c d) (fun v w s => InvP (K + 2400) s ∧ v = w) := liftPc I (qr_put hK hd I.1) (hcPc (g_c_put_sp ((fun (s : zS) (h : InvR K s) => h.1.1.1) σ I.1).1.1) (fun _ => ⟨rfl, rfl, rfl⟩)) (fun s h => (f_put h).imp (fun _ t g a j k => g a j (by unfold KPc at k; omega) (by unfold KPc at k; omega) (by unfold KPc at k; omega) (by unfold KPc at k; omega) (by unfold KPc at k; omega) (by unfold KPc at k; omega) (by unfold KPc at k; omega) (by unfold KPc at k; omega) (by unfold KPc at k; omega)))
theorem qp_take {K : Int} {a : Int} {σ : zS} (hK : K ≤ 2000000) (I : InvP K σ) : two (g_c_take a σ) (g_m_take a) (fun v w s => InvP (K + 2400) s ∧ v = w) := liftPc I (qr_take hK I.1) (hcPc (g_c_take_sp ((fun (s : zS) (h : InvR K s) => h.1.1.1) σ I.1).1.1) (fun _ => ⟨rfl, rfl, rfl⟩)) (fun s h => (f_take h).imp (fun _ t g a j k => g a j (by unfold KPc at k; omega) (by unfold KPc at k; omega) (by unfold KPc at k; omega) (by unfold KPc at k; omega) (by unfold KPc at k; omega) (by unfold KPc at k; omega) (by unfold KPc at k; omega) (by unfold KPc at k; omega) (by unfold KPc at k; omega)))
theorem qp_row {K : Int} {a b : Int} {σ : zS} (I : InvP K σ) : two (g_c_row a b σ) (g_m_row a b) (fun v w s => InvP K s ∧ v = w) := liftPc I (qr_row I.1) (hpPc (g_c_row_sp ((fun (s : zS) (h : InvR K s) => h.1.1.1) σ I.1).1.1)) (hmPc (fun _ _ => m_row))
theorem qp_worth {K : Int} {a : Int} {σ : zS} (I : InvP K σ) : two (g_c_worth a σ) (g_m_worth a) (fun v w s => InvP K s ∧ v = w) := liftPc I (qr_worth I.1) (hpPc (g_c_worth_sp ((fun (s : zS) (h : InvR K s) => h.1.1.1) σ I.1).1.1)) (hmPc (fun _ _ => m_worth))
theorem qp_feed {K : Int} {a : Int} {σ : zS} (I : InvP K σ) : two (g_c_feed a σ) (g_m_feed a) (fun v w s => InvP K s ∧ v = w) := liftPc I (qr_feed I.1) (hcPc (g_c_feed_sp ((fun (s : zS) (h : InvR K s) => h.1.1.1) σ I.1).1.1) (fun _ => ⟨rfl, rfl, rfl⟩)) (fun s h => (f_feed h).imp (fun _ t g a j k => g a j (by unfold KPc at k; omega) (by unfold KPc at k; omega)))
theorem qp_clear {K : Int} {σ : zS} (I : InvP K σ) : two (g_c_clear σ) g_m_clear (fun v w s => InvP K s ∧ v = w) := liftPc I (qr_clear I.1) (hcPc (g_c_clear_sp ((fun (s : zS) (h : InvR K s) => h.1.1.1) σ I.1).1.1) (fun _ => ⟨rfl, rfl, rfl⟩)) (fun s h => (f_clear h).imp (fun _ t g a j k => g a j (by unfold KPc at k; omega)))
theorem qp_settings {K : Int} {σ : zS} (I : InvP K σ) : two (g_c_settings σ) g_m_settings (fun v w s => InvP (K + 2400) s ∧ v = w) := liftPc I (qr_settings I.1) (hcPc (g_c_settings_sp ((fun (s : zS) (h : InvR K s) => h.1.1.1) σ I.1).1.1) (fun _ => ⟨rfl, rfl, rfl⟩)) (fun s h => (f_settings5 h).imp (fun _ t g a j k => g a j (by unfold KPc at k; omega)))
theorem qp_setting {K : Int} {a : Int} {σ : zS} (I : InvP K σ) : two (g_c_setting a σ) (g_m_setting a) (fun v w s => InvP K s ∧ v = w) := liftPc I (qr_setting I.1) (hpPc (g_c_setting_sp ((fun (s : zS) (h : InvR K s) => h.1.1.1) σ I.1).1.1)) (hmPc (fun _ _ => m_setting))
theorem qp_run {K : Int} {σ : zS} (hK : K ≤ 2000000) (I : InvP K σ) : two (g_c_run σ) g_m_run (fun v w s => InvP (K + 2400) s ∧ v = w) := liftPc I (qr_run hK I.1) (hcPc (g_c_run_sp ((fun (s : zS) (h : InvR K s) => h.1.1.1) σ I.1).1.1) (fun _ => ⟨rfl, rfl, rfl⟩)) (fun s h => (f_run6 h).imp (fun _ t g a j k => g a j (by unfold KPc at k; omega)))
theorem qp_answer {K : Int} {a : Int} {σ : zS} (I : InvP K σ) : two (g_c_answer a σ) (g_m_answer a) (fun _ _ s => InvP K s) := ft2 (liftPc I (tt2 (qr_answer I.1)) (hpPc (g_c_answer_sp ((fun (s : zS) (h : InvR K s) => h.1.1.1) σ I.1).1.1)) (hmPc (fun _ h => m_answer h)))
theorem qp_spell {K : Int} {σ : zS} (I : InvP K σ) : two (g_c_spell σ) g_m_spell (fun _ _ s => InvP K s) := ft2 (liftPc I (tt2 (qr_spell I.1)) (hcPc (g_c_spell_sp ((fun (s : zS) (h : InvR K s) => h.1.1.1) σ I.1).1.1) (fun _ => ⟨rfl, rfl, rfl⟩)) (fun s h => (f_spell h).imp (fun _ t g a j k => g a j (by unfold KPc at k; omega) (by unfold KPc at k; omega))))
theorem qp_load {K : Int} {σ : zS} (hK : K ≤ 2000000) (I : InvP K σ) : two (g_c_load σ) g_m_load (fun v w s => InvP (K + 2400) s ∧ v = w) := liftPc I (qr_load hK I.1) (hcPc (g_c_load_sp ((fun (s : zS) (h : InvR K s) => h.1.1.1) σ I.1).1.1) (fun _ => ⟨rfl, rfl, rfl⟩)) (fun s h => (f_load4 h).imp (fun _ t g a j k => g a j (by unfold KPc at k; omega)))
theorem qp_explain {K : Int} {a b c d : Int} {σ : zS} (I : InvP K σ) : two (g_c_explain a b c d σ) (g_m_explain a b c d) (fun _ _ s => InvP K s) := ft2 (liftPc I (tt2 (qr_explain I.1)) (hcPc (g_c_explain_sp ((fun (s : zS) (h : InvR K s) => h.1.1.1) σ I.1).1.1) (fun _ => ⟨rfl, rfl, rfl⟩)) (fun s h => (f_explain h).imp (fun _ t g a j k => g a j (by unfold KPc at k; omega) (by unfold KPc at k; omega) (by unfold KPc at k; omega) (by unfold KPc at k; omega) (by unfold KPc at k; omega) (by unfold KPc at k; omega))))
theorem qp_paper {K : Int} {a : Int} {σ : zS} (I : InvP K σ) : two (g_c_paper a σ) (g_m_paper a) (fun _ _ s => InvP K s) := ft2 (liftPc I (tt2 (qr_paper I.1)) (hpPc (g_c_paper_sp ((fun (s : zS) (h : InvR K s) => h.1.1.1) σ I.1).1.1)) (hmPc (fun _ h => m_paper h)))
theorem qp_query {K : Int} {a b c d e : Int} {σ : zS} (hK : K ≤ 2000000) (I : InvP K σ) : two (g_c_query a b c d e σ) (g_m_query a b c d e) (fun v w s => InvP (K + 2400) s ∧ v = w) := liftPc I (qr_query hK I.1) (hcPc (g_c_query_sp ((fun (s : zS) (h : InvR K s) => h.1.1.1) σ I.1).1.1) (fun _ => ⟨rfl, rfl, rfl⟩)) (fun s h => (f_query h).imp (fun _ t g a j k => g a j (by unfold KPc at k; omega) (by unfold KPc at k; omega) (by unfold KPc at k; omega) (by unfold KPc at k; omega) (by unfold KPc at k; omega) (by unfold KPc at k; omega) (by unfold KPc at k; omega) (by unfold KPc at k; omega) (by unfold KPc at k; omega)))
theorem qp_find {K : Int} {a : Int} {σ : zS} (I : InvP K σ) : two (g_c_find a σ) (g_m_find a) (fun _ _ s => InvP K s) := ft2 (liftPc I (tt2 (qr_find I.1)) (hpPc (g_c_find_sp ((fun (s : zS) (h : InvR K s) => h.1.1.1) σ I.1).1.1)) (hmPc (fun _ h => m_find h)))
theorem qp_region {K : Int} {a b : Int} {σ : zS} (I : InvP K σ) : two (g_c_region a b σ) (g_m_region_248 a b) (fun _ _ s => InvP K s) := ft2 (liftPc I (tt2 (qr_region I.1)) (hpPc (g_c_region_sp ((fun (s : zS) (h : InvR K s) => h.1.1.1) σ I.1).1.1)) (hmPc (fun _ h => m_region h)))
theorem qp_weight {K : Int} {a : Int} {σ : zS} (I : InvP K σ) : two (g_c_weight a σ) (g_m_weight a) (fun _ _ s => InvP K s) := ft2 (liftPc I (tt2 (qr_weight I.1)) (hpPc (g_c_weight_sp ((fun (s : zS) (h : InvR K s) => h.1.1.1) σ I.1).1.1)) (hmPc (fun _ h => m_weight h)))
theorem qp_told {K : Int} {a : Int} {σ : zS} (I : InvP K σ) : two (g_c_told a σ) (g_m_told a) (fun _ _ s => InvP K s) := ft2 (liftPc I (tt2 (qr_told I.1)) (hpPc (g_c_told_sp ((fun (s : zS) (h : InvR K s) => h.1.1.1) σ I.1).1.1)) (hmPc (fun _ h => m_told h)))
theorem qp_flush {K : Int} {σ : zS} (I : InvP K σ) : two (g_c_flush σ) g_m_flush (fun v w s => InvP (K + 2400) s ∧ v = w) := liftPc I (qr_flush I.1) (hcPc (g_c_flush_sp ((fun (s : zS) (h : InvR K s) => h.1.1.1) σ I.1).1.1) (fun _ => ⟨rfl, rfl, rfl⟩)) (fun s h => (f_flush).imp (fun _ t g a j k => g a j (by unfold KPc at k; omega)))
theorem qp_keep {K : Int} {a : Int} {σ : zS} (I : InvP K σ) : two (g_c_keep a σ) (g_m_keep a) (fun _ _ s => InvP K s) := ft2 (liftPc I (tt2 (qr_keep I.1)) (hpPc (g_c_keep_sp ((fun (s : zS) (h : InvR K s) => h.1.1.1) σ I.1).1.1)) (hmPc (fun _ h => m_keep h)))
theorem qp_trace {K : Int} {a b c d : Int} {σ : zS} (I : InvP K σ) : two (g_c_trace a b c d σ) (g_m_trace a b c d) (fun v w s => InvP K s ∧ v = w) := liftPc I (qr_trace I.1) (hcPc (g_c_trace_sp ((fun (s : zS) (h : InvR K s) => h.1.1.1) σ I.1).1.1) (fun _ => ⟨rfl, rfl, rfl⟩)) (fun s h => (f_trace h).imp (fun _ t g a j k => g a j (by unfold KPc at k; omega)))
theorem qp_again {K : Int} {a b : Int} {σ : zS} (I : InvP K σ) : two (g_c_again a b σ) (g_m_again a b) (fun _ _ s => InvP K s) := ft2 (liftPc I (tt2 (qr_again I.1)) (hcPc (g_c_again_sp ((fun (s : zS) (h : InvR K s) => h.1.1.1) σ I.1).1.1) (fun _ => ⟨rfl, rfl, rfl⟩)) (fun s h => (f_again h).imp (fun _ t g a j k => g a j (by unfold KPc at k; omega) (by unfold KPc at k; omega) (by unfold KPc at k; omega) (by unfold KPc at k; omega) (by unfold KPc at k; omega) (by unfold KPc at k; omega) (by unfold KPc at k; omega) (by unfold KPc at k; omega) (by unfold KPc at k; omega))))
theorem qp_least {K : Int} {a : Int} {σ : zS} (I : InvP K σ) : two (g_c_least a σ) (g_m_least a) (fun _ _ s => InvP K s) := ft2 (liftPc I (tt2 (qr_least I.1)) (hcPc (g_c_least_sp ((fun (s : zS) (h : InvR K s) => h.1.1.1) σ I.1).1.1) (fun _ => ⟨rfl, rfl, rfl⟩)) (fun s h => (f_least h).imp (fun _ t g a j k => g a j (by unfold KPc at k; omega) (by unfold KPc at k; omega) (by unfold KPc at k; omega) (by unfold KPc at k; omega) (by unfold KPc at k; omega) (by unfold KPc at k; omega) (by unfold KPc at k; omega) (by unfold KPc at k; omega) (by unfold KPc at k; omega))))
theorem qp_watch {K : Int} {a b c d e : Int} {σ : zS} (I : InvP K σ) : two (g_c_watch a b c d e σ) (g_m_watch a b c d e) (fun v w s => InvP K s ∧ v = w) := liftPc I (qr_watch I.1) (hcPc (g_c_watch_sp ((fun (s : zS) (h : InvR K s) => h.1.1.1) σ I.1).1.1) (fun _ => ⟨rfl, rfl, rfl⟩)) (fun s h => (f_watch h).imp (fun _ t g a j k => g a j (by unfold KPc at k; omega)))
theorem qp_value {K : Int} {a : Int} {σ : zS} (I : InvP K σ) : two (g_c_value a σ) (g_m_value a) (fun v w s => InvP K s ∧ v = w) := liftPc I (qr_value I.1) (hcPc (g_c_value_sp ((fun (s : zS) (h : InvR K s) => h.1.1.1) σ I.1).1.1) (fun _ => ⟨rfl, rfl, rfl⟩)) (fun s h => (f_value h).imp (fun _ t g a j k => g a j (by unfold KPc at k; omega) (by unfold KPc at k; omega) (by unfold KPc at k; omega)))
theorem qp_changes {K : Int} {a : Int} {σ : zS} (I : InvP K σ) : two (g_c_changes a σ) (g_m_changes a) (fun v w s => InvP K s ∧ v = w) := liftPc I (qr_changes I.1) (hpPc (g_c_changes_sp ((fun (s : zS) (h : InvR K s) => h.1.1.1) σ I.1).1.1)) (hmPc (fun _ h => m_changes h))
theorem qp_list {K : Int} {a b : Int} {σ : zS} (I : InvP K σ) : two (g_c_list a b σ) (g_m_list a b) (fun v w s => InvP K s ∧ v = w) := liftPc I (qr_list I.1) (hcPc (g_c_list_sp ((fun (s : zS) (h : InvR K s) => h.1.1.1) σ I.1).1.1) (fun _ => ⟨rfl, rfl, rfl⟩)) (fun s h => (f_list h).imp (fun _ t g a j k => g a j (by unfold KPc at k; omega) (by unfold KPc at k; omega)))
theorem qp_set {K : Int} {a b c : Int} {σ : zS} (I : InvP K σ) : two (g_c_set a b c σ) (g_m_set a b c) (fun v w s => InvP K s ∧ v = w) := liftPc I (qr_set I.1) (hcPc (g_c_set_sp ((fun (s : zS) (h : InvR K s) => h.1.1.1) σ I.1).1.1) (fun _ => ⟨rfl, rfl, rfl⟩)) (fun s h => (f_set h).imp (fun _ t g a j k => g a j (by unfold KPc at k; omega)))
theorem qp_get {K : Int} {a b : Int} {σ : zS} (I : InvP K σ) : two (g_c_get a b σ) (g_m_get a b) (fun _ _ s => InvP K s) := ft2 (liftPc I (tt2 (qr_get I.1)) (hpPc (g_c_get_sp ((fun (s : zS) (h : InvR K s) => h.1.1.1) σ I.1).1.1)) (hmPc (fun _ h => m_get h)))
theorem qp_move {K : Int} {a b c d e : Int} {σ : zS} (hb : b < 2147483648) (hd : d < 2147483648) (I : InvP K σ) : two (g_c_move a b c d e σ) (g_m_move a b c d e) (fun v w s => InvP K s ∧ v = w) := liftPc I (qr_move hb hd I.1) (hcPc (g_c_move_sp ((fun (s : zS) (h : InvR K s) => h.1.1.1) σ I.1).1.1) (fun _ => ⟨rfl, rfl, rfl⟩)) (fun s h => (f_move hb hd h).imp (fun _ t g a j k => g a j (by unfold KPc at k; omega)))
theorem qp_lay {K : Int} {a b : Int} {σ : zS} (hb : -2147483648 ≤ b ∧ b < 2147483648) (I : InvP K σ) : two (g_c_lay a b σ) (g_m_lay a b) (fun _ _ s => InvP K s) := ft2 (liftPc I (tt2 (qr_lay hb I.1)) (hcPc (g_c_lay_sp ((fun (s : zS) (h : InvR K s) => h.1.1.1) σ I.1).1.1) (fun _ => ⟨rfl, rfl, rfl⟩)) (fun s h => (f_lay hb h).imp (fun _ t g a j k => g a j (by unfold KPc at k; omega))))
theorem qp_judge {K : Int} {a b : Int} {σ : zS} (hb : -2147483648 ≤ b ∧ b < 2147483648) (I : InvP K σ) : two (g_c_judge a b σ) (g_m_judge a b) (fun _ _ s => InvP K s) := ft2 (liftPc I (tt2 (qr_judge hb I.1)) (hpPc (g_c_judge_sp ((fun (s : zS) (h : InvR K s) => h.1.1.1) σ I.1).1.1)) (hmPc (fun _ h => m_judge h hb)))
theorem qp_image {K : Int} {σ : zS} (I : InvP K σ) : two (g_c_image σ) g_m_image (fun v w s => InvP (K + 2400) s ∧ v = w) := liftPc I (qr_image I.1) (hcPc (g_c_image_sp ((fun (s : zS) (h : InvR K s) => h.1.1.1) σ I.1).1.1) (fun _ => ⟨rfl, rfl, rfl⟩)) (fun s h => (f_image.imp (fun _ _ g => g.1)).imp (fun _ t g a j k => g a j (by unfold KPc at k; omega) (by unfold KPc at k; omega) (by unfold KPc at k; omega)))
theorem qp_undo {K : Int} {σ : zS} (I : InvP K σ) : two (g_c_undo σ) g_m_undo (fun v w s => InvP (K + 2400) s ∧ v = w) := liftPc I (qr_undo I.1) (hcPc (g_c_undo_sp ((fun (s : zS) (h : InvR K s) => h.1.1.1) σ I.1).1.1) (fun _ => ⟨rfl, rfl, rfl⟩)) (fun s h => (f_undo.imp (fun _ _ g => g.1)).imp (fun _ t g a j k => g a j (by unfold KPc at k; omega) (by unfold KPc at k; omega)))
end
section
/-! 8v.piece1 -/
/-! THE PIECES alike: probe, piece, the start -/
theorem InvP.mono {K K' : Int} {σ : zS} (I : InvP K σ) (e : K ≤ K') : InvP K' σ := ⟨I.1.mono e, I.2⟩
theorem qp_probe {K : Int} {a b c d : Int} {σ : zS} (I : InvP K σ) : two (g_c_probe a b c d σ) (g_m_probe a b c d) (fun v w s => InvP K s ∧ v = w) := by
  obtain ⟨v, s1, e1, w, s2, e2, J⟩ := qr_probe (a := a) (b := b) (c := c) (d := d) I.1
  refine ⟨v, s1, e1, w, s2, e2, ?_⟩
  obtain ⟨L, ct, C, M, hR, hk, A, B, hL⟩ := R_open I.1
  obtain ⟨H1, G1, -⟩ := zO.at (g_c_probe_sp I.1.1.ci) e1
  have ref := fr_ref G1
  have M1 : MI s1 := MI_cls I.1.1.mi ref
  have F := frI_of (mC (fun _ h => m_probe h) s1 M1) e2
  have Mm := M.mv (s := s1) (by omega) (fun j _ _ => ref 144 j (by decide) (by decide)) (fun j _ _ => ref 147 j (by decide) (by decide))
  have Rm := hR.mv (s := s1) (by omega) (fun j _ _ => ref 144 j (by decide) (by decide))
  obtain ⟨p1, p2⟩ := k_probeR (a := a) (b := b) (c := c) (d := d) C.1 hL hk (pw_of M.1 hR) v s1 e1
  obtain ⟨r1, r2⟩ := t_probeR (a := a) (b := b) (c := c) (d := d) Mm.1 Rm hL w s2 e2
  by_cases ok : bOk (a, b, c, d)
  · obtain ⟨x1, x2⟩ := p1 ok
    obtain ⟨y1, y2⟩ := r1 ok
    obtain ⟨z1, z2⟩ := prbP_ok ok (fun r hr => (hk r hr).1) (pw_of M.1 hR) hL
    exact ⟨⟨J, prbP (a, b, c, d) L, ⟨⟨(F 131 1 (Or.inl (by decide))).trans x1.1.1, fun k hk => (F 132 _ (Or.inl (by decide))).trans (x1.1.2 k hk)⟩, fun k hk => (F 133 _ (Or.inl (by decide))).trans (x1.2 k hk)⟩, y1, z1, z2⟩, x2.trans y2.symm⟩
  · obtain ⟨x1, rfl⟩ := p2 ok
    obtain ⟨y1, rfl⟩ := r2 ok
    exact ⟨⟨J, I.2⟩, x1.trans y1.symm⟩
theorem qp_piece {K : Int} {a b : Int} {σ : zS} (I : InvP K σ) : two (g_c_piece a b σ) (g_m_piece a b) (fun v w s => InvP K s ∧ v = w) := by
  obtain ⟨v, s1, e1, w, s2, e2, J⟩ := qr_piece (a := a) (b := b) I.1
  obtain ⟨P, h1, h2, h3, h4⟩ := I.2
  obtain ⟨x1, x2⟩ := k_piece (a := a) (b := b) h1 h3 h4 v s1 e1
  have h2' : mPc s1 P := by rw [x1]; exact h2
  obtain ⟨y1, y2⟩ := t_piece (a := a) (b := b) h2' h3 w s2 e2
  refine ⟨v, s1, e1, w, s2, e2, ⟨J, ?_⟩, x2.trans y2.symm⟩
  rw [y1, x1]
  exact I.2
theorem InvP_s0 {K : Int} (hK : 0 ≤ K) : InvP K s0 := by
  have e0 : s0 131 1 = 0 ∧ s0 143 32 = 0 := by decide +kernel
  exact ⟨InvR_s0 hK, [], ⟨⟨e0.1, fun k hk => absurd hk (Nat.not_lt_zero k)⟩, fun k hk => absurd hk (Nat.not_lt_zero k)⟩, ⟨e0.2, fun k hk => absurd hk (Nat.not_lt_zero k)⟩, by decide, fun p hp => absurd hp List.not_mem_nil⟩
end
section
/-! 90.main -/
/-! THE LAW: its loop keeps what stands between the calls (printed by wip/zw.py) -/
set_option maxHeartbeats 4000000 in
theorem z_loop {xl : Nat} {xs : Nat → Int32} (hxl : xl ≤ 3072) (hx : ∀ X : Int32, -2147483648 ≤ X.toInt ∧ X.toInt < 2147483648) : ∀ (n : Nat) (x3 : Int) (σ : zS), InvP (400 * x3) σ → 0 ≤ x3 → x3 ≤ (xl : Int) → (xl : Int) - x3 < (n : Int) → zO (g_jRangeAnswersLaw_law_L18 xl xs n x3 σ) (fun v _ => v = 1)
  | 0, _, _, _, _, _, _ => by exfalso; omega
  | n + 1, x3, σ, I, h1, h2, h3 => by
    unfold g_jRangeAnswersLaw_law_L18
    have w0 := w32_id (x := (xl : Int) - 6) (by omega) (by omega)
    refine zO.ite (fun _ => zO.ret rfl) (fun c0 => ?_)
    try dsimp +instances only
    refine zO.gd (by omega) ?_
    try dsimp +instances only
    have g1 : 0 ≤ w32 (x3 + 1) ∧ w32 (x3 + 1) < (xl : Int) := by rw [w32_id (x := x3 + 1) (by omega) (by omega)]; omega
    have g2 : 0 ≤ w32 (x3 + 2) ∧ w32 (x3 + 2) < (xl : Int) := by rw [w32_id (x := x3 + 2) (by omega) (by omega)]; omega
    have g3 : 0 ≤ w32 (x3 + 3) ∧ w32 (x3 + 3) < (xl : Int) := by rw [w32_id (x := x3 + 3) (by omega) (by omega)]; omega
    have g4 : 0 ≤ w32 (x3 + 4) ∧ w32 (x3 + 4) < (xl : Int) := by rw [w32_id (x := x3 + 4) (by omega) (by omega)]; omega
    have g5 : 0 ≤ w32 (x3 + 5) ∧ w32 (x3 + 5) < (xl : Int) := by rw [w32_id (x := x3 + 5) (by omega) (by omega)]; omega
    have w6 := w32_id (x := x3 + 6) (by omega) (by omega)
    have k1 : 0 ≤ x3 + 6 := by omega
    have k2 : x3 + 6 ≤ (xl : Int) := by omega
    have k3 : (xl : Int) - (x3 + 6) < (n : Int) := by omega
    have kK : 400 * x3 ≤ 2000000 := by omega
    clear w0 c0 h1 h2 h3
    refine zO.ite (fun c => ?_) (fun c => ?_)
    · clear c
      try dsimp +instances only
      refine zO.gd g1 ?_
      try dsimp +instances only
      refine zO.gd g2 ?_
      try dsimp +instances only
      refine zO.gd g3 ?_
      try dsimp +instances only
      refine zO.gd g4 ?_
      try dsimp +instances only
      refine zO.gd g5 ?_
      try dsimp +instances only
      refine zO.bind (qp_put kK (lOr_ok _ _) I) (fun v s1 p => ?_)
      try dsimp +instances only
      refine zO.gd g1 ?_
      try dsimp +instances only
      refine zO.gd g2 ?_
      try dsimp +instances only
      refine zO.gd g3 ?_
      try dsimp +instances only
      refine zO.gd g4 ?_
      try dsimp +instances only
      refine zO.gd g5 ?_
      try dsimp +instances only
      refine zO.bind p (fun w s2 q => ?_)
      try dsimp +instances only
      unfold g_jRangeAnswersLaw_law_L1367
      rw [w6]
      exact z_loop hxl hx n (x3 + 6) s2 (InvP.mono q.1 (by omega)) k1 k2 k3
    · clear c
      try dsimp +instances only
      refine zO.ite (fun c => ?_) (fun c => ?_)
      · clear c
        try dsimp +instances only
        refine zO.gd g1 ?_
        try dsimp +instances only
        refine zO.bind (qp_take kK I) (fun v s1 p => ?_)
        try dsimp +instances only
        refine zO.gd g1 ?_
        try dsimp +instances only
        refine zO.bind p (fun w s2 q => ?_)
        try dsimp +instances only
        unfold g_jRangeAnswersLaw_law_L1367
        rw [w6]
        exact z_loop hxl hx n (x3 + 6) s2 (InvP.mono q.1 (by omega)) k1 k2 k3
      · clear c
        try dsimp +instances only
        refine zO.ite (fun c => ?_) (fun c => ?_)
        · clear c
          try dsimp +instances only
          refine zO.gd g1 ?_
          try dsimp +instances only
          refine zO.gd g2 ?_
          try dsimp +instances only
          refine zO.bind (qp_row I) (fun v s1 p => ?_)
          try dsimp +instances only
          refine zO.gd g1 ?_
          try dsimp +instances only
          refine zO.gd g2 ?_
          try dsimp +instances only
          refine zO.bind p (fun w s2 q => ?_)
          try dsimp +instances only
          unfold g_jRangeAnswersLaw_law_L1367
          rw [w6]
          exact z_loop hxl hx n (x3 + 6) s2 (InvP.mono q.1 (by omega)) k1 k2 k3
        · clear c
          try dsimp +instances only
          refine zO.ite (fun c => ?_) (fun c => ?_)
          · clear c
            try dsimp +instances only
            refine zO.gd g1 ?_
            try dsimp +instances only
            refine zO.bind (qp_worth I) (fun v s1 p => ?_)
            try dsimp +instances only
            refine zO.gd g1 ?_
            try dsimp +instances only
            refine zO.bind p (fun w s2 q => ?_)
            try dsimp +instances only
            unfold g_jRangeAnswersLaw_law_L1367
            rw [w6]
            exact z_loop hxl hx n (x3 + 6) s2 (InvP.mono q.1 (by omega)) k1 k2 k3
          · clear c
            try dsimp +instances only
            refine zO.ite (fun c => ?_) (fun c => ?_)
            · clear c
              try dsimp +instances only
              refine zO.gd g1 ?_
              try dsimp +instances only
              refine zO.bind (qp_feed I) (fun v s1 p => ?_)
              try dsimp +instances only
              refine zO.gd g1 ?_
              try dsimp +instances only
              refine zO.bind p (fun w s2 q => ?_)
              try dsimp +instances only
              unfold g_jRangeAnswersLaw_law_L1367
              rw [w6]
              exact z_loop hxl hx n (x3 + 6) s2 (InvP.mono q.1 (by omega)) k1 k2 k3
            · clear c
              try dsimp +instances only
              refine zO.ite (fun c => ?_) (fun c => ?_)
              · clear c
                try dsimp +instances only
                refine zO.bind (qp_clear I) (fun v s1 p => ?_)
                try dsimp +instances only
                refine zO.bind p (fun w s2 q => ?_)
                try dsimp +instances only
                unfold g_jRangeAnswersLaw_law_L1367
                rw [w6]
                exact z_loop hxl hx n (x3 + 6) s2 (InvP.mono q.1 (by omega)) k1 k2 k3
              · clear c
                try dsimp +instances only
                refine zO.ite (fun c => ?_) (fun c => ?_)
                · clear c
                  try dsimp +instances only
                  refine zO.bind (qp_settings I) (fun v s1 p => ?_)
                  try dsimp +instances only
                  refine zO.bind p (fun w s2 q => ?_)
                  try dsimp +instances only
                  unfold g_jRangeAnswersLaw_law_L1367
                  rw [w6]
                  exact z_loop hxl hx n (x3 + 6) s2 (InvP.mono q.1 (by omega)) k1 k2 k3
                · clear c
                  try dsimp +instances only
                  refine zO.ite (fun c => ?_) (fun c => ?_)
                  · clear c
                    try dsimp +instances only
                    refine zO.gd g1 ?_
                    try dsimp +instances only
                    refine zO.bind (qp_setting I) (fun v s1 p => ?_)
                    try dsimp +instances only
                    refine zO.gd g1 ?_
                    try dsimp +instances only
                    refine zO.bind p (fun w s2 q => ?_)
                    try dsimp +instances only
                    unfold g_jRangeAnswersLaw_law_L1367
                    rw [w6]
                    exact z_loop hxl hx n (x3 + 6) s2 (InvP.mono q.1 (by omega)) k1 k2 k3
                  · clear c
                    try dsimp +instances only
                    refine zO.ite (fun c => ?_) (fun c => ?_)
                    · clear c
                      try dsimp +instances only
                      refine zO.bind (qp_run kK I) (fun v s1 p => ?_)
                      try dsimp +instances only
                      refine zO.bind p (fun w s2 q => ?_)
                      try dsimp +instances only
                      unfold g_jRangeAnswersLaw_law_L1367
                      rw [w6]
                      exact z_loop hxl hx n (x3 + 6) s2 (InvP.mono q.1 (by omega)) k1 k2 k3
                    · clear c
                      try dsimp +instances only
                      refine zO.ite (fun c => ?_) (fun c => ?_)
                      · clear c
                        try dsimp +instances only
                        refine zO.gd g1 ?_
                        try dsimp +instances only
                        refine zO.bind (qp_answer I) (fun v s1 p => ?_)
                        try dsimp +instances only
                        refine zO.gd g1 ?_
                        try dsimp +instances only
                        refine zO.bind p (fun w s2 q => ?_)
                        try dsimp +instances only
                        unfold g_jRangeAnswersLaw_law_L1367
                        rw [w6]
                        exact z_loop hxl hx n (x3 + 6) s2 (InvP.mono q (by omega)) k1 k2 k3
                      · clear c
                        try dsimp +instances only
                        refine zO.ite (fun c => ?_) (fun c => ?_)
                        · clear c
                          try dsimp +instances only
                          refine zO.bind (qp_spell I) (fun v s1 p => ?_)
                          try dsimp +instances only
                          refine zO.bind p (fun w s2 q => ?_)
                          try dsimp +instances only
                          unfold g_jRangeAnswersLaw_law_L1367
                          rw [w6]
                          exact z_loop hxl hx n (x3 + 6) s2 (InvP.mono q (by omega)) k1 k2 k3
                        · clear c
                          try dsimp +instances only
                          refine zO.ite (fun c => ?_) (fun c => ?_)
                          · clear c
                            try dsimp +instances only
                            refine zO.bind (qp_load kK I) (fun v s1 p => ?_)
                            try dsimp +instances only
                            refine zO.bind p (fun w s2 q => ?_)
                            try dsimp +instances only
                            unfold g_jRangeAnswersLaw_law_L1367
                            rw [w6]
                            exact z_loop hxl hx n (x3 + 6) s2 (InvP.mono q.1 (by omega)) k1 k2 k3
                          · clear c
                            try dsimp +instances only
                            refine zO.ite (fun c => ?_) (fun c => ?_)
                            · clear c
                              try dsimp +instances only
                              refine zO.gd g1 ?_
                              try dsimp +instances only
                              refine zO.gd g2 ?_
                              try dsimp +instances only
                              refine zO.gd g3 ?_
                              try dsimp +instances only
                              refine zO.gd g4 ?_
                              try dsimp +instances only
                              refine zO.bind (qp_explain I) (fun v s1 p => ?_)
                              try dsimp +instances only
                              refine zO.gd g1 ?_
                              try dsimp +instances only
                              refine zO.gd g2 ?_
                              try dsimp +instances only
                              refine zO.gd g3 ?_
                              try dsimp +instances only
                              refine zO.gd g4 ?_
                              try dsimp +instances only
                              refine zO.bind p (fun w s2 q => ?_)
                              try dsimp +instances only
                              unfold g_jRangeAnswersLaw_law_L1367
                              rw [w6]
                              exact z_loop hxl hx n (x3 + 6) s2 (InvP.mono q (by omega)) k1 k2 k3
                            · clear c
                              try dsimp +instances only
                              refine zO.ite (fun c => ?_) (fun c => ?_)
                              · clear c
                                try dsimp +instances only
                                refine zO.gd g1 ?_
                                try dsimp +instances only
                                refine zO.bind (qp_paper I) (fun v s1 p => ?_)
                                try dsimp +instances only
                                refine zO.gd g1 ?_
                                try dsimp +instances only
                                refine zO.bind p (fun w s2 q => ?_)
                                try dsimp +instances only
                                unfold g_jRangeAnswersLaw_law_L1367
                                rw [w6]
                                exact z_loop hxl hx n (x3 + 6) s2 (InvP.mono q (by omega)) k1 k2 k3
                              · clear c
                                try dsimp +instances only
                                refine zO.ite (fun c => ?_) (fun c => ?_)
                                · clear c
                                  try dsimp +instances only
                                  refine zO.gd g1 ?_
                                  try dsimp +instances only
                                  refine zO.gd g2 ?_
                                  try dsimp +instances only
                                  refine zO.gd g3 ?_
                                  try dsimp +instances only
                                  refine zO.gd g4 ?_
                                  try dsimp +instances only
                                  refine zO.gd g5 ?_
                                  try dsimp +instances only
                                  refine zO.bind (qp_query kK I) (fun v s1 p => ?_)
                                  try dsimp +instances only
                                  refine zO.gd g1 ?_
                                  try dsimp +instances only
                                  refine zO.gd g2 ?_
                                  try dsimp +instances only
                                  refine zO.gd g3 ?_
                                  try dsimp +instances only
                                  refine zO.gd g4 ?_
                                  try dsimp +instances only
                                  refine zO.gd g5 ?_
                                  try dsimp +instances only
                                  refine zO.bind p (fun w s2 q => ?_)
                                  try dsimp +instances only
                                  unfold g_jRangeAnswersLaw_law_L1367
                                  rw [w6]
                                  exact z_loop hxl hx n (x3 + 6) s2 (InvP.mono q.1 (by omega)) k1 k2 k3
                                · clear c
                                  try dsimp +instances only
                                  refine zO.ite (fun c => ?_) (fun c => ?_)
                                  · clear c
                                    try dsimp +instances only
                                    refine zO.gd g1 ?_
                                    try dsimp +instances only
                                    refine zO.bind (qp_find I) (fun v s1 p => ?_)
                                    try dsimp +instances only
                                    refine zO.gd g1 ?_
                                    try dsimp +instances only
                                    refine zO.bind p (fun w s2 q => ?_)
                                    try dsimp +instances only
                                    unfold g_jRangeAnswersLaw_law_L1367
                                    rw [w6]
                                    exact z_loop hxl hx n (x3 + 6) s2 (InvP.mono q (by omega)) k1 k2 k3
                                  · clear c
                                    try dsimp +instances only
                                    refine zO.ite (fun c => ?_) (fun c => ?_)
                                    · clear c
                                      try dsimp +instances only
                                      refine zO.gd g1 ?_
                                      try dsimp +instances only
                                      refine zO.gd g2 ?_
                                      try dsimp +instances only
                                      refine zO.gd g3 ?_
                                      try dsimp +instances only
                                      refine zO.gd g4 ?_
                                      try dsimp +instances only
                                      refine zO.bind (qp_probe I) (fun v s1 p => ?_)
                                      try dsimp +instances only
                                      refine zO.gd g1 ?_
                                      try dsimp +instances only
                                      refine zO.gd g2 ?_
                                      try dsimp +instances only
                                      refine zO.gd g3 ?_
                                      try dsimp +instances only
                                      refine zO.gd g4 ?_
                                      try dsimp +instances only
                                      refine zO.bind p (fun w s2 q => ?_)
                                      try dsimp +instances only
                                      unfold g_jRangeAnswersLaw_law_L1367
                                      rw [w6]
                                      exact z_loop hxl hx n (x3 + 6) s2 (InvP.mono q.1 (by omega)) k1 k2 k3
                                    · clear c
                                      try dsimp +instances only
                                      refine zO.ite (fun c => ?_) (fun c => ?_)
                                      · clear c
                                        try dsimp +instances only
                                        refine zO.gd g1 ?_
                                        try dsimp +instances only
                                        refine zO.gd g2 ?_
                                        try dsimp +instances only
                                        refine zO.bind (qp_piece I) (fun v s1 p => ?_)
                                        try dsimp +instances only
                                        refine zO.gd g1 ?_
                                        try dsimp +instances only
                                        refine zO.gd g2 ?_
                                        try dsimp +instances only
                                        refine zO.bind p (fun w s2 q => ?_)
                                        try dsimp +instances only
                                        refine zO.ite (fun _ => ?_) (fun c => absurd q.2 c)
                                        try dsimp +instances only
                                        unfold g_jRangeAnswersLaw_law_L1367
                                        rw [w6]
                                        exact z_loop hxl hx n (x3 + 6) s2 (InvP.mono q.1 (by omega)) k1 k2 k3
                                      · clear c
                                        try dsimp +instances only
                                        refine zO.ite (fun c => ?_) (fun c => ?_)
                                        · clear c
                                          try dsimp +instances only
                                          refine zO.gd g1 ?_
                                          try dsimp +instances only
                                          refine zO.gd g2 ?_
                                          try dsimp +instances only
                                          refine zO.bind (qp_region I) (fun v s1 p => ?_)
                                          try dsimp +instances only
                                          refine zO.gd g1 ?_
                                          try dsimp +instances only
                                          refine zO.gd g2 ?_
                                          try dsimp +instances only
                                          refine zO.bind p (fun w s2 q => ?_)
                                          try dsimp +instances only
                                          unfold g_jRangeAnswersLaw_law_L1367
                                          rw [w6]
                                          exact z_loop hxl hx n (x3 + 6) s2 (InvP.mono q (by omega)) k1 k2 k3
                                        · clear c
                                          try dsimp +instances only
                                          refine zO.ite (fun c => ?_) (fun c => ?_)
                                          · clear c
                                            try dsimp +instances only
                                            refine zO.gd g1 ?_
                                            try dsimp +instances only
                                            refine zO.bind (qp_weight I) (fun v s1 p => ?_)
                                            try dsimp +instances only
                                            refine zO.gd g1 ?_
                                            try dsimp +instances only
                                            refine zO.bind p (fun w s2 q => ?_)
                                            try dsimp +instances only
                                            unfold g_jRangeAnswersLaw_law_L1367
                                            rw [w6]
                                            exact z_loop hxl hx n (x3 + 6) s2 (InvP.mono q (by omega)) k1 k2 k3
                                          · clear c
                                            try dsimp +instances only
                                            refine zO.ite (fun c => ?_) (fun c => ?_)
                                            · clear c
                                              try dsimp +instances only
                                              refine zO.gd g1 ?_
                                              try dsimp +instances only
                                              refine zO.bind (qp_told I) (fun v s1 p => ?_)
                                              try dsimp +instances only
                                              refine zO.gd g1 ?_
                                              try dsimp +instances only
                                              refine zO.bind p (fun w s2 q => ?_)
                                              try dsimp +instances only
                                              unfold g_jRangeAnswersLaw_law_L1367
                                              rw [w6]
                                              exact z_loop hxl hx n (x3 + 6) s2 (InvP.mono q (by omega)) k1 k2 k3
                                            · clear c
                                              try dsimp +instances only
                                              refine zO.ite (fun c => ?_) (fun c => ?_)
                                              · clear c
                                                try dsimp +instances only
                                                refine zO.bind (qp_flush I) (fun v s1 p => ?_)
                                                try dsimp +instances only
                                                refine zO.bind p (fun w s2 q => ?_)
                                                try dsimp +instances only
                                                unfold g_jRangeAnswersLaw_law_L1367
                                                rw [w6]
                                                exact z_loop hxl hx n (x3 + 6) s2 (InvP.mono q.1 (by omega)) k1 k2 k3
                                              · clear c
                                                try dsimp +instances only
                                                refine zO.ite (fun c => ?_) (fun c => ?_)
                                                · clear c
                                                  try dsimp +instances only
                                                  refine zO.gd g1 ?_
                                                  try dsimp +instances only
                                                  refine zO.bind (qp_keep I) (fun v s1 p => ?_)
                                                  try dsimp +instances only
                                                  refine zO.gd g1 ?_
                                                  try dsimp +instances only
                                                  refine zO.bind p (fun w s2 q => ?_)
                                                  try dsimp +instances only
                                                  unfold g_jRangeAnswersLaw_law_L1367
                                                  rw [w6]
                                                  exact z_loop hxl hx n (x3 + 6) s2 (InvP.mono q (by omega)) k1 k2 k3
                                                · clear c
                                                  try dsimp +instances only
                                                  refine zO.ite (fun c => ?_) (fun c => ?_)
                                                  · clear c
                                                    try dsimp +instances only
                                                    refine zO.gd g1 ?_
                                                    try dsimp +instances only
                                                    refine zO.gd g2 ?_
                                                    try dsimp +instances only
                                                    refine zO.gd g3 ?_
                                                    try dsimp +instances only
                                                    refine zO.gd g4 ?_
                                                    try dsimp +instances only
                                                    refine zO.bind (qp_trace I) (fun v s1 p => ?_)
                                                    try dsimp +instances only
                                                    refine zO.gd g1 ?_
                                                    try dsimp +instances only
                                                    refine zO.gd g2 ?_
                                                    try dsimp +instances only
                                                    refine zO.gd g3 ?_
                                                    try dsimp +instances only
                                                    refine zO.gd g4 ?_
                                                    try dsimp +instances only
                                                    refine zO.bind p (fun w s2 q => ?_)
                                                    try dsimp +instances only
                                                    unfold g_jRangeAnswersLaw_law_L1367
                                                    rw [w6]
                                                    exact z_loop hxl hx n (x3 + 6) s2 (InvP.mono q.1 (by omega)) k1 k2 k3
                                                  · clear c
                                                    try dsimp +instances only
                                                    refine zO.ite (fun c => ?_) (fun c => ?_)
                                                    · clear c
                                                      try dsimp +instances only
                                                      refine zO.gd g1 ?_
                                                      try dsimp +instances only
                                                      refine zO.gd g2 ?_
                                                      try dsimp +instances only
                                                      refine zO.bind (qp_again I) (fun v s1 p => ?_)
                                                      try dsimp +instances only
                                                      refine zO.gd g1 ?_
                                                      try dsimp +instances only
                                                      refine zO.gd g2 ?_
                                                      try dsimp +instances only
                                                      refine zO.bind p (fun w s2 q => ?_)
                                                      try dsimp +instances only
                                                      unfold g_jRangeAnswersLaw_law_L1367
                                                      rw [w6]
                                                      exact z_loop hxl hx n (x3 + 6) s2 (InvP.mono q (by omega)) k1 k2 k3
                                                    · clear c
                                                      try dsimp +instances only
                                                      refine zO.ite (fun c => ?_) (fun c => ?_)
                                                      · clear c
                                                        try dsimp +instances only
                                                        refine zO.gd g1 ?_
                                                        try dsimp +instances only
                                                        refine zO.bind (qp_least I) (fun v s1 p => ?_)
                                                        try dsimp +instances only
                                                        refine zO.gd g1 ?_
                                                        try dsimp +instances only
                                                        refine zO.bind p (fun w s2 q => ?_)
                                                        try dsimp +instances only
                                                        unfold g_jRangeAnswersLaw_law_L1367
                                                        rw [w6]
                                                        exact z_loop hxl hx n (x3 + 6) s2 (InvP.mono q (by omega)) k1 k2 k3
                                                      · clear c
                                                        try dsimp +instances only
                                                        refine zO.ite (fun c => ?_) (fun c => ?_)
                                                        · clear c
                                                          try dsimp +instances only
                                                          refine zO.gd g1 ?_
                                                          try dsimp +instances only
                                                          refine zO.gd g2 ?_
                                                          try dsimp +instances only
                                                          refine zO.gd g3 ?_
                                                          try dsimp +instances only
                                                          refine zO.gd g4 ?_
                                                          try dsimp +instances only
                                                          refine zO.gd g5 ?_
                                                          try dsimp +instances only
                                                          refine zO.bind (qp_watch I) (fun v s1 p => ?_)
                                                          try dsimp +instances only
                                                          refine zO.gd g1 ?_
                                                          try dsimp +instances only
                                                          refine zO.gd g2 ?_
                                                          try dsimp +instances only
                                                          refine zO.gd g3 ?_
                                                          try dsimp +instances only
                                                          refine zO.gd g4 ?_
                                                          try dsimp +instances only
                                                          refine zO.gd g5 ?_
                                                          try dsimp +instances only
                                                          refine zO.bind p (fun w s2 q => ?_)
                                                          try dsimp +instances only
                                                          unfold g_jRangeAnswersLaw_law_L1367
                                                          rw [w6]
                                                          exact z_loop hxl hx n (x3 + 6) s2 (InvP.mono q.1 (by omega)) k1 k2 k3
                                                        · clear c
                                                          try dsimp +instances only
                                                          refine zO.ite (fun c => ?_) (fun c => ?_)
                                                          · clear c
                                                            try dsimp +instances only
                                                            refine zO.gd g1 ?_
                                                            try dsimp +instances only
                                                            refine zO.bind (qp_value I) (fun v s1 p => ?_)
                                                            try dsimp +instances only
                                                            refine zO.gd g1 ?_
                                                            try dsimp +instances only
                                                            refine zO.bind p (fun w s2 q => ?_)
                                                            try dsimp +instances only
                                                            unfold g_jRangeAnswersLaw_law_L1367
                                                            rw [w6]
                                                            exact z_loop hxl hx n (x3 + 6) s2 (InvP.mono q.1 (by omega)) k1 k2 k3
                                                          · clear c
                                                            try dsimp +instances only
                                                            refine zO.ite (fun c => ?_) (fun c => ?_)
                                                            · clear c
                                                              try dsimp +instances only
                                                              refine zO.gd g1 ?_
                                                              try dsimp +instances only
                                                              refine zO.bind (qp_changes I) (fun v s1 p => ?_)
                                                              try dsimp +instances only
                                                              refine zO.gd g1 ?_
                                                              try dsimp +instances only
                                                              refine zO.bind p (fun w s2 q => ?_)
                                                              try dsimp +instances only
                                                              unfold g_jRangeAnswersLaw_law_L1367
                                                              rw [w6]
                                                              exact z_loop hxl hx n (x3 + 6) s2 (InvP.mono q.1 (by omega)) k1 k2 k3
                                                            · clear c
                                                              try dsimp +instances only
                                                              refine zO.ite (fun c => ?_) (fun c => ?_)
                                                              · clear c
                                                                try dsimp +instances only
                                                                refine zO.gd g1 ?_
                                                                try dsimp +instances only
                                                                refine zO.gd g2 ?_
                                                                try dsimp +instances only
                                                                refine zO.bind (qp_list I) (fun v s1 p => ?_)
                                                                try dsimp +instances only
                                                                refine zO.gd g1 ?_
                                                                try dsimp +instances only
                                                                refine zO.gd g2 ?_
                                                                try dsimp +instances only
                                                                refine zO.bind p (fun w s2 q => ?_)
                                                                try dsimp +instances only
                                                                unfold g_jRangeAnswersLaw_law_L1367
                                                                rw [w6]
                                                                exact z_loop hxl hx n (x3 + 6) s2 (InvP.mono q.1 (by omega)) k1 k2 k3
                                                              · clear c
                                                                try dsimp +instances only
                                                                refine zO.ite (fun c => ?_) (fun c => ?_)
                                                                · clear c
                                                                  try dsimp +instances only
                                                                  refine zO.gd g1 ?_
                                                                  try dsimp +instances only
                                                                  refine zO.gd g2 ?_
                                                                  try dsimp +instances only
                                                                  refine zO.gd g3 ?_
                                                                  try dsimp +instances only
                                                                  refine zO.gd g4 ?_
                                                                  try dsimp +instances only
                                                                  refine zO.bind (qp_set I) (fun v s1 p => ?_)
                                                                  try dsimp +instances only
                                                                  refine zO.gd g1 ?_
                                                                  try dsimp +instances only
                                                                  refine zO.gd g2 ?_
                                                                  try dsimp +instances only
                                                                  refine zO.gd g3 ?_
                                                                  try dsimp +instances only
                                                                  refine zO.gd g4 ?_
                                                                  try dsimp +instances only
                                                                  refine zO.bind p (fun w s2 q => ?_)
                                                                  try dsimp +instances only
                                                                  unfold g_jRangeAnswersLaw_law_L1367
                                                                  rw [w6]
                                                                  exact z_loop hxl hx n (x3 + 6) s2 (InvP.mono q.1 (by omega)) k1 k2 k3
                                                                · clear c
                                                                  try dsimp +instances only
                                                                  refine zO.ite (fun c => ?_) (fun c => ?_)
                                                                  · clear c
                                                                    try dsimp +instances only
                                                                    refine zO.gd g1 ?_
                                                                    try dsimp +instances only
                                                                    refine zO.gd g2 ?_
                                                                    try dsimp +instances only
                                                                    refine zO.bind (qp_get I) (fun v s1 p => ?_)
                                                                    try dsimp +instances only
                                                                    refine zO.gd g1 ?_
                                                                    try dsimp +instances only
                                                                    refine zO.gd g2 ?_
                                                                    try dsimp +instances only
                                                                    refine zO.bind p (fun w s2 q => ?_)
                                                                    try dsimp +instances only
                                                                    unfold g_jRangeAnswersLaw_law_L1367
                                                                    rw [w6]
                                                                    exact z_loop hxl hx n (x3 + 6) s2 (InvP.mono q (by omega)) k1 k2 k3
                                                                  · clear c
                                                                    try dsimp +instances only
                                                                    refine zO.ite (fun c => ?_) (fun c => ?_)
                                                                    · clear c
                                                                      try dsimp +instances only
                                                                      refine zO.gd g1 ?_
                                                                      try dsimp +instances only
                                                                      refine zO.gd g2 ?_
                                                                      try dsimp +instances only
                                                                      refine zO.gd g3 ?_
                                                                      try dsimp +instances only
                                                                      refine zO.gd g4 ?_
                                                                      try dsimp +instances only
                                                                      refine zO.gd g5 ?_
                                                                      try dsimp +instances only
                                                                      refine zO.bind (qp_move (hx _).2 (hx _).2 I) (fun v s1 p => ?_)
                                                                      try dsimp +instances only
                                                                      refine zO.gd g1 ?_
                                                                      try dsimp +instances only
                                                                      refine zO.gd g2 ?_
                                                                      try dsimp +instances only
                                                                      refine zO.gd g3 ?_
                                                                      try dsimp +instances only
                                                                      refine zO.gd g4 ?_
                                                                      try dsimp +instances only
                                                                      refine zO.gd g5 ?_
                                                                      try dsimp +instances only
                                                                      refine zO.bind p (fun w s2 q => ?_)
                                                                      try dsimp +instances only
                                                                      unfold g_jRangeAnswersLaw_law_L1367
                                                                      rw [w6]
                                                                      exact z_loop hxl hx n (x3 + 6) s2 (InvP.mono q.1 (by omega)) k1 k2 k3
                                                                    · clear c
                                                                      try dsimp +instances only
                                                                      refine zO.ite (fun c => ?_) (fun c => ?_)
                                                                      · clear c
                                                                        try dsimp +instances only
                                                                        refine zO.gd g1 ?_
                                                                        try dsimp +instances only
                                                                        refine zO.gd g2 ?_
                                                                        try dsimp +instances only
                                                                        refine zO.bind (qp_lay (hx _) I) (fun v s1 p => ?_)
                                                                        try dsimp +instances only
                                                                        refine zO.gd g1 ?_
                                                                        try dsimp +instances only
                                                                        refine zO.gd g2 ?_
                                                                        try dsimp +instances only
                                                                        refine zO.bind p (fun w s2 q => ?_)
                                                                        try dsimp +instances only
                                                                        unfold g_jRangeAnswersLaw_law_L1367
                                                                        rw [w6]
                                                                        exact z_loop hxl hx n (x3 + 6) s2 (InvP.mono q (by omega)) k1 k2 k3
                                                                      · clear c
                                                                        try dsimp +instances only
                                                                        refine zO.ite (fun c => ?_) (fun c => ?_)
                                                                        · clear c
                                                                          try dsimp +instances only
                                                                          refine zO.gd g1 ?_
                                                                          try dsimp +instances only
                                                                          refine zO.gd g2 ?_
                                                                          try dsimp +instances only
                                                                          refine zO.bind (qp_judge (hx _) I) (fun v s1 p => ?_)
                                                                          try dsimp +instances only
                                                                          refine zO.gd g1 ?_
                                                                          try dsimp +instances only
                                                                          refine zO.gd g2 ?_
                                                                          try dsimp +instances only
                                                                          refine zO.bind p (fun w s2 q => ?_)
                                                                          try dsimp +instances only
                                                                          unfold g_jRangeAnswersLaw_law_L1367
                                                                          rw [w6]
                                                                          exact z_loop hxl hx n (x3 + 6) s2 (InvP.mono q (by omega)) k1 k2 k3
                                                                        · clear c
                                                                          try dsimp +instances only
                                                                          refine zO.ite (fun c => ?_) (fun c => ?_)
                                                                          · clear c
                                                                            try dsimp +instances only
                                                                            refine zO.bind (qp_image I) (fun v s1 p => ?_)
                                                                            try dsimp +instances only
                                                                            refine zO.bind p (fun w s2 q => ?_)
                                                                            try dsimp +instances only
                                                                            unfold g_jRangeAnswersLaw_law_L1367
                                                                            rw [w6]
                                                                            exact z_loop hxl hx n (x3 + 6) s2 (InvP.mono q.1 (by omega)) k1 k2 k3
                                                                          · clear c
                                                                            try dsimp +instances only
                                                                            refine zO.ite (fun c => ?_) (fun c => ?_)
                                                                            · clear c
                                                                              try dsimp +instances only
                                                                              refine zO.bind (qp_undo I) (fun v s1 p => ?_)
                                                                              try dsimp +instances only
                                                                              refine zO.bind p (fun w s2 q => ?_)
                                                                              try dsimp +instances only
                                                                              unfold g_jRangeAnswersLaw_law_L1367
                                                                              rw [w6]
                                                                              exact z_loop hxl hx n (x3 + 6) s2 (InvP.mono q.1 (by omega)) k1 k2 k3
                                                                            · clear c
                                                                              try dsimp +instances only
                                                                              unfold g_jRangeAnswersLaw_law_L1367
                                                                              rw [w6]
                                                                              exact z_loop hxl hx n (x3 + 6) σ (InvP.mono I (by omega)) k1 k2 k3
theorem z_main : z_goal 3072 := z_fin (by decide) (fun xl xs hxl => by
  obtain ⟨v, s, e, rfl⟩ := z_loop (xs := xs) hxl (fun X => ⟨Int32.le_toInt X, Int32.toInt_lt X⟩) zK 0 s0 (InvP_s0 (by decide)) (by omega) (by omega) (by show _ < (1000000 : Int); omega)
  exact ⟨s, e⟩)
end
