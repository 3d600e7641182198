section
/-! 8s.probe -/
/-! THE REGIONS' answers alike: probe, and the pieces it lays -/
theorem bs_addN {a N : Nat} {L : List Bx} {b : Bx} {σ : zS} (hz : zLI (a + 1) = (N : Int)) (hN : N ≤ 10000) (h : bsR σ a L) (hL : L.length < N) : zP' (g_bs_add a (enc b) σ) (fun _ s => bsR s a (L ++ [b]) ∧ frBs a σ s) := by
  unfold g_bs_add
  try dsimp +instances only
  rw [h.1, hz, if_neg (by omega), if_pos (by omega), if_pos (by omega)]
  have e : zu σ (a + 1) (L.length : Int) (enc b) a 1 = (L.length : Int) := (zu_a (by omega)).trans h.1
  rw [e, w32_id (x := (L.length : Int) + 1) (by omega) (by omega)]
  refine zP'.ret ⟨⟨?_, fun k hk => ?_⟩, fun c j k1 k2 => by rw [zu_c (by omega), zu_a k1]⟩
  · rw [zu_e rfl, List.length_append]
    show (L.length : Int) + 1 = ((L.length + 1 : Nat) : Int)
    omega
  · rw [List.length_append] at hk
    have hk : k < L.length + 1 := hk
    rw [zu_a (by omega)]
    by_cases ck : k < L.length
    · rw [zu_i (by omega), List.getElem_append_left ck]
      exact h.2 k ck
    · have ek : k = L.length := by omega
      subst ek
      rw [zu_e rfl, List.getElem_append_right (Nat.le_refl _)]
      have e0 : ([b] : List Bx)[L.length - L.length]'(by rw [Nat.sub_self]; exact Nat.one_pos) = b := by simp
      rw [e0]
abbrev Pc : Type := Bx × Int
def cPc (σ : zS) (P : List Pc) : Prop := bsR σ 131 (P.map (fun p => p.1)) ∧ ∀ (k : Nat) (hk : k < P.length), σ 133 (k : Int) = P[k].2
def frPc (σ s : zS) : Prop := ∀ c j, c ≠ 132 → c ≠ 133 → (c ≠ 131 ∨ j ≠ 1) → s c j = σ c j
theorem frPc.trans {σ s t : zS} (h1 : frPc σ s) (h2 : frPc s t) : frPc σ t := fun c j a b d => (h2 c j a b d).trans (h1 c j a b d)
theorem app_at {α : Type} {P : List α} {x : α} {k : Nat} (hk : k < (P ++ [x]).length) : (P ++ [x])[k] = if h : k < P.length then P[k] else x := by
  by_cases c : k < P.length
  · rw [dif_pos c, List.getElem_append_left c]
  · rw [dif_neg c, List.getElem_append_right (by omega)]
    simp
theorem pc_add {P : List Pc} {b : Bx} {n : Int} {σ : zS} (h : cPc σ P) (hl : P.length < 181) : zP' (g_c_addPiece (enc b) n σ) (fun _ s => cPc s (P ++ [(b, n)]) ∧ frPc σ s) := by
  have hm : (P.map (fun p => p.1)).length = P.length := List.length_map _
  have e1 : σ 131 1 = (P.length : Int) := h.1.1.trans (by rw [hm])
  unfold g_c_addPiece
  try dsimp +instances only
  rw [e1, if_neg (by omega), if_pos (by omega)]
  unfold g_c_addPiece_L28
  have h' : bsR (zu σ 133 (P.length : Int) n) 131 (P.map (fun p => p.1)) := ⟨(zu_a (by decide)).trans h.1.1, fun k hk => (zu_a (by decide)).trans (h.1.2 k hk)⟩
  refine zP'.bind (bs_addN (b := b) (N := 181) rfl (by decide) h' (by rw [hm]; exact hl)) (fun _ s p => ?_)
  obtain ⟨p1, p2⟩ := p
  try dsimp +instances only
  refine zP'.ret ⟨⟨by rw [List.map_append]; exact p1, fun k hk => ?_⟩, fun c j k1 k2 k3 => (p2 c j k1 k3).trans (zu_a k2)⟩
  rw [p2 133 (k : Int) (by decide) (Or.inl (by decide)), app_at hk]
  have hk' : k < P.length + 1 := by
    rw [List.length_append] at hk
    exact hk
  by_cases c : k < P.length
  · rw [dif_pos c, zu_i (by omega)]
    exact h.2 k c
  · rw [dif_neg c, zu_e (by omega)]
theorem bsR.mvv {σ s : zS} {a : Nat} {M : List Bx} (h : bsR σ a M) (e : ∀ j, s a j = σ a j) (e' : ∀ j, s (a + 1) j = σ (a + 1) j) : bsR s a M := ⟨(e 1).trans h.1, fun k hk => (e' _).trans (h.2 k hk)⟩
def noP (b : Bx) : Pc := (b, -5)
theorem k_prb129 {M : List Bx} (hM : M.length ≤ 169) : ∀ (n k : Nat) (P : List Pc) (σ : zS), k ≤ M.length → bsR σ 56 M → cPc σ P → P.length + (M.length - k) ≤ 181 → zP' (g_c_probe_L129 n (k : Int) σ) (fun v s => cPc s (P ++ (M.drop k).map noP) ∧ v = ((P ++ (M.drop k).map noP).length : Int))
  | 0, _, _, _, _, _, _, _ => zP'.no
  | n + 1, k, P, σ, hk, hb, h, hl => by
    unfold g_c_probe_L129
    try dsimp +instances only
    rw [hb.1]
    by_cases ck : k = M.length
    · rw [if_pos (by omega), List.drop_of_length_le (by omega), List.map_nil, List.append_nil]
      have hm : (P.map (fun p => p.1)).length = P.length := List.length_map _
      exact zP'.ret ⟨h, h.1.1.trans (by rw [hm])⟩
    · have hk' : k < M.length := by omega
      rw [if_neg (by omega), bs_at (a := 56) rfl hb hM hk', Option.bind_some]
      try dsimp +instances only
      refine zP'.bind (pc_add (b := M[k]) (n := -5) h (by omega)) (fun _ s p => ?_)
      obtain ⟨p1, p2⟩ := p
      try dsimp +instances only
      rw [w32_id (x := (k : Int) + 1) (by omega) (by omega), show (k : Int) + 1 = ((k + 1 : Nat) : Int) by omega]
      have e : (M.drop k).map noP = (M[k], -5) :: (M.drop (k + 1)).map noP := by
        rw [List.drop_eq_getElem_cons hk', List.map_cons]
        rfl
      have e2 : P ++ (M.drop k).map noP = (P ++ [(M[k], -5)]) ++ (M.drop (k + 1)).map noP := by
        rw [e, List.append_assoc]
        rfl
      rw [e2]
      exact k_prb129 hM n (k + 1) _ s (by omega) (hb.mvv (fun j => p2 56 j (by decide) (by decide) (Or.inl (by decide))) (fun j => p2 57 j (by decide) (by decide) (Or.inl (by decide)))) p1 (by rw [List.length_append]; show P.length + 1 + _ ≤ 181; omega)
/-- what of a box the regions have -/
def hvO (q : Bx) (r : Rg) : List Pc := if bMt r.1 q then [(bCom r.1 q, r.2.2.1)] else []
theorem hvO_t {q : Bx} {r : Rg} (h : bMt r.1 q) : hvO q r = [(bCom r.1 q, r.2.2.1)] := if_pos h
theorem hvO_f {q : Bx} {r : Rg} (h : ¬ bMt r.1 q) : hvO q r = [] := if_neg h
def hvP (q : Bx) : List Rg → List Pc
  | [] => []
  | r :: L => hvO q r ++ hvP q L
theorem hvP_le (q : Bx) : ∀ L : List Rg, (hvP q L).length ≤ L.length
  | [] => Nat.le_refl 0
  | r :: L => by
    have h := hvP_le q L
    have e : (hvP q (r :: L)).length = (hvO q r).length + (hvP q L).length := List.length_append
    rw [e, List.length_cons]
    by_cases c : bMt r.1 q
    · rw [hvO_t c]
      show 1 + _ ≤ _
      omega
    · rw [hvO_f c]
      show 0 + _ ≤ _
      omega
def prbP (q : Bx) (L : List Rg) : List Pc := hvP q L ++ (bMissAll q (L.map (fun r => r.1))).map noP
theorem k_prb35 {q : Bx} {L : List Rg} (hq : bOk q) (hb : ∀ r ∈ L, bOk r.1) (hw : (L.map (fun r => r.1)).Pairwise (fun a b => ¬ bMt a b)) (hL : L.length ≤ 12) : ∀ (n k : Nat) (P : List Pc) (σ : zS), k ≤ L.length → cRs σ 48 L → cPc σ P → P.length ≤ k → zP' (g_c_probe_L35 n (enc q) (k : Int) σ) (fun v s => cPc s (P ++ (hvP q (L.drop k) ++ (bMissAll q (L.map (fun r => r.1))).map noP)) ∧ v = ((P ++ (hvP q (L.drop k) ++ (bMissAll q (L.map (fun r => r.1))).map noP)).length : Int))
  | 0, _, _, _, _, _, _, _ => zP'.no
  | n + 1, k, P, σ, hk, hc, h, hp => by
    unfold g_c_probe_L35
    try dsimp +instances only
    rw [hc.1]
    have hbm : ∀ r ∈ L.map (fun r => r.1), bOk r := fun r hr => by
      obtain ⟨x, hx, rfl⟩ := List.mem_map.mp hr
      exact hb x hx
    by_cases ck : k = L.length
    · rw [if_pos (by omega), List.drop_of_length_le (by omega)]
      refine zP'.bind (c_missingOf (Or.inl rfl) hq hb hw hL hc) (fun _ s p => ?_)
      obtain ⟨p1, p2⟩ := p
      have h169 := bMissAll_169 hq hbm hw (by rw [List.length_map]; exact hL)
      have h1 : cPc s P := ⟨h.1.mvv (fun j => p2 131 j (by decide)) (fun j => p2 132 j (by decide)), fun k hk => (p2 133 _ (by decide)).trans (h.2 k hk)⟩
      exact k_prb129 h169 zK 0 P s (Nat.zero_le _) p1 h1 (by omega)
    · have hk' : k < L.length := by omega
      have ok := hb _ (List.getElem_mem hk')
      have x1 : σ 52 (k : Int) = enc L[k].1 := (hc.2 k hk').1
      have x3 : σ 51 (k : Int) = L[k].2.2.1 := (hc.2 k hk').2.2.1
      have k181 : 0 ≤ (k : Int) ∧ (k : Int) < 181 := by omega
      have e : hvP q (L.drop k) = hvO q L[k] ++ hvP q (L.drop (k + 1)) := by
        rw [List.drop_eq_getElem_cons hk']
        rfl
      rw [if_neg (by omega), if_pos k181, x1, c_meet ok hq, Option.bind_some, e]
      try dsimp +instances only
      by_cases c : bMt L[k].1 q
      · rw [if_pos c, if_neg (show ¬ (1 : Int) = 0 by decide), if_pos k181, x1, ← encH_ok ok, c_common (Or.inr ok) hq, if_pos ⟨by have := ok.n; omega, c⟩, Option.bind_some, if_pos k181]
        try dsimp +instances only
        rw [x3]
        refine zP'.bind (pc_add (b := bCom L[k].1 q) (n := L[k].2.2.1) h (by omega)) (fun _ s p => ?_)
        obtain ⟨p1, p2⟩ := p
        unfold g_c_probe_L106
        try dsimp +instances only
        rw [w32_id (x := (k : Int) + 1) (by omega) (by omega), show (k : Int) + 1 = ((k + 1 : Nat) : Int) by omega]
        have e2 : P ++ ([(bCom L[k].1 q, L[k].2.2.1)] ++ hvP q (L.drop (k + 1)) ++ (bMissAll q (L.map (fun r => r.1))).map noP) = (P ++ [(bCom L[k].1 q, L[k].2.2.1)]) ++ (hvP q (L.drop (k + 1)) ++ (bMissAll q (L.map (fun r => r.1))).map noP) := by
          rw [List.append_assoc, List.append_assoc]
        rw [hvO_t c, e2]
        exact k_prb35 hq hb hw hL n (k + 1) _ s (by omega) (cRs_mv hc (fun c j x => p2 c j (by omega) (by omega) (Or.inl (by omega)))) p1 (by rw [List.length_append]; show P.length + 1 ≤ _; omega)
      · rw [if_neg c, if_pos rfl]
        unfold g_c_probe_L106
        try dsimp +instances only
        rw [w32_id (x := (k : Int) + 1) (by omega) (by omega), show (k : Int) + 1 = ((k + 1 : Nat) : Int) by omega, hvO_f c, List.nil_append]
        exact k_prb35 hq hb hw hL n (k + 1) P σ (by omega) hc h (by omega)
theorem k_probeR {σ : zS} {L : List Rg} {a b c d : Int} (C : cRs σ 48 L) (hL : L.length ≤ 12) (hk : ∀ r ∈ L, hOk r) (hw : (L.map (fun r => r.1)).Pairwise (fun a b => ¬ bMt a b)) : zP' (g_c_probe a b c d σ) (fun v s => (bOk (a, b, c, d) → cPc s (prbP (a, b, c, d) L) ∧ v = ((prbP (a, b, c, d) L).length : Int)) ∧ (¬ bOk (a, b, c, d) → v = -2 ∧ s = σ)) := by
  unfold g_c_probe
  by_cases ok : bOk (a, b, c, d)
  · rw [p_isBox, if_pos ok, Option.bind_some]
    try dsimp +instances only
    have e := b_of (b := (a, b, c, d)) ok.s σ
    have e : g_b_of a b c d σ = some (enc (a, b, c, d), σ) := e
    rw [if_pos (by decide), e, Option.bind_some]
    try dsimp +instances only
    have z : ∀ x j, (x ≠ 131 ∨ j ≠ 1) → zu σ 131 1 0 x j = σ x j := fun x j k => zu_c k
    exact (k_prb35 (q := (a, b, c, d)) ok (fun r hr => (hk r hr).1) hw hL zK 0 [] _ (Nat.zero_le _) (cRs_mv C (fun x j k => z x j (Or.inl (by omega)))) ⟨⟨zu_e rfl, fun k hk => absurd hk (Nat.not_lt_zero _)⟩, fun k hk => absurd hk (Nat.not_lt_zero _)⟩ (Nat.le_refl 0)).imp (fun v s p => ⟨fun _ => p, fun h => absurd ok h⟩)
  · rw [p_isBox, if_neg ok, Option.bind_some]
    try dsimp +instances only
    rw [if_neg (by decide)]
    exact zP'.ret ⟨fun h => absurd h ok, fun _ => ⟨rfl, rfl⟩⟩
/-! the reference -/
def mPc (σ : zS) (P : List Pc) : Prop := σ 143 32 = (P.length : Int) ∧ ∀ (k : Nat) (hk : k < P.length), bxA σ 165 (5 * (k : Int)) = P[k].1 ∧ σ 165 (5 * (k : Int) + 4) = P[k].2
theorem mP_add {P : List Pc} {b : Bx} {n v : Int} {σ : zS} (h : mPc σ P) (hv : v = (P.length : Int) + 1) : mPc (zu (zu (zb σ 165 (5 * (P.length : Int)) b) 165 (5 * (P.length : Int) + 4) n) 143 32 v) (P ++ [(b, n)]) := by
  refine ⟨?_, fun k hk => ?_⟩
  · rw [zu_e rfl, hv, List.length_append]
    show (P.length : Int) + 1 = ((P.length + 1 : Nat) : Int)
    omega
  · rw [zu_bxa (by decide), zu_a (by decide), app_at hk]
    have hk' : k < P.length + 1 := by
      rw [List.length_append] at hk
      exact hk
    by_cases c : k < P.length
    · rw [dif_pos c, zu_bxi (by omega), zb_bxi (by omega), zu_i (by omega), zb_i (by omega)]
      exact h.2 k c
    · rw [dif_neg c, zu_bxi (by omega), zb_bx (by omega), zu_e (by omega)]
      exact ⟨rfl, rfl⟩
theorem t_prb145 {M : List Bx} (hM : M.length ≤ 169) : ∀ (n k : Nat) (P : List Pc) (σ : zS), k ≤ M.length → σ 143 10 = (M.length : Int) → lstA σ 150 M.length = M → mPc σ P → P.length + (M.length - k) ≤ 181 → zP' (g_m_probe_L145 n (k : Int) σ) (fun v s => mPc s (P ++ (M.drop k).map noP) ∧ v = ((P ++ (M.drop k).map noP).length : Int))
  | 0, _, _, _, _, _, _, _, _ => zP'.no
  | n + 1, k, P, σ, hk, h10, hb, h, hl => by
    have l150 : zLI 150 = 2400 := rfl
    have l165 : zLI 165 = 3000 := rfl
    unfold g_m_probe_L145
    try dsimp +instances only
    rw [h10]
    by_cases ck : k = M.length
    · rw [if_pos (by omega), List.drop_of_length_le (by omega), List.map_nil, List.append_nil]
      exact zP'.ret ⟨h, h.1⟩
    · have hk' : k < M.length := by omega
      have x : bxA σ 150 (4 * (k : Int)) = M[k] := by
        have g := lstA_get (σ := σ) (a := 150) hk'
        rw [hb, List.getElem?_eq_getElem hk'] at g
        exact (Option.some.inj g).symm
      have z1 : ∀ x j, (x ≠ 165) → zb σ 165 (5 * (P.length : Int)) M[k] x j = σ x j := fun x j k => zb_a k
      rw [if_neg (by omega), h.1, w32_id (x := 4 * (k : Int)) (by omega) (by omega), w32_id (x := 5 * (P.length : Int)) (by omega) (by omega), s_copies (by omega) (by omega) (by omega) (by omega) (by omega) (by omega), Option.bind_some, x]
      try dsimp +instances only
      rw [z1 143 32 (by decide), h.1, w32_id (x := 5 * (P.length : Int)) (by omega) (by omega), w32_id (x := 5 * (P.length : Int) + 4) (by omega) (by omega), if_pos (by omega), zu_a (by decide), z1 143 32 (by decide), h.1, w32_id (x := (P.length : Int) + 1) (by omega) (by omega), w32_id (x := (k : Int) + 1) (by omega) (by omega), show (k : Int) + 1 = ((k + 1 : Nat) : Int) by omega]
      have e : (M.drop k).map noP = (M[k], -5) :: (M.drop (k + 1)).map noP := by
        rw [List.drop_eq_getElem_cons hk', List.map_cons]
        rfl
      have e2 : P ++ (M.drop k).map noP = (P ++ [(M[k], -5)]) ++ (M.drop (k + 1)).map noP := by
        rw [e, List.append_assoc]
        rfl
      rw [e2]
      refine t_prb145 hM n (k + 1) _ _ (by omega) ?_ ?_ (mP_add h rfl) (by rw [List.length_append]; show P.length + 1 + _ ≤ 181; omega)
      · rw [zu_i (by decide), zu_a (by decide), z1 143 10 (by decide)]
        exact h10
      · refine (lstA_ext (fun i hi => ?_))
        have g := lstA_get (σ := σ) (a := 150) hi
        rw [hb, List.getElem?_eq_getElem hi] at g
        rw [zu_bxa (by decide), zu_bxa (by decide), zb_bxa (by decide)]
        exact (Option.some.inj g).symm
theorem t_prb39 {q : Bx} {L : List Rg} {M : List Bx} (hL : L.length ≤ 12) (hM : M.length ≤ 169) : ∀ (n k : Nat) (P : List Pc) (σ : zS), k ≤ L.length → mRs σ L → bxA σ 152 0 = q → σ 143 10 = (M.length : Int) → lstA σ 150 M.length = M → mPc σ P → P.length ≤ k → zP' (g_m_probe_L39 n (k : Int) σ) (fun v s => mPc s (P ++ (hvP q (L.drop k) ++ M.map noP)) ∧ v = ((P ++ (hvP q (L.drop k) ++ M.map noP)).length : Int))
  | 0, _, _, _, _, _, _, _, _, _, _ => zP'.no
  | n + 1, k, P, σ, hk, hr, hbx, h10, hb, h, hp => by
    have l144 : zLI 144 = 2740 := rfl
    have l152 : zLI 152 = 4 := rfl
    have l165 : zLI 165 = 3000 := rfl
    unfold g_m_probe_L39
    try dsimp +instances only
    rw [hr.1]
    by_cases ck : k = L.length
    · rw [if_pos (by omega), List.drop_of_length_le (by omega)]
      exact t_prb145 hM zK 0 P σ (Nat.zero_le _) h10 hb h (by omega)
    · have hk' : k < L.length := by omega
      have x := hr.2 k hk'
      have x1 : bxA σ 144 (340 + 10 * (k : Int)) = L[k].1 := congrArg (fun r : Rg => r.1) x
      have x3 : σ 144 (348 + 10 * (k : Int)) = L[k].2.2.1 := congrArg (fun r : Rg => r.2.2.1) x
      have e : hvP q (L.drop k) = hvO q L[k] ++ hvP q (L.drop (k + 1)) := by
        rw [List.drop_eq_getElem_cons hk']
        rfl
      rw [if_neg (by omega), s_region (by omega) (by omega), Option.bind_some]
      try dsimp +instances only
      rw [s_doMeet (by omega) (by omega) (by omega) (by omega) (by omega) (by omega), Option.bind_some, x1, hbx, e]
      try dsimp +instances only
      by_cases c : bMt L[k].1 q
      · have z1 : ∀ x j, (x ≠ 165) → zb σ 165 (5 * (P.length : Int)) (bCom L[k].1 q) x j = σ x j := fun x j k => zb_a k
        rw [if_pos c, if_pos (by decide), s_region (by omega) (by omega), Option.bind_some]
        try dsimp +instances only
        rw [h.1, w32_id (x := 5 * (P.length : Int)) (by omega) (by omega), s_commons (by omega) (by omega) (by omega) (by omega) (by omega) (by omega) (by omega) (by omega) (by omega), Option.bind_some, x1, hbx]
        try dsimp +instances only
        rw [z1 143 32 (by decide), h.1, s_region (by omega) (by omega), Option.bind_some]
        try dsimp +instances only
        rw [w32_id (x := 340 + 10 * (k : Int) + 8) (by omega) (by omega), if_pos (by omega), w32_id (x := 5 * (P.length : Int)) (by omega) (by omega), w32_id (x := 5 * (P.length : Int) + 4) (by omega) (by omega), if_pos (by omega), z1 144 _ (by decide), show 340 + 10 * (k : Int) + 8 = 348 + 10 * (k : Int) by omega, x3, zu_a (by decide), z1 143 32 (by decide), h.1, w32_id (x := (P.length : Int) + 1) (by omega) (by omega)]
        unfold g_m_probe_L136
        try dsimp +instances only
        rw [w32_id (x := (k : Int) + 1) (by omega) (by omega), show (k : Int) + 1 = ((k + 1 : Nat) : Int) by omega]
        have e2 : P ++ ([(bCom L[k].1 q, L[k].2.2.1)] ++ hvP q (L.drop (k + 1)) ++ M.map noP) = (P ++ [(bCom L[k].1 q, L[k].2.2.1)]) ++ (hvP q (L.drop (k + 1)) ++ M.map noP) := by
          rw [List.append_assoc, List.append_assoc]
        rw [hvO_t c, e2]
        have zz : ∀ x j, x ≠ 165 → (x ≠ 143 ∨ j ≠ 32) → zu (zu (zb σ 165 (5 * (P.length : Int)) (bCom L[k].1 q)) 165 (5 * (P.length : Int) + 4) L[k].2.2.1) 143 32 ((P.length : Int) + 1) x j = σ x j := fun x j k1 k2 => by rw [zu_c k2, zu_a k1, z1 x j k1]
        refine t_prb39 hL hM n (k + 1) _ _ (by omega) (hr.mv (fun j _ => zz 144 j (by decide) (Or.inl (by decide))) (fun j _ _ => zz 147 j (by decide) (Or.inl (by decide))) (by omega)) ?_ ((zz 143 10 (by decide) (Or.inr (by decide))).trans h10) ?_ (mP_add h rfl) (by rw [List.length_append]; show P.length + 1 ≤ _; omega)
        · rw [zu_bxa (by decide), zu_bxa (by decide), zb_bxa (by decide)]
          exact hbx
        · refine (lstA_ext (fun i hi => ?_))
          have g := lstA_get (σ := σ) (a := 150) hi
          rw [hb, List.getElem?_eq_getElem hi] at g
          rw [zu_bxa (by decide), zu_bxa (by decide), zb_bxa (by decide)]
          exact (Option.some.inj g).symm
      · rw [if_neg c, if_neg (by decide)]
        unfold g_m_probe_L136
        try dsimp +instances only
        rw [w32_id (x := (k : Int) + 1) (by omega) (by omega), show (k : Int) + 1 = ((k + 1 : Nat) : Int) by omega, hvO_f c, List.nil_append]
        exact t_prb39 hL hM n (k + 1) P σ (by omega) hr hbx h10 hb h (by omega)
theorem rbx_eq {σ : zS} {L : List Rg} (h : mRs σ L) : rbx σ L.length = L.map (fun r => r.1) := by
  refine List.ext_getElem (by rw [rbx_len, List.length_map]) (fun i h1 h2 => ?_)
  rw [rbx_len] at h1
  have e := rbx_get (σ := σ) (n := L.length) (k := i) h1
  rw [List.getElem?_eq_getElem (by rw [rbx_len]; exact h1)] at e
  rw [Option.some.inj e, List.getElem_map, ← h.2 i h1]
  rfl
theorem t_probeR {σ : zS} {L : List Rg} {a b c d : Int} (h : mRs σ L) (hR : RI σ L.length) (hL : L.length ≤ 12) : zP' (g_m_probe a b c d σ) (fun v s => (bOk (a, b, c, d) → mPc s (prbP (a, b, c, d) L) ∧ v = ((prbP (a, b, c, d) L).length : Int)) ∧ (¬ bOk (a, b, c, d) → v = -2 ∧ s = σ)) := by
  unfold g_m_probe
  by_cases ok : bOk (a, b, c, d)
  · rw [s_isBox_t ok, Option.bind_some]
    try dsimp +instances only
    have l152 : zLI 152 = 4 := rfl
    rw [if_pos (by decide), s_sets (by omega) (by omega) (by omega), Option.bind_some]
    try dsimp +instances only
    have h1 : mRs (zb σ 152 0 (a, b, c, d)) L := h.mv (fun j _ => zb_a (by decide)) (fun j _ _ => zb_a (by decide)) (by omega)
    have R1 : RI (zb σ 152 0 (a, b, c, d)) L.length := hR.mv (by omega) (fun j _ _ => zb_a (by decide))
    have hbx : bxA (zb σ 152 0 (a, b, c, d)) 152 0 = (a, b, c, d) := zb_bx rfl
    obtain ⟨r1, r2⟩ := RI_rbx R1
    obtain ⟨s1, m1, m2, m3, m4⟩ := s_misses (σ := zb σ 152 0 (a, b, c, d)) (q := (a, b, c, d)) (rs := rbx (zb σ 152 0 (a, b, c, d)) L.length) ok hbx r1 r2 (by rw [rbx_len]; exact hL) (by rw [rbx_len]; exact h1.1) (by rw [rbx_len])
    have h169 := bMissAll_169 ok r1 r2 (by rw [rbx_len]; exact hL)
    rw [rbx_eq h1] at m3 m4 h169
    rw [m1, Option.bind_some]
    try dsimp +instances only
    have z : ∀ x j, x ≠ 150 → x ≠ 151 → x ≠ 143 → zu s1 143 32 0 x j = zb σ 152 0 (a, b, c, d) x j := fun x j k1 k2 k3 => (zu_a k3).trans (m2 x j k1 k2 (Or.inl k3))
    refine (t_prb39 (q := (a, b, c, d)) hL h169 zK 0 [] _ (Nat.zero_le _) (h1.mv (fun j _ => z 144 j (by decide) (by decide) (by decide)) (fun j _ _ => z 147 j (by decide) (by decide) (by decide)) (by omega)) ?_ ((zu_i (by decide)).trans m3) ?_ ⟨zu_e rfl, fun k hk => absurd hk (Nat.not_lt_zero _)⟩ (Nat.le_refl 0)).imp (fun v s p => ⟨fun _ => p, fun h => absurd ok h⟩)
    · rw [zu_bxa (by decide), frM_bx m2 (by decide) (by decide) (by decide)]
      exact hbx
    · refine (lstA_ext (fun i hi => ?_))
      have g := lstA_get (σ := s1) (a := 150) hi
      rw [m4, List.getElem?_eq_getElem hi] at g
      rw [zu_bxa (by decide)]
      exact (Option.some.inj g).symm
  · rw [s_isBox_f ok, Option.bind_some]
    try dsimp +instances only
    rw [if_neg (by decide)]
    exact zP'.ret ⟨fun h => absurd h ok, fun _ => ⟨rfl, rfl⟩⟩
theorem qu_probe {K : Int} {a b c d : Int} {σ : zS} (I : InvR K σ) : two (g_c_probe a b c d σ) (g_m_probe a b c d) (fun v w s => InvR K s ∧ v = w) := by
  obtain ⟨v, s1, e1, w, s2, e2, J⟩ := qr_probe (a := a) (b := b) (c := c) (d := d) I
  refine ⟨v, s1, e1, w, s2, e2, J, ?_⟩
  obtain ⟨L, ct, C, M, hR, hk, A, B, hL⟩ := R_open I
  obtain ⟨H1, G1, -⟩ := zO.at (g_c_probe_sp I.1.ci) e1
  have ref := fr_ref G1
  have Mm := M.mv (s := s1) (by omega) (fun j _ _ => ref 144 j (by decide) (by decide)) (fun j _ _ => ref 147 j (by decide) (by decide))
  have Rm := hR.mv (s := s1) (by omega) (fun j _ _ => ref 144 j (by decide) (by decide))
  obtain ⟨p1, p2⟩ := k_probeR (a := a) (b := b) (c := c) (d := d) C.1 hL hk (pw_of M.1 hR) v s1 e1
  obtain ⟨r1, r2⟩ := t_probeR (a := a) (b := b) (c := c) (d := d) Mm.1 Rm hL w s2 e2
  by_cases ok : bOk (a, b, c, d)
  · rw [(p1 ok).2, (r1 ok).2]
  · rw [(p2 ok).1, (r2 ok).1]
end
section
/-! 8t.pieceC -/
/-! THE PIECES between the calls alike -/
def PCe (σ : zS) : Prop := ∃ P : List Pc, cPc σ P ∧ mPc σ P ∧ P.length ≤ 181 ∧ ∀ p ∈ P, bOk p.1
theorem PCe_keep {σ s : zS} (h : PCe σ) (e : ∀ a j, ((a = 131 ∧ j = 1) ∨ (a = 132) ∨ (a = 133) ∨ (a = 143 ∧ j = 32) ∨ a = 165) → s a j = σ a j) : PCe s := by
  obtain ⟨P, h1, h2, h3, h4⟩ := h
  refine ⟨P, ⟨⟨(e 131 1 (by omega)).trans h1.1.1, fun k hk => (e 132 _ (by omega)).trans (h1.1.2 k hk)⟩, fun k hk => (e 133 _ (by omega)).trans (h1.2 k hk)⟩, ⟨(e 143 32 (by omega)).trans h2.1, fun k hk => ?_⟩, h3, h4⟩
  have g := h2.2 k hk
  unfold bxA at *
  rw [e 165 _ (by omega), e 165 _ (by omega), e 165 _ (by omega), e 165 _ (by omega), e 165 _ (by omega)]
  exact g
def pcV (P : List Pc) (a b : Int) : Int := if h : (0 ≤ a ∧ a < (P.length : Int)) ∧ 0 ≤ b ∧ b ≤ 4 then (if b < 4 then bSd (P[a.toNat]'(by omega)).1 b else (P[a.toNat]'(by omega)).2) else -1
theorem k_piece {σ : zS} {P : List Pc} {a b : Int} (h : cPc σ P) (hl : P.length ≤ 181) (ok : ∀ p ∈ P, bOk p.1) : zP' (g_c_piece a b σ) (fun v s => s = σ ∧ v = pcV P a b) := by
  have hm : (P.map (fun p => p.1)).length = P.length := List.length_map _
  have e1 : σ 131 1 = (P.length : Int) := h.1.1.trans (by rw [hm])
  unfold g_c_piece pcV
  try dsimp +instances only
  rw [e1]
  by_cases c : 0 ≤ a ∧ a < (P.length : Int)
  · obtain ⟨k, rfl⟩ : ∃ k : Nat, a = (k : Int) := ⟨a.toNat, by omega⟩
    have hk : k < P.length := by omega
    rw [if_neg (by omega), if_neg (by omega)]
    by_cases d0 : b < 0
    · rw [if_pos d0, dif_neg (by omega)]
      exact zP'.ret ⟨rfl, rfl⟩
    rw [if_neg d0]
    by_cases d1 : b ≤ 4
    case neg =>
      rw [if_neg d1, dif_neg (by omega)]
      exact zP'.ret ⟨rfl, rfl⟩
    rw [if_pos d1, dif_pos (show ((0 ≤ (k : Int) ∧ (k : Int) < (P.length : Int)) ∧ 0 ≤ b ∧ b ≤ 4) by omega)]
    by_cases d2 : 4 ≤ b
    · rw [if_pos d2, if_pos (by omega), if_neg (by omega)]
      exact zP'.ret ⟨rfl, h.2 k hk⟩
    · have z : zLI (131 + 1) = 181 := rfl
      have x : σ (131 + 1) (k : Int) = enc P[k].1 := by
        rw [h.1.2 k (by rw [hm]; exact hk), List.getElem_map]
      rw [if_neg d2, p_at (a := 131) (by omega) (by rw [e1]; omega) (by rw [z]; omega), Option.bind_some, x]
      try dsimp +instances only
      rw [p_side (ok _ (List.getElem_mem hk)).s (by omega), Option.bind_some, if_pos (by omega)]
      exact zP'.ret ⟨rfl, rfl⟩
  · rw [dif_neg (fun h => c h.1)]
    by_cases d : a < 0
    · rw [if_pos d]
      exact zP'.ret ⟨rfl, rfl⟩
    · rw [if_neg d, if_pos (by omega)]
      exact zP'.ret ⟨rfl, rfl⟩
theorem t_piece {σ : zS} {P : List Pc} {a b : Int} (h : mPc σ P) (hl : P.length ≤ 181) : zP' (g_m_piece a b σ) (fun v s => s = σ ∧ v = pcV P a b) := by
  unfold g_m_piece pcV
  try dsimp +instances only
  rw [h.1, w32_id (x := (P.length : Int) - 1) (by omega) (by omega)]
  by_cases c : 0 ≤ a ∧ a < (P.length : Int)
  · obtain ⟨k, rfl⟩ : ∃ k : Nat, a = (k : Int) := ⟨a.toNat, by omega⟩
    have hk : k < P.length := by omega
    obtain ⟨x1, x2⟩ := h.2 k hk
    rw [s_isIn_t (by omega) (by omega), Option.bind_some]
    try dsimp +instances only
    rw [if_neg (by decide)]
    by_cases d1 : 0 ≤ b ∧ b ≤ 4
    case neg =>
      rw [s_isIn_f (by omega), Option.bind_some]
      try dsimp +instances only
      rw [if_pos rfl, dif_neg (fun h => d1 h.2)]
      exact zP'.ret ⟨rfl, rfl⟩
    rw [s_isIn_t d1.1 d1.2, Option.bind_some]
    try dsimp +instances only
    rw [if_neg (by decide), w32_id (x := 5 * (k : Int)) (by omega) (by omega), w32_id (x := 5 * (k : Int) + b) (by omega) (by omega), if_pos (by omega), dif_pos (show ((0 ≤ (k : Int) ∧ (k : Int) < (P.length : Int)) ∧ 0 ≤ b ∧ b ≤ 4) by omega)]
    by_cases d2 : b < 4
    · rw [if_pos d2]
      refine zP'.ret ⟨rfl, ?_⟩
      show σ 165 (5 * (k : Int) + b) = bSd P[k].1 b
      rw [← x1]
      exact bxA_sd (by omega)
    · have hb4 : b = 4 := by omega
      rw [if_neg d2]
      refine zP'.ret ⟨rfl, ?_⟩
      show σ 165 (5 * (k : Int) + b) = P[k].2
      rw [hb4]
      exact x2
  · rw [s_isIn_f (by omega), Option.bind_some]
    try dsimp +instances only
    rw [if_pos rfl, dif_neg (fun h => c h.1)]
    exact zP'.ret ⟨rfl, rfl⟩
theorem bCom_1 {a b : Bx} (ha : bOk a) (hb : bOk b) (h : bMt a b) : bOk (bCom a b) := (bCom_ok ha hb h).1
theorem hvP_ok {q : Bx} (hq : bOk q) : ∀ L : List Rg, (∀ r ∈ L, bOk r.1) → ∀ p ∈ hvP q L, bOk p.1
  | [], _, p, hp => absurd hp List.not_mem_nil
  | r :: L, hL, p, hp => by
    have hp : p ∈ hvO q r ++ hvP q L := hp
    rcases List.mem_append.mp hp with k | k
    · by_cases c : bMt r.1 q
      · rw [hvO_t c] at k
        rw [List.mem_singleton.mp k]
        exact bCom_1 (hL r List.mem_cons_self) hq c
      · rw [hvO_f c] at k
        exact absurd k List.not_mem_nil
    · exact hvP_ok hq L (fun r hr => hL r (List.mem_cons_of_mem _ hr)) p k
theorem prbP_ok {q : Bx} {L : List Rg} (hq : bOk q) (hb : ∀ r ∈ L, bOk r.1) (hw : (L.map (fun r => r.1)).Pairwise (fun a b => ¬ bMt a b)) (hL : L.length ≤ 12) : (prbP q L).length ≤ 181 ∧ ∀ p ∈ prbP q L, bOk p.1 := by
  have hbm : ∀ r ∈ L.map (fun r => r.1), bOk r := fun r hr => by
    obtain ⟨x, hx, rfl⟩ := List.mem_map.mp hr
    exact hb x hx
  have h169 := bMissAll_169 hq hbm hw (by rw [List.length_map]; exact hL)
  have hinv := (bMissAll_inv hq _ hbm hw).1
  refine ⟨?_, fun p hp => ?_⟩
  · unfold prbP
    rw [List.length_append, List.length_map]
    have := hvP_le q L
    omega
  · rcases List.mem_append.mp hp with k | k
    · exact hvP_ok hq L hb p k
    · obtain ⟨x, hx, rfl⟩ := List.mem_map.mp k
      exact (hinv.1 x hx).1
end
section
/-! 8tz.run6 -/
/-! A WIDER FRAME of run() (printed by wip/zf2.py) -/
def frT6 (σ s : zS) : Prop := ∀ a j, (a < 143 ∨ 168 ≤ a ∨ a = 159 ∨ (163 ≤ a ∧ a ≤ 167) ∨ a = 145 ∨ a = 148 ∨ (a = 144 ∧ ((9 ≤ j ∧ j < 200) ∨ (260 ≤ j ∧ j < 340))) ∨ (a = 147 ∧ 1 ≤ j ∧ j < 61) ∨ (a = 143 ∧ (j = 6 ∨ j = 29 ∨ j = 32))) → s a j = σ a j
theorem y_MI_z20 {σ0 s : zS} (h : MI s) (f : frT6 σ0 s) : MI (zu s 143 20 0) ∧ zu s 143 20 0 143 20 = 0 ∧ frT6 σ0 (zu s 143 20 0) := by
  obtain ⟨s', e1, e2, e3, e4⟩ := m_clear h
  have q : s' = zu s 143 20 0 := by
    unfold g_m_clear at e1
    injection e1 with e1
    exact (congrArg Prod.snd e1).symm
  subst q
  exact ⟨e2, e3, fun a j hh => (e4 a j (by omega)).trans (f a j hh)⟩
theorem y_s_run145 {σ0 s : zS} {x : Int} (h : MI s) (f : frT6 σ0 s) : ∃ c s', g_m_run_L145 x s = some (c, s') ∧ MI s' ∧ s' 143 20 = 0 ∧ frT6 σ0 s' := by
  have e := y_MI_z20 h f
  unfold g_m_run_L145
  dsimp only
  split
  · exact ⟨_, _, rfl, e⟩
  · exact ⟨_, _, rfl, e⟩
theorem y_s_run86 {σ0 : zS} {K : Nat} (hK : K ≤ 8) : ∀ (d k n : Nat) (s : zS), k + d = K → d < n → MI s → frT6 σ0 s → (∀ t : Nat, t < K → qOk s t) → ∃ c s', g_m_run_L86 n (K : Int) (k : Int) s = some (c, s') ∧ MI s' ∧ s' 143 20 = 0 ∧ frT6 σ0 s'
  | _, _, 0, _, _, h, _, _, _ => absurd h (Nat.not_lt_zero _)
  | 0, k, n + 1, s, hk, _, h, f, _ => by
    unfold g_m_run_L86
    rw [if_pos (by omega)]
    exact y_s_run145 h f
  | d + 1, k, n + 1, s, hk, hn, h, f, hq => by
    have l161 : zLI 161 = 48 := rfl
    have l152 : zLI 152 = 4 := rfl
    unfold g_m_run_L86
    rw [if_neg (by omega), w32_id (x := 6 * (k : Int)) (by omega) (by omega), w32_id (x := 6 * (k : Int) + 1) (by omega) (by omega), s_copies (by omega) (by omega) (by omega) (by omega) (by omega) (by omega)]
    rw [Option.bind_some]
    try dsimp only
    rw [if_pos (by omega), w32_id (x := 6 * (k : Int) + 5) (by omega) (by omega), if_pos (by omega)]
    obtain ⟨qb, qt⟩ := hq k (by omega)
    generalize hs1 : zb s 152 0 (bxA s 161 (6 * (k : Int) + 1)) = s1
    have f1 : ∀ a j, a ≠ 152 → s1 a j = s a j := fun a j ha => by rw [← hs1]; exact zb_a ha
    have hb1 : bxA s1 152 0 = bxA s 161 (6 * (k : Int) + 1) := by rw [← hs1]; exact zb_bx rfl
    have h1 : MI s1 := MI_144 h (fun a j hh => f1 a j (by omega))
    obtain ⟨N, n1, n2, n3⟩ := h1.1
    have h20 := h1.2.2.1.1
    obtain ⟨v, s2, N', e1, e2, e3, e4, e5, e6⟩ := s_asked (x := s1 161 (6 * (k : Int))) (t := s1 161 (6 * (k : Int) + 5)) n3 n2 n1 qb hb1 h1.2.1.2.1.1 h1.2.1.2.1.2 h1.2.1.1.1 (fun s' hs' => tst_ok (by rw [hs' 143 20 (by omega) (by omega) (by omega) (by omega) (by omega) (by omega)]; exact h20) (by rw [f1 161 _ (by decide)]; omega))
    rw [e1]
    rw [Option.bind_some]
    try dsimp only
    rw [if_pos (by omega), w32_id (x := (k : Int) + 1) (by omega) (by omega)]
    have q : ∀ a j, (a < 143 ∨ 168 ≤ a ∨ a = 159 ∨ a = 161 ∨ (163 ≤ a ∧ a ≤ 167) ∨ a = 145 ∨ a = 148 ∨ (a = 144 ∧ ((9 ≤ j ∧ j < 200) ∨ (260 ≤ j ∧ j < 340))) ∨ (a = 147 ∧ 1 ≤ j ∧ j < 61) ∨ (a = 143 ∧ (j = 6 ∨ j = 20 ∨ j = 27 ∨ j = 29 ∨ j = 32))) → s2 a j = s1 a j := fun a j hh => e5 a j (by omega) (by omega) (by omega) (by omega) (by omega) (by omega) (by omega) (by omega)
    have hH2 : HI s2 := HI_fr h1.2.1 (fun j hj => e5 144 j (by omega) (by omega) (by omega) (by omega) (by omega) (by omega) (by omega) (by omega)) e6
    have h2 : MI s2 := MI_q h1 ⟨N', e4, e3, e2⟩ hH2 (fun a j hh => q a j (by omega))
    have h3 : MI (zu s2 162 (k : Int) v) := MI_144 h2 (fun a j hh => zu_a (by omega))
    obtain ⟨c, s', g1, g2⟩ := y_s_run86 (σ0 := σ0) hK d (k + 1) n (zu s2 162 (k : Int) v) (by omega) (by omega) h3 (fun a j hh => by rw [zu_a (by omega), q a j (by omega), f1 a j (by omega)]; exact f a j hh) (fun t ht => qOk_fr (hq t ht) (fun j _ _ => by rw [zu_a (by decide), q 161 j (by omega), f1 161 j (by decide)]))
    rw [show ((k + 1 : Nat) : Int) = (k : Int) + 1 by omega] at g1
    exact ⟨c, s', g1, g2⟩
theorem y_MI_Q2 {σ s : zS} (h : MI σ) (f : frQ2 σ s) : MI s ∧ frT6 σ s :=
  ⟨MI_144 h (fun a j hh => f a j (by omega) (by omega)), fun a j hh => f a j (by omega) (by omega)⟩
theorem y_s_runStop {σ0 s : zS} {n k : Nat} (h : MI σ0) (f : frQ2 σ0 s) (hk : 0 ≤ s 143 22 ∨ (k ≤ 8 ∧ ∀ t : Nat, t < k → qOk s t)) : ∃ c s', g_m_run_L8 (n + 1) (k : Int) 0 s = some (c, s') ∧ MI s' ∧ s' 143 20 = 0 ∧ frT6 σ0 s' := by
  obtain ⟨h1, f1⟩ := y_MI_Q2 h f
  unfold g_m_run_L8
  rw [if_pos rfl]
  dsimp only
  by_cases c : 0 ≤ s 143 22
  · rw [if_pos c]; exact y_s_run145 h1 f1
  · rw [if_neg c]
    obtain ⟨k8, hq⟩ := hk.resolve_left c
    have q : ∀ a j, ¬ (a = 143 ∧ j = 27) → zu s 143 27 (k : Int) a j = s a j := fun a j hh => zu_c (by omega)
    refine y_s_run86 k8 k 0 zK (zu s 143 27 (k : Int)) (by omega) (by show _ < 1000000; omega) ⟨NI_fr h1.1 (fun j _ => q 144 j (by omega)), HI_fr8 h1.2.1 (fun j _ _ => q 144 j (by omega)), ?_, II_fr h1.2.2.2 (q 143 6 (by omega)) (fun j => q 145 j (by omega))⟩ (fun a j hh => (q a j (by omega)).trans (f1 a j hh)) (fun t ht => qOk_fr (hq t ht) (fun j _ _ => q 161 j (by omega)))
    obtain ⟨x1, x2, x3, x4, x5⟩ := h1.2.2.1
    refine ⟨by rw [q 143 20 (by omega)]; exact x1, by rw [zu_e rfl]; omega, by rw [q 143 29 (by omega)]; exact x3, by rw [q 143 32 (by omega)]; exact x4, fun k hk => ?_⟩
    rw [q 166 _ (by omega)]
    exact x5 k hk
theorem y_s_run8 {σ0 : zS} (h : MI σ0) : ∀ (d k n : Nat) (s : zS), k + d = 8 → 1 ≤ d → d + 1 < n → frQ2 σ0 s → pI s → s 143 21 ≤ 160 → (0 ≤ s 143 22 ∨ ∀ t : Nat, t < k → qOk s t) → ∃ c s', g_m_run_L8 n (k : Int) 1 s = some (c, s') ∧ MI s' ∧ s' 143 20 = 0 ∧ frT6 σ0 s' := by
  intro d
  induction d with
  | zero => intro k n s _ h1; omega
  | succ d ih =>
    intro k n s hk _ hn f p p5 hq
    obtain ⟨n, rfl⟩ : ∃ m, n = m + 2 := ⟨n - 2, by omega⟩
    unfold g_m_run_L8
    rw [if_neg (by decide)]
    obtain ⟨b, s1, e1, e2, e3, e4, e5⟩ := s_isQuery (k := k) (by omega) p p5
    rw [e1]
    rw [Option.bind_some]
    try dsimp only
    obtain ⟨p1, p15⟩ := pI_160 p p5 e2
    have f1 := f.trans e3
    rw [w32_id (x := (k : Int) + 1) (by omega) (by omega), show (k : Int) + 1 = ((k + 1 : Nat) : Int) by omega]
    have hb := e2
    unfold pO at hb
    by_cases c : b = 0
    · rw [if_pos c]
      unfold g_m_run_L41
      rw [if_pos c, c]
      exact y_s_runStop h f1 (Or.inl (hb.2.2.2.2.2 c))
    · have hb1 : b = 1 := by omega
      have hq1 : 0 ≤ s1 143 22 ∨ ∀ t : Nat, t < k + 1 → qOk s1 t := by
        rcases hq with hq | hq
        · exact Or.inl (hb.2.2.2.2.1 hq)
        · refine Or.inr (fun t ht => ?_)
          by_cases ct : t = k
          · subst ct; exact e5 hb1
          · exact qOk_fr (hq t (by omega)) (fun j _ j2 => e4 j (by omega))
      rw [if_neg c]
      by_cases c2 : s1 143 21 ≠ s1 143 20
      · rw [if_pos c2]
        unfold g_m_run_L41
        rw [if_neg c]
        by_cases c3 : 8 ≤ ((k + 1 : Nat) : Int)
        · rw [if_pos c3]
          obtain ⟨s2, g1, g2, g3⟩ := s_failsO p1
          dsimp only
          rw [g1]
          rw [Option.bind_some]
          try dsimp only
          unfold g_m_run_L68
          unfold pO at g2
          exact y_s_runStop h (f1.trans (frQ2.of g3)) (Or.inl (g2.2.2.2.2.2 rfl))
        · rw [if_neg c3]
          obtain ⟨b2, s2, g1, g2, g3⟩ := s_isSign (x := 59) p1 (by decide)
          rw [g1]
          rw [Option.bind_some]
          try dsimp only
          unfold g_m_run_L68
          have g4 := g2
          unfold pO at g4
          obtain ⟨p2, p25⟩ := pI_160 p1 p15 g2
          by_cases c4 : b2 = 0
          · rw [c4]
            exact y_s_runStop h (f1.trans (frQ2.of g3)) (Or.inl (g4.2.2.2.2.2 c4))
          · have hb2 : b2 = 1 := by omega
            rw [hb2]
            refine ih (k + 1) (n + 1) s2 (by omega) (by omega) (by omega) (f1.trans (frQ2.of g3)) p2 p25 ?_
            rcases hq1 with hq1 | hq1
            · exact Or.inl (g4.2.2.2.2.1 hq1)
            · exact Or.inr (fun t ht => qOk_fr (hq1 t ht) (fun j _ _ => g3 161 j (by omega)))
      · rw [if_neg c2]
        refine y_s_runStop h f1 ?_
        rcases hq1 with hq1 | hq1
        · exact Or.inl hq1
        · exact Or.inr ⟨by omega, hq1⟩
theorem y_m_run2 {σ : zS} (h : MI σ) : ∃ c s, g_m_run σ = some (c, s) ∧ MI s ∧ s 143 20 = 0 ∧ frT6 σ s := by
  unfold g_m_run g_m_begins
  rw [Option.bind_some]
  try dsimp only
  have f1 : frQ2 σ (zu (zu σ 143 21 0) 143 22 (-1)) := fun a j k1 k2 => by rw [zu_c (by omega), zu_c (by omega)]
  have h20 := h.2.2.1.1
  have q20 : zu (zu σ 143 21 0) 143 22 (-1) 143 20 = σ 143 20 := f1 143 20 (by decide) (by omega)
  have q21 : zu (zu σ 143 21 0) 143 22 (-1) 143 21 = 0 := by rw [zu_i (by omega), zu_e rfl]
  exact y_s_run8 h 8 0 zK _ rfl (by omega) (by show _ < 1000000; omega) f1 ⟨by rw [q20]; omega, by rw [q20]; omega, by rw [q21]; omega⟩ (by rw [q21]; omega) (Or.inr (fun t ht => absurd ht (Nat.not_lt_zero _)))
theorem f_run6 {σ : zS} (h : MI σ) : zP' (g_m_run σ) (fun _ s => frT6 σ s) := by
  obtain ⟨v, s, e, -, -, e3⟩ := y_m_run2 h
  rw [e]
  exact zP'.ret e3
end
section
/-! 8xa.page -/
/-! THE PAGE: what the class's builder holds -/
def frPg (σ s : zS) : Prop := ∀ a j, a ≠ 129 → a ≠ 168 → a ≠ 169 → s a j = σ a j
theorem frPg.refl (σ : zS) : frPg σ σ := fun _ _ _ _ _ => rfl
theorem frPg.trans {σ s t : zS} (h1 : frPg σ s) (h2 : frPg s t) : frPg σ t := fun a j a1 a2 a3 => (h2 a j a1 a2 a3).trans (h1 a j a1 a2 a3)
def pg (σ : zS) (T : List Int) : Prop := σ 129 3 = (T.length : Int) ∧ ((T.length : Int) ≤ σ 169 0 ∧ (T.length : Int) ≤ 60000) ∧ σ 129 1 = 0 ∧ ∀ (k : Nat) (hk : k < T.length), σ 168 (k : Int) = T[k]
theorem p_isL {σ : zS} (h : σ 129 1 = 0) : g_jAbstractStringBuilder_isLatin1 σ = some (1, σ) := by
  unfold g_jAbstractStringBuilder_isLatin1
  try dsimp +instances only
  rw [if_neg (by decide), h, if_neg (fun e => e rfl)]
theorem pg_ens {x : Int} {T : List Int} {σ : zS} (h : pg σ T) : zP' (g_sb_ensure x σ) (fun _ s => pg s T ∧ (x ≤ s 169 0 ∧ x ≤ 60000) ∧ frPg σ s ∧ ∀ j, 0 ≤ j → j < σ 169 0 → s 168 j = σ 168 j) := by
  unfold g_sb_ensure
  refine zP'.ite (fun c => ?_) (fun _ => zP'.no)
  refine zP'.ite (fun d => zP'.ret ⟨h, ⟨d, c.2.1⟩, fun _ _ _ _ _ => rfl, fun _ _ _ => rfl⟩) (fun d => ?_)
  obtain ⟨h1, h2, h3, h4⟩ := h
  have e0 : zgw σ x 169 0 = if x ≤ 2 * σ 169 0 + 2 then 2 * σ 169 0 + 2 else x := if_pos ⟨rfl, rfl⟩
  have e : ∀ a j, a ≠ 168 → a ≠ 169 → zgw σ x a j = σ a j := fun a j a1 a2 => by
    unfold zgw
    rw [if_neg (fun h => a2 h.1), if_neg (fun h => a1 h.1)]
  have ex : x ≤ zgw σ x 169 0 ∧ σ 169 0 ≤ zgw σ x 169 0 := by
    rw [e0]
    split <;> omega
  have e8 : ∀ j, 0 ≤ j → j < σ 169 0 → zgw σ x 168 j = σ 168 j := fun j j1 j2 => by
    unfold zgw
    rw [if_neg (fun h => absurd h.1 (by decide)), if_neg (fun h => h.2 ⟨j1, j2⟩)]
  exact zP'.ret ⟨⟨(e 129 3 (by decide) (by decide)).trans h1, ⟨by show _ ≤ zgw σ x 169 0; omega, h2.2⟩, (e 129 1 (by decide) (by decide)).trans h3, fun k hk => (e8 _ (by omega) (by omega)).trans (h4 k hk)⟩, ⟨ex.1, c.2.1⟩, fun a j a1 a2 a3 => e a j a2 a3, e8⟩
/-- a char more -/
theorem pg_c {c : Int} {T : List Int} {σ : zS} (h : pg σ T) (hc : 0 ≤ c ∧ c ≤ 127) : zP' (g_jStringBuilder_append_303 c σ) (fun _ s => pg s (T ++ [c]) ∧ frPg σ s) := by
  unfold g_jStringBuilder_append_303 g_jAbstractStringBuilder_append_279
  refine zP'.bind (P := fun _ s => pg s (T ++ [c]) ∧ frPg σ s) ?_ (fun _ s p => zP'.ret p)
  try dsimp +instances only
  have hl := h.2.1
  have hn := h.1
  refine zP'.bind (pg_ens h) (fun _ s p => ?_)
  obtain ⟨⟨h1, h2, h3, h4⟩, px, pf, -⟩ := p
  try dsimp +instances only
  rw [p_isL h3, Option.bind_some]
  try dsimp +instances only
  rw [if_neg (by decide)]
  unfold g_jStringLatin1_canEncode_309
  rw [if_neg (show ¬ 255 < c by omega), Option.bind_some]
  try dsimp +instances only
  rw [if_neg (by decide), h1, w32_id (x := (T.length : Int) + 1) (by omega) (by omega)]
  rw [hn, w32_id (x := (T.length : Int) + 1) (by omega) (by omega)] at px
  have e9 : zu s 129 3 ((T.length : Int) + 1) 169 0 = s 169 0 := zu_a (by decide)
  rw [e9, if_pos (by omega), w8_id (x := c) (by omega) (by omega), w8_id (x := c) (by omega) (by omega)]
  have hL : (T ++ [c]).length = T.length + 1 := by
    rw [List.length_append]
    rfl
  refine zP'.ret ⟨⟨?_, ⟨?_, ?_⟩, ?_, fun k hk => ?_⟩, fun a j a1 a2 a3 => ?_⟩
  · rw [zu_a (by decide), zu_e rfl, hL]
    omega
  · rw [zu_a (by decide), zu_a (by decide), hL]
    omega
  · rw [hL]
    omega
  · rw [zu_a (by decide), zu_i (by decide)]
    exact h3
  · rw [app_at hk]
    by_cases ck : k < T.length
    · rw [dif_pos ck, zu_i (by omega), zu_a (by decide)]
      exact h4 k ck
    · rw [dif_neg ck, zu_e (by omega)]
  · rw [zu_a a2, zu_a a1]
    exact pf a j a1 a2 a3
/-- a word more -/
def wd (a n : Nat) : List Int := (List.range n).map (fun i : Nat => zs0 a (i : Int))
theorem pg_w {a n : Nat} {T : List Int} {σ : zS} (h : pg σ T) (hz : zLI (a + 18) = (n : Int)) (hn : n ≤ 100) : zP' (g_jStringBuilder_append_302 a σ) (fun _ s => pg s (T ++ wd (a + 18) n) ∧ frPg σ s) := by
  unfold g_jStringBuilder_append_302 g_jAbstractStringBuilder_append_278
  refine zP'.bind (P := fun _ s => pg s (T ++ wd (a + 18) n) ∧ frPg σ s) ?_ (fun _ s p => zP'.ret p)
  have hl := h.2.1
  have hn1 := h.1
  have cd : ∀ s, g_jString_coder a s = some (0, s) := fun s => by
    unfold g_jString_coder
    rw [if_neg (by decide)]
  have ln : g_jString_length a σ = some ((n : Int), σ) := by
    unfold g_jString_length
    rw [cd, Option.bind_some, hz]
    try dsimp +instances only
    rw [iShr0 (by omega) (by omega)]
  rw [ln, Option.bind_some]
  try dsimp +instances only
  refine zP'.bind (pg_ens h) (fun _ s p => ?_)
  obtain ⟨⟨h1, h2, h3, h4⟩, px, pf, -⟩ := p
  try dsimp +instances only
  rw [hn1, w32_id (x := (T.length : Int) + (n : Int)) (by omega) (by omega)] at px
  unfold g_jAbstractStringBuilder_putStringAt g_jAbstractStringBuilder_inflateIfNeededFor
  rw [if_neg (by decide), cd, Option.bind_some]
  try dsimp +instances only
  rw [h3, if_pos rfl, Option.bind_some]
  try dsimp +instances only
  unfold g_jString_getBytes
  rw [cd, Option.bind_some]
  try dsimp +instances only
  rw [h3, if_neg (fun e => e rfl), hz, h1, iShl0 (x := (T.length : Int)) (by omega) (by omega), if_pos (by omega)]
  rw [Option.bind_some, Option.bind_some]
  try dsimp +instances only
  have z : ∀ a' j, a' ≠ 168 → zcP s (a + 18) 0 (T.length : Int) (n : Int) a' j = s a' j := fun a' j k => if_neg (fun h => k h.1)
  rw [z 129 3 (by decide), h1, w32_id (x := (T.length : Int) + (n : Int)) (by omega) (by omega)]
  have hw : (wd (a + 18) n).length = n := by
    unfold wd
    rw [List.length_map, List.length_range]
  have hL : (T ++ wd (a + 18) n).length = T.length + n := by
    rw [List.length_append, hw]
  refine zP'.ret ⟨⟨?_, ⟨?_, ?_⟩, ?_, fun k hk => ?_⟩, fun a' j a1 a2 a3 => ?_⟩
  · rw [zu_e rfl, hL]
    omega
  · rw [zu_a (by decide), z 169 0 (by decide), hL]
    omega
  · rw [hL]
    omega
  · rw [zu_i (by decide), z 129 1 (by decide)]
    exact h3
  · rw [zu_a (by decide)]
    rw [hL] at hk
    by_cases ck : k < T.length
    · rw [List.getElem_append_left ck]
      have e : zcP s (a + 18) 0 (T.length : Int) (n : Int) 168 (k : Int) = s 168 (k : Int) := if_neg (fun h => by omega)
      rw [e]
      exact h4 k ck
    · rw [List.getElem_append_right (by omega)]
      have e : zcP s (a + 18) 0 (T.length : Int) (n : Int) 168 (k : Int) = zs0 (a + 18) (0 + ((k : Int) - (T.length : Int))) := if_pos ⟨rfl, by omega, by omega⟩
      rw [e]
      unfold wd
      rw [List.getElem_map, List.getElem_range, show (0 : Int) + ((k : Int) - (T.length : Int)) = ((k - T.length : Nat) : Int) by omega]
  · rw [zu_a a1, z a' j a2]
    exact pf a' j a1 a2 a3
/-! digits -/
def dcF : Nat → Nat → List Int
  | 0, _ => []
  | f + 1, v => if v ≤ 9 then [48 + (v : Int)] else dcF f (v / 10) ++ [48 + ((v % 10 : Nat) : Int)]
theorem dcF_1 {f v : Nat} (h : v ≤ 9) : dcF (f + 1) v = [48 + (v : Int)] := if_pos h
theorem dcF_2 {f v : Nat} (h : ¬ v ≤ 9) : dcF (f + 1) v = dcF f (v / 10) ++ [48 + ((v % 10 : Nat) : Int)] := if_neg h
theorem dcF_100 {f v : Nat} (h : 100 ≤ v) : dcF (f + 2) v = dcF f (v / 100) ++ [48 + ((v / 10 % 10 : Nat) : Int), 48 + ((v % 10 : Nat) : Int)] := by
  rw [dcF_2 (by omega), dcF_2 (by omega), Nat.div_div_eq_div_mul, List.append_assoc]
  rfl
theorem dc_len : ∀ (i f v : Nat), 1 ≤ i → i ≤ f → (i = 1 ∨ 10 ^ (i - 1) ≤ v) → v < 10 ^ i → (dcF f v).length = i
  | 0, _, _, h, _, _, _ => absurd h (by decide)
  | _, 0, _, h1, h2, _, _ => by omega
  | 1, f + 1, v, _, _, _, h => by
    have h : v < 10 := h
    rw [dcF_1 (by omega)]
    rfl
  | i + 2, f + 1, v, _, h2, h3, h4 => by
    have h3 : 10 ^ (i + 1) ≤ v := by
      rcases h3 with h | h
      · omega
      · exact h
    have p1 : 10 ^ (i + 1) = 10 ^ i * 10 := Nat.pow_succ 10 i
    have p2 : 10 ^ (i + 2) = 10 ^ (i + 1) * 10 := Nat.pow_succ 10 (i + 1)
    have p0 : 0 < 10 ^ i := Nat.pow_pos (by decide)
    have ih := dc_len (i + 1) f (v / 10) (by omega) (by omega) (Or.inr (by show 10 ^ i ≤ v / 10; omega)) (by omega)
    rw [dcF_2 (by omega), List.length_append, ih]
    rfl
theorem dc_len1 : ∀ (f v : Nat), v < 10 ^ f → 1 ≤ f → ∃ i, 1 ≤ i ∧ i ≤ f ∧ (i = 1 ∨ 10 ^ (i - 1) ≤ v) ∧ v < 10 ^ i
  | 0, _, _, h => absurd h (by decide)
  | 1, v, h, _ => ⟨1, Nat.le_refl 1, Nat.le_refl 1, Or.inl rfl, h⟩
  | f + 2, v, h, _ => by
    by_cases c : v < 10 ^ (f + 1)
    · obtain ⟨i, a, b, c, d⟩ := dc_len1 (f + 1) v c (by omega)
      exact ⟨i, a, by omega, c, d⟩
    · exact ⟨f + 2, by omega, Nat.le_refl _, Or.inr (by show 10 ^ (f + 1) ≤ v; omega), h⟩
theorem p_size16 {v : Nat} (hv : v < 1000000000) {f : Nat} (hf : 9 ≤ f) {σ : zS} : ∀ (n i : Nat), 1 ≤ i → i ≤ 9 → (i = 1 ∨ 10 ^ (i - 1) ≤ v) → zP' (g_jInteger_stringSize_L16 n (-(v : Int)) 0 (-((10 ^ i : Nat) : Int)) (i : Int) σ) (fun w s => s = σ ∧ w = ((dcF f v).length : Int))
  | 0, _, _, _, _ => zP'.no
  | n + 1, i, h1, h9, hp => by
    have p9 : 10 ^ i ≤ 10 ^ 9 := Nat.pow_le_pow_right (by decide) h9
    have p9 : 10 ^ i ≤ 1000000000 := p9
    unfold g_jInteger_stringSize_L16
    rw [if_neg (by omega)]
    by_cases c : v < 10 ^ i
    · rw [if_neg (by omega), dc_len i f v h1 (by omega) hp c, w32_id (x := (i : Int) + 0) (by omega) (by omega)]
      exact zP'.ret ⟨rfl, by omega⟩
    · have h8 : i ≠ 9 := fun e => by
        subst e
        have : (10 : Nat) ^ 9 = 1000000000 := by decide
        omega
      have p1 : 10 ^ (i + 1) = 10 ^ i * 10 := Nat.pow_succ 10 i
      have p10 : 10 ^ (i + 1) ≤ 10 ^ 9 := Nat.pow_le_pow_right (by decide) (by omega)
      have p10 : 10 ^ (i + 1) ≤ 1000000000 := p10
      have e : w32 (10 * (-((10 ^ i : Nat) : Int))) = -((10 ^ (i + 1) : Nat) : Int) := by
        rw [w32_id (by omega) (by omega)]
        omega
      rw [if_pos (by omega), e, w32_id (x := (i : Int) + 1) (by omega) (by omega), show (i : Int) + 1 = ((i + 1 : Nat) : Int) by omega]
      exact p_size16 hv hf n (i + 1) (by omega) (by omega) (Or.inr (by show 10 ^ i ≤ v; omega))
theorem p_size {v : Nat} (hv : v < 1000000000) {f : Nat} (hf : 9 ≤ f) {σ : zS} : zP' (g_jInteger_stringSize (v : Int) σ) (fun w s => s = σ ∧ w = ((dcF f v).length : Int)) := by
  unfold g_jInteger_stringSize g_jInteger_stringSize_L11
  rw [if_neg (by omega), w32_id (x := -(v : Int)) (by omega) (by omega)]
  have h := p_size16 hv hf (σ := σ) zK 1 (Nat.le_refl 1) (by decide) (Or.inl rfl)
  exact h
theorem dg_tab : ∀ r : Fin 100, zs0 37 ((r.val : Nat) : Int) = 48 + ((r.val % 10 : Nat) : Int) ∧ zs0 38 ((r.val : Nat) : Int) = 48 + ((r.val / 10 : Nat) : Int) := by decide +kernel
theorem dg_1 {x : Int} {r : Nat} (h : r < 100) (e : x = (r : Int)) : zs0 37 x = 48 + ((r % 10 : Nat) : Int) ∧ zs0 38 x = 48 + ((r / 10 : Nat) : Int) := by
  subst e
  exact dg_tab ⟨r, h⟩
/-- the digits stand before a place -/
def segB (s : zS) (p : Int) (D : List Int) : Prop := ∀ (k : Nat) (hk : k < D.length), s 168 (p - (D.length : Int) + (k : Int)) = D[k]
theorem segB.app {s t : zS} {p q : Int} {D E : List Int} (h : segB s q D) (hq : q = p - (E.length : Int)) (he : ∀ (k : Nat) (hk : k < E.length), t 168 (q + (k : Int)) = E[k]) (ht : ∀ j, j < q → t 168 j = s 168 j) : segB t p (D ++ E) := fun k hk => by
  have hl : (D ++ E).length = D.length + E.length := List.length_append
  rw [hl] at hk
  by_cases c : k < D.length
  · rw [List.getElem_append_left c, ← h k c, ht _ (by rw [hl]; omega), hl]
    congr 1
    omega
  · rw [List.getElem_append_right (by omega), ← he (k - D.length) (by omega), hl]
    congr 1
    omega
theorem p_ch22 : ∀ (n f v : Nat) (p : Int) (σ : zS), v < 10 ^ f → 1 ≤ f → v < 1000000000 → p ≤ 100000 → (dcF f v).length ≤ p → zP' (g_jInteger_getChars_L22 n (-(v : Int)) p 0 σ) (fun _ s => segB s p (dcF f v) ∧ (∀ j, (j < p - ((dcF f v).length : Int) ∨ p ≤ j) → s 168 j = σ 168 j) ∧ ∀ a j, a ≠ 168 → s a j = σ a j)
  | 0, _, _, _, _, _, _, _, _, _ => zP'.no
  | n + 1, f, v, p, σ, hv, hf, hb, hp1, hp => by
    unfold g_jInteger_getChars_L22
    by_cases c : v < 100
    · rw [if_pos (by omega), w32_id (x := -(-(v : Int))) (by omega) (by omega), if_pos (by omega)]
      obtain ⟨t1, t2⟩ := dg_1 (x := -(-(v : Int))) (r := v) c (by omega)
      try dsimp +instances only
      rw [t1, t2]
      cases f with
      | zero => exact absurd hf (by decide)
      | succ f =>
        by_cases c9 : v ≤ 9
        · rw [dcF_1 c9] at hp ⊢
          have hp : (1 : Int) ≤ p := by
            have : ([48 + (v : Int)] : List Int).length = 1 := rfl
            omega
          rw [w32_id (x := p - 1) (by omega) (by omega)]
          refine zP'.gd (fun c2 => ?_)
          try dsimp +instances only
          rw [if_pos (by omega)]
          unfold g_jInteger_getChars_L104
          rw [if_pos rfl, w8_id (by omega) (by omega)]
          refine zP'.ret ⟨fun k hk => ?_, fun j hj => ?_, fun a j k => zu_a k⟩
          · have hk : k < 1 := hk
            have ek : k = 0 := by omega
            subst ek
            show zu σ 168 (p - 1) (48 + ((v % 10 : Nat) : Int)) 168 (p - ((1 : Nat) : Int) + ((0 : Nat) : Int)) = 48 + (v : Int)
            rw [zu_e (by omega), Nat.mod_eq_of_lt (by omega)]
          · have hj : j < p - ((1 : Nat) : Int) ∨ p ≤ j := hj
            exact zu_i (by omega)
        · cases f with
          | zero =>
            have : v < 10 := hv
            omega
          | succ f =>
            rw [dcF_2 c9, dcF_1 (by omega)] at hp ⊢
            have hp : (2 : Int) ≤ p := by
              have : ([48 + ((v / 10 : Nat) : Int)] ++ [48 + ((v % 10 : Nat) : Int)] : List Int).length = 2 := rfl
              omega
            rw [w32_id (x := p - 1) (by omega) (by omega)]
            refine zP'.gd (fun c2 => ?_)
            try dsimp +instances only
            rw [if_neg (by omega), if_pos (by omega), w32_id (x := p - 1 - 1) (by omega) (by omega)]
            refine zP'.gd (fun c3 => ?_)
            try dsimp +instances only
            unfold g_jInteger_getChars_L104
            rw [if_pos rfl, w8_id (x := 48 + ((v % 10 : Nat) : Int)) (by omega) (by omega), w8_id (x := 48 + ((v / 10 : Nat) : Int)) (by omega) (by omega)]
            refine zP'.ret ⟨fun k hk => ?_, fun j hj => ?_, fun a j k => (zu_a k).trans (zu_a k)⟩
            · have hk : k < 2 := hk
              have ek : k = 0 ∨ k = 1 := by omega
              rcases ek with rfl | rfl
              · show zu (zu σ 168 (p - 1) (48 + ((v % 10 : Nat) : Int))) 168 (p - 1 - 1) (48 + ((v / 10 : Nat) : Int)) 168 (p - ((2 : Nat) : Int) + ((0 : Nat) : Int)) = 48 + ((v / 10 : Nat) : Int)
                rw [zu_e (by omega)]
              · show zu (zu σ 168 (p - 1) (48 + ((v % 10 : Nat) : Int))) 168 (p - 1 - 1) (48 + ((v / 10 : Nat) : Int)) 168 (p - ((2 : Nat) : Int) + ((1 : Nat) : Int)) = 48 + ((v % 10 : Nat) : Int)
                rw [zu_i (by omega), zu_e (by omega)]
            · have hj : j < p - ((2 : Nat) : Int) ∨ p ≤ j := hj
              rw [zu_i (by omega), zu_i (by omega)]
    · obtain ⟨f, rfl⟩ : ∃ g, f = g + 3 := by
        have h3 : 3 ≤ f := Classical.byContradiction (fun h => by
          have : f = 1 ∨ f = 2 := by omega
          rcases this with rfl | rfl
          · have : v < 10 := hv
            omega
          · have : v < 100 := hv
            omega)
        exact ⟨f - 3, by omega⟩
      have hq : Int.tdiv (-(v : Int)) 100 = -((v / 100 : Nat) : Int) := by
        rw [Int.neg_tdiv, Int.tdiv_eq_ediv_of_nonneg (by omega)]
        omega
      have hd : dcF (f + 3) v = dcF (f + 1) (v / 100) ++ [48 + ((v / 10 % 10 : Nat) : Int), 48 + ((v % 10 : Nat) : Int)] := dcF_100 (by omega)
      have hL : (dcF (f + 3) v).length = (dcF (f + 1) (v / 100)).length + 2 := by
        rw [hd, List.length_append]
        rfl
      have er : w32 (w32 (w32 (Int.tdiv (-(v : Int)) 100) * 100) - (-(v : Int))) = ((v % 100 : Nat) : Int) := by
        rw [hq, w32_id (x := -((v / 100 : Nat) : Int)) (by omega) (by omega), w32_id (x := -((v / 100 : Nat) : Int) * 100) (by omega) (by omega), w32_id (by omega) (by omega)]
        omega
      have eq2 : w32 (Int.tdiv (-(v : Int)) 100) = -((v / 100 : Nat) : Int) := by
        rw [hq, w32_id (by omega) (by omega)]
      rw [if_neg (by omega), er, if_pos (by omega)]
      obtain ⟨t1, t2⟩ := dg_1 (x := ((v % 100 : Nat) : Int)) (r := v % 100) (by omega) rfl
      try dsimp +instances only
      rw [t1, t2, w32_id (x := p - 1) (by omega) (by omega)]
      refine zP'.gd (fun c2 => ?_)
      try dsimp +instances only
      rw [if_pos (by omega), w32_id (x := p - 1 - 1) (by omega) (by omega)]
      refine zP'.gd (fun c3 => ?_)
      try dsimp +instances only
      rw [eq2, w8_id (x := 48 + ((v % 100 % 10 : Nat) : Int)) (by omega) (by omega), w8_id (x := 48 + ((v % 100 / 10 : Nat) : Int)) (by omega) (by omega)]
      have p3 : 10 ^ (f + 3) = 10 ^ (f + 1) * 100 := by
        rw [Nat.pow_succ, Nat.pow_succ, Nat.mul_assoc]
      refine (p_ch22 n (f + 1) (v / 100) (p - 1 - 1) _ (by rw [p3] at hv; omega) (by omega) (by omega) (by omega) (by omega)).imp (fun _ s g => ?_)
      obtain ⟨g1, g2, g3⟩ := g
      refine ⟨?_, fun j hj => ?_, fun a j k => (g3 a j k).trans ((zu_a k).trans (zu_a k))⟩
      · rw [hd]
        refine g1.app (E := [48 + ((v / 10 % 10 : Nat) : Int), 48 + ((v % 10 : Nat) : Int)]) (by show p - 1 - 1 = p - ((2 : Nat) : Int); omega) (fun k hk => ?_) (fun _ _ => rfl)
        have hk : k < 2 := hk
        have ek : k = 0 ∨ k = 1 := by omega
        rcases ek with rfl | rfl
        · rw [g2 _ (by omega), zu_e (by omega)]
          show 48 + ((v % 100 / 10 : Nat) : Int) = 48 + ((v / 10 % 10 : Nat) : Int)
          omega
        · rw [g2 _ (by omega), zu_i (by omega), zu_e (by omega)]
          show 48 + ((v % 100 % 10 : Nat) : Int) = 48 + ((v % 10 : Nat) : Int)
          omega
      · rw [hL] at hj
        rw [g2 j (by omega), zu_i (by omega), zu_i (by omega)]
def dc (v : Int) : List Int := dcF 9 v.toNat
/-- a number more -/
theorem pg_n {v : Int} {T : List Int} {σ : zS} (h : pg σ T) (hv : 0 ≤ v ∧ v < 1000000000) : zP' (g_jStringBuilder_append_304 v σ) (fun _ s => pg s (T ++ dc v) ∧ frPg σ s) := by
  obtain ⟨v, rfl⟩ : ∃ n : Nat, v = (n : Int) := ⟨v.toNat, by omega⟩
  unfold dc
  rw [Int.toNat_natCast]
  have hv : v < 1000000000 := by omega
  have hv9 : v < 10 ^ 9 := hv
  unfold g_jStringBuilder_append_304 g_jAbstractStringBuilder_append_280
  refine zP'.bind (P := fun _ s => pg s (T ++ dcF 9 v) ∧ frPg σ s) ?_ (fun _ s p => zP'.ret p)
  try dsimp +instances only
  have hl := h.2.1
  have hn := h.1
  obtain ⟨i, i1, i2, i3, i4⟩ := dc_len1 9 v hv9 (by decide)
  have hi := dc_len i 9 v i1 i2 i3 i4
  refine zP'.bind (p_size (f := 9) hv (Nat.le_refl 9)) (fun w s p => ?_)
  obtain ⟨rfl, rfl⟩ := p
  try dsimp +instances only
  rw [hn, w32_id (x := (T.length : Int) + ((dcF 9 v).length : Int)) (by omega) (by omega)]
  refine zP'.bind (pg_ens h) (fun _ t p => ?_)
  obtain ⟨⟨h1, h2, h3, h4⟩, px, pf, -⟩ := p
  try dsimp +instances only
  rw [p_isL h3, Option.bind_some]
  try dsimp +instances only
  rw [if_neg (by decide)]
  unfold g_jInteger_getChars g_jInteger_getChars_L12
  rw [if_pos (by omega), if_neg (fun e => e rfl), w32_id (x := -(v : Int)) (by omega) (by omega)]
  refine zP'.bind (p_ch22 zK 9 v ((T.length : Int) + ((dcF 9 v).length : Int)) t hv9 (by decide) hv (by omega) (by omega)) (fun _ u p => ?_)
  obtain ⟨g1, g2, g3⟩ := p
  unfold g_jAbstractStringBuilder_append_280_L48
  try dsimp +instances only
  have hL : (T ++ dcF 9 v).length = T.length + (dcF 9 v).length := List.length_append
  refine zP'.ret ⟨⟨?_, ⟨?_, ?_⟩, ?_, fun k hk => ?_⟩, fun a j a1 a2 a3 => ?_⟩
  · rw [zu_e rfl, hL]
    omega
  · rw [zu_a (by decide), g3 169 0 (by decide), hL]
    omega
  · rw [hL]
    omega
  · rw [zu_i (by decide), g3 129 1 (by decide)]
    exact h3
  · rw [zu_a (by decide)]
    rw [hL] at hk
    by_cases c : k < T.length
    · rw [List.getElem_append_left c, g2 _ (by omega)]
      exact h4 k c
    · rw [List.getElem_append_right (by omega), ← g1 (k - T.length) (by omega)]
      congr 1
      omega
  · rw [zu_a a1, g3 a j a2]
    exact pf a j a1 a2 a3
theorem pg_0 {T : List Int} {σ : zS} (h : pg σ T) : zP' (g_jStringBuilder_setLength 0 σ) (fun _ s => pg s [] ∧ frPg σ s) := by
  unfold g_jStringBuilder_setLength g_jAbstractStringBuilder_setLength
  refine zP'.bind (P := fun _ s => pg s [] ∧ frPg σ s) ?_ (fun _ s p => zP'.ret p)
  rw [if_pos (by decide)]
  refine zP'.bind (pg_ens h) (fun _ t p => ?_)
  obtain ⟨⟨h1, h2, h3, h4⟩, px, pf, -⟩ := p
  try dsimp +instances only
  rw [h1, if_pos (by omega)]
  have fin : ∀ s : zS, s 129 1 = 0 → s 169 0 = t 169 0 → frPg σ s → zP' (g_jAbstractStringBuilder_setLength_L76 0 s) (fun _ s => pg s [] ∧ frPg σ s) := fun s k1 k2 k3 => by
    unfold g_jAbstractStringBuilder_setLength_L76
    try dsimp +instances only
    refine zP'.ret ⟨⟨zu_e rfl, ⟨?_, by decide⟩, (zu_i (by decide)).trans k1, fun k hk => absurd hk (Nat.not_lt_zero k)⟩, fun a j a1 a2 a3 => (zu_a a1).trans (k3 a j a1 a2 a3)⟩
    rw [zu_a (by decide), k2]
    show (0 : Int) ≤ _
    omega
  refine zP'.ite (fun _ => fin t h3 rfl pf) (fun _ => ?_)
  try dsimp +instances only
  exact fin _ ((zu_i (by decide)).trans h3) (zu_a (by decide)) (fun a j a1 a2 a3 => (zu_a a1).trans (pf a j a1 a2 a3))
theorem pg_len {T : List Int} {σ : zS} (h : pg σ T) : g_jStringBuilder_length σ = some ((T.length : Int), σ) := by
  unfold g_jStringBuilder_length g_jAbstractStringBuilder_length
  try dsimp +instances only
  rw [h.1, Option.bind_some]
end
section
/-! 8xb.pageM -/
/-! THE PAGE of the reference, and what is spelled -/
def mpg (σ : zS) (T : List Int) : Prop := σ 143 29 = (T.length : Int) ∧ (T.length : Int) ≤ 40000 ∧ ∀ (k : Nat) (hk : k < T.length), σ 163 (k : Int) = T[k]
def frMp (σ s : zS) : Prop := ∀ a j, a ≠ 163 → (a ≠ 143 ∨ j ≠ 29) → s a j = σ a j
theorem frMp.refl (σ : zS) : frMp σ σ := fun _ _ _ _ => rfl
theorem frMp.trans {σ s t : zS} (h1 : frMp σ s) (h2 : frMp s t) : frMp σ t := fun a j a1 a2 => (h2 a j a1 a2).trans (h1 a j a1 a2)
theorem t_says {c : Int} {T : List Int} {σ : zS} (h : mpg σ T) : zP' (g_m_says c σ) (fun _ s => mpg s (T ++ [c]) ∧ frMp σ s) := by
  obtain ⟨h1, h2, h3⟩ := h
  unfold g_m_says
  try dsimp +instances only
  rw [h1]
  refine zP'.gd (fun c2 => ?_)
  have e : zu σ 163 (T.length : Int) c 143 29 = (T.length : Int) := (zu_a (by decide)).trans h1
  rw [e, w32_id (x := (T.length : Int) + 1) (by omega) (by omega)]
  have hL : (T ++ [c]).length = T.length + 1 := by
    rw [List.length_append]
    rfl
  refine zP'.ret ⟨⟨?_, ?_, fun k hk => ?_⟩, fun a j a1 a2 => (zu_c a2).trans (zu_a a1)⟩
  · rw [zu_e rfl, hL]
    omega
  · rw [hL]
    omega
  · rw [zu_a (by decide), app_at hk]
    by_cases ck : k < T.length
    · rw [dif_pos ck, zu_i (by omega)]
      exact h3 k ck
    · rw [dif_neg ck]
      rw [hL] at hk
      rw [zu_e (by omega)]
theorem t_numF : ∀ (f n v : Nat) (T : List Int) (σ : zS), v < 10 ^ f → 1 ≤ f → v < 1000000000 → mpg σ T → zP' (g_grp236 n 236 (v : Int) σ) (fun _ s => mpg s (T ++ dcF f v) ∧ frMp σ s)
  | 0, _, _, _, _, _, h, _, _ => absurd h (by decide)
  | _, 0, _, _, _, _, _, _, _ => zP'.no
  | f + 1, n + 1, v, T, σ, hv, _, hb, h => by
    have e14 : w32 (48 + Int.tmod (v : Int) 10) = 48 + ((v % 10 : Nat) : Int) := by
      rw [Int.tmod_eq_emod_of_nonneg (by omega), w32_id (by omega) (by omega)]
      omega
    unfold g_grp236
    rw [if_pos rfl]
    unfold g_m_saysNumber
    by_cases c : v ≤ 9
    · rw [if_pos (by omega), dcF_1 c]
      unfold g_m_saysNumber_L14
      rw [e14, Nat.mod_eq_of_lt (by omega)]
      exact zP'.bind (t_says h) (fun _ s p => zP'.ret p)
    · have hd : w32 (Int.tdiv (v : Int) 10) = ((v / 10 : Nat) : Int) := by
        rw [Int.tdiv_eq_ediv_of_nonneg (by omega), w32_id (by omega) (by omega)]
        omega
      have hf : 1 ≤ f := Classical.byContradiction (fun h => by
        have : f = 0 := by omega
        subst this
        have : v < 10 := hv
        omega)
      have p1 : 10 ^ (f + 1) = 10 ^ f * 10 := Nat.pow_succ 10 f
      rw [if_neg (by omega), dcF_2 c, hd]
      refine zP'.bind (t_numF f n (v / 10) T σ (by omega) hf (by omega) h) (fun _ s p => ?_)
      obtain ⟨p1, p2⟩ := p
      unfold g_m_saysNumber_L14
      rw [e14]
      refine zP'.bind (t_says p1) (fun _ t q => zP'.ret ⟨?_, p2.trans q.2⟩)
      rw [← List.append_assoc]
      exact q.1
theorem t_num {v : Int} {n : Nat} {T : List Int} {σ : zS} (h : mpg σ T) (hv : 0 ≤ v ∧ v < 1000000000) : zP' (g_grp236 n 236 v σ) (fun _ s => mpg s (T ++ dc v) ∧ frMp σ s) := by
  obtain ⟨v, rfl⟩ : ∃ n : Nat, v = (n : Int) := ⟨v.toNat, by omega⟩
  unfold dc
  rw [Int.toNat_natCast]
  have hv : v < 1000000000 := by omega
  exact t_numF 9 n v T σ hv (by decide) hv h
theorem iAnd_255 {x : Int} (h : 0 ≤ x ∧ x ≤ 127) : w16 (iAnd x 255) = x := by
  have e : iAnd x 255 = x % 256 := iAnd_m 8 (by decide) (by omega) (by omega)
  rw [e]
  unfold w16
  omega
theorem p_chAt {a n k : Nat} (hz : zLI (a + 18) = (n : Int)) (hk : k < n) (hn : n ≤ 100) (hb : ∀ i : Nat, i < n → 0 ≤ zs0 (a + 18) (i : Int) ∧ zs0 (a + 18) (i : Int) ≤ 127) {σ : zS} : g_jString_charAt a (k : Int) σ = some (zs0 (a + 18) (k : Int), σ) := by
  have b := hb k hk
  unfold g_jString_charAt g_jString_isLatin1
  rw [if_neg (by decide), if_neg (fun e => e rfl), Option.bind_some]
  try dsimp +instances only
  rw [if_neg (by decide)]
  unfold g_jStringLatin1_charAt
  rw [hz, if_pos (by omega), if_pos (by omega)]
  try dsimp +instances only
  rw [iAnd_255 b, if_pos (by omega), Option.bind_some]
  try dsimp +instances only
  rw [if_pos (by omega)]
theorem t_wordP2 {a N : Nat} (hz : zLI (a + 18) = (N : Int)) (hn : N ≤ 100) (hb : ∀ i : Nat, i < N → 0 ≤ zs0 (a + 18) (i : Int) ∧ zs0 (a + 18) (i : Int) ≤ 127) : ∀ (n k : Nat) (T : List Int) (σ : zS), k ≤ N → mpg σ T → zP' (g_m_saysWord_L2 a n (k : Int) σ) (fun _ s => mpg s (T ++ (wd (a + 18) N).drop k) ∧ frMp σ s)
  | 0, _, _, _, _, _ => zP'.no
  | n + 1, k, T, σ, hk, h => by
    have hw : (wd (a + 18) N).length = N := by
      unfold wd
      rw [List.length_map, List.length_range]
    have ln : g_jString_length a σ = some ((N : Int), σ) := by
      unfold g_jString_length g_jString_coder
      rw [if_neg (by decide), Option.bind_some, hz]
      try dsimp +instances only
      rw [iShr0 (by omega) (by omega)]
    unfold g_m_saysWord_L2
    rw [ln, Option.bind_some]
    try dsimp +instances only
    by_cases ck : k = N
    · rw [if_pos (by omega), List.drop_of_length_le (by omega), List.append_nil]
      exact zP'.ret ⟨h, frMp.refl σ⟩
    · rw [if_neg (by omega), p_chAt hz (by omega) hn hb, Option.bind_some]
      try dsimp +instances only
      refine zP'.bind (t_says h) (fun _ s p => ?_)
      obtain ⟨p1, p2⟩ := p
      try dsimp +instances only
      rw [w32_id (x := (k : Int) + 1) (by omega) (by omega), show (k : Int) + 1 = ((k + 1 : Nat) : Int) by omega]
      have e : (wd (a + 18) N).drop k = zs0 (a + 18) (k : Int) :: (wd (a + 18) N).drop (k + 1) := by
        rw [List.drop_eq_getElem_cons (by omega)]
        congr 1
        unfold wd
        rw [List.getElem_map, List.getElem_range]
      have e2 : T ++ (wd (a + 18) N).drop k = (T ++ [zs0 (a + 18) (k : Int)]) ++ (wd (a + 18) N).drop (k + 1) := by
        rw [e, List.append_assoc]
        rfl
      rw [e2]
      exact (t_wordP2 hz hn hb n (k + 1) _ s (by omega) p1).imp (fun _ t q => ⟨q.1, p2.trans q.2⟩)
theorem t_wordP {a N : Nat} {T : List Int} {σ : zS} (h : mpg σ T) (hz : zLI (a + 18) = (N : Int)) (hn : N ≤ 100) (hb : ∀ i : Nat, i < N → 0 ≤ zs0 (a + 18) (i : Int) ∧ zs0 (a + 18) (i : Int) ≤ 127) : zP' (g_m_saysWord a σ) (fun _ s => mpg s (T ++ wd (a + 18) N) ∧ frMp σ s) := t_wordP2 hz hn hb zK 0 T σ (Nat.zero_le _) h
/-! a box -/
def spB (b : Bx) : List Int := dc b.1 ++ ([45] ++ (dc b.2.1 ++ ([44] ++ (dc b.2.2.1 ++ ([45] ++ dc b.2.2.2)))))
theorem k_spB {b : Bx} {T : List Int} {σ : zS} (h : pg σ T) (hb : bOk b) : zP' (g_c_spellBox (enc b) σ) (fun _ s => pg s (T ++ spB b) ∧ frPg σ s) := by
  have hB := hb
  dsimp only [bOk] at hB
  unfold g_c_spellBox
  rw [p_side hb.s (by decide), Option.bind_some]
  refine zP'.bind (pg_n h (by show 0 ≤ b.1 ∧ b.1 < _; omega)) (fun _ s1 p1 => ?_)
  refine zP'.bind (pg_c p1.1 (by decide)) (fun _ s2 p2 => ?_)
  try dsimp +instances only
  rw [p_side hb.s (by decide), Option.bind_some]
  refine zP'.bind (pg_n p2.1 (by show 0 ≤ b.2.1 ∧ b.2.1 < _; omega)) (fun _ s3 p3 => ?_)
  refine zP'.bind (pg_c p3.1 (by decide)) (fun _ s4 p4 => ?_)
  try dsimp +instances only
  rw [p_side hb.s (by decide), Option.bind_some]
  refine zP'.bind (pg_n p4.1 (by show 0 ≤ b.2.2.1 ∧ b.2.2.1 < _; omega)) (fun _ s5 p5 => ?_)
  refine zP'.bind (pg_c p5.1 (by decide)) (fun _ s6 p6 => ?_)
  try dsimp +instances only
  rw [p_side hb.s (by decide), Option.bind_some]
  refine zP'.bind (pg_n p6.1 (by show 0 ≤ b.2.2.2 ∧ b.2.2.2 < _; omega)) (fun _ s7 p7 => ?_)
  refine zP'.ret ⟨?_, ((((((p1.2.trans p2.2).trans p3.2).trans p4.2).trans p5.2).trans p6.2).trans p7.2)⟩
  have e : T ++ spB b = ((((((T ++ dc b.1) ++ [45]) ++ dc b.2.1) ++ [44]) ++ dc b.2.2.1) ++ [45]) ++ dc b.2.2.2 := by
    unfold spB
    simp only [List.append_assoc]
  rw [e]
  exact p7.1
theorem t_spB {b : Bx} {a : Nat} {x : Int} {T : List Int} {σ : zS} (h : mpg σ T) (ha : a ≠ 163 ∧ a ≠ 143) (h1 : 0 ≤ x) (h2 : x + 3 < zLI a) (h3 : zLI a ≤ 100000) (e : bxA σ a x = b) (hb : bOk b) : zP' (g_m_saysBox a x σ) (fun _ s => mpg s (T ++ spB b) ∧ frMp σ s) := by
  subst e
  have hB := hb
  unfold bxA at hB
  dsimp only [bOk] at hB
  unfold g_m_saysBox
  rw [if_pos (by omega)]
  try dsimp +instances only
  refine zP'.bind (t_num h (v := σ a x) (by omega)) (fun _ s1 p1 => ?_)
  refine zP'.bind (t_says p1.1) (fun _ s2 p2 => ?_)
  try dsimp +instances only
  rw [w32_id (x := x + 1) (by omega) (by omega), if_pos (by omega)]
  have f2 : ∀ j, s2 a j = σ a j := fun j => (p1.2.trans p2.2) a j ha.1 (Or.inl ha.2)
  rw [f2]
  refine zP'.bind (t_num p2.1 (v := σ a (x + 1)) (by omega)) (fun _ s3 p3 => ?_)
  refine zP'.bind (t_says p3.1) (fun _ s4 p4 => ?_)
  try dsimp +instances only
  rw [w32_id (x := x + 2) (by omega) (by omega), if_pos (by omega)]
  have f4 : ∀ j, s4 a j = σ a j := fun j => ((p3.2.trans p4.2) a j ha.1 (Or.inl ha.2)).trans (f2 j)
  rw [f4]
  refine zP'.bind (t_num p4.1 (v := σ a (x + 2)) (by omega)) (fun _ s5 p5 => ?_)
  refine zP'.bind (t_says p5.1) (fun _ s6 p6 => ?_)
  try dsimp +instances only
  rw [w32_id (x := x + 3) (by omega) (by omega), if_pos (by omega)]
  have f6 : ∀ j, s6 a j = σ a j := fun j => ((p5.2.trans p6.2) a j ha.1 (Or.inl ha.2)).trans (f4 j)
  rw [f6]
  refine zP'.bind (t_num p6.1 (v := σ a (x + 3)) (by omega)) (fun _ s7 p7 => ?_)
  refine zP'.ret ⟨?_, ((((((p1.2.trans p2.2).trans p3.2).trans p4.2).trans p5.2).trans p6.2).trans p7.2)⟩
  have e : T ++ spB (bxA σ a x) = ((((((T ++ dc (σ a x)) ++ [45]) ++ dc (σ a (x + 1))) ++ [44]) ++ dc (σ a (x + 2))) ++ [45]) ++ dc (σ a (x + 3)) := by
    unfold spB bxA
    simp only [List.append_assoc]
  rw [e]
  exact p7.1
/-! spell -/
def spS : Nat → List Rg → List Int
  | _, [] => []
  | k, r :: L => (if k = 0 then [] else [59]) ++ (spB r.1 ++ spS (k + 1) L)
theorem k_sp10 {L : List Rg} (hL : L.length ≤ 12) (hk : ∀ r ∈ L, hOk r) : ∀ (n k : Nat) (T : List Int) (σ : zS), k ≤ L.length → cRs σ 48 L → pg σ T → zP' (g_c_spell_L10 n (k : Int) σ) (fun v s => pg s (T ++ spS k (L.drop k)) ∧ v = ((T ++ spS k (L.drop k)).length : Int))
  | 0, _, _, _, _, _, _ => zP'.no
  | n + 1, k, T, σ, hkl, hc, h => by
    unfold g_c_spell_L10
    try dsimp +instances only
    rw [hc.1]
    by_cases ck : k = L.length
    · rw [if_pos (by omega), List.drop_of_length_le (by omega), pg_len h, Option.bind_some]
      have e : T ++ spS k [] = T := List.append_nil T
      rw [e]
      exact zP'.ret ⟨h, rfl⟩
    · have hk' : k < L.length := by omega
      have ok := (hk _ (List.getElem_mem hk')).1
      have x1 : σ 52 (k : Int) = enc L[k].1 := (hc.2 k hk').1
      rw [if_neg (by omega), List.drop_eq_getElem_cons hk']
      have main : ∀ (T' : List Int) (s : zS), pg s T' → frPg σ s → zP' (g_c_spell_L38 (g_c_spell_L10 n) (k : Int) s) (fun v s => pg s (T' ++ (spB L[k].1 ++ spS (k + 1) (L.drop (k + 1)))) ∧ v = ((T' ++ (spB L[k].1 ++ spS (k + 1) (L.drop (k + 1)))).length : Int)) := fun T' s h' f => by
        unfold g_c_spell_L38
        rw [if_pos (by omega), f 52 _ (by decide) (by decide) (by decide), x1]
        try dsimp +instances only
        refine zP'.bind (k_spB h' ok) (fun _ t p => ?_)
        try dsimp +instances only
        rw [w32_id (x := (k : Int) + 1) (by omega) (by omega), show (k : Int) + 1 = ((k + 1 : Nat) : Int) by omega, ← List.append_assoc]
        have ft := f.trans p.2
        exact k_sp10 hL hk n (k + 1) _ t (by omega) (cRs_mv hc (fun c j x => ft c j (by omega) (by omega) (by omega))) p.1
      by_cases c0 : k = 0
      · subst c0
        rw [if_pos (by decide)]
        exact main T σ h (frPg.refl σ)
      · have e : T ++ spS k (L[k] :: L.drop (k + 1)) = (T ++ [59]) ++ (spB L[k].1 ++ spS (k + 1) (L.drop (k + 1))) := by
          show T ++ ((if k = 0 then [] else [59]) ++ _) = _
          rw [if_neg c0, List.append_assoc]
        rw [if_neg (by omega), e]
        refine zP'.bind (pg_c h (by decide)) (fun _ s p => ?_)
        exact main _ s p.1 p.2
theorem t_sp7 {L : List Rg} (hL : L.length ≤ 12) (hk : ∀ r ∈ L, hOk r) : ∀ (n k : Nat) (T : List Int) (σ : zS), k ≤ L.length → mRs σ L → mpg σ T → zP' (g_m_spell_L7 n (k : Int) σ) (fun v s => mpg s (T ++ spS k (L.drop k)) ∧ v = ((T ++ spS k (L.drop k)).length : Int))
  | 0, _, _, _, _, _, _ => zP'.no
  | n + 1, k, T, σ, hkl, hc, h => by
    have l144 : zLI 144 = 2740 := rfl
    unfold g_m_spell_L7
    try dsimp +instances only
    rw [hc.1]
    by_cases ck : k = L.length
    · rw [if_pos (by omega), List.drop_of_length_le (by omega)]
      have e : T ++ spS k [] = T := List.append_nil T
      rw [e]
      exact zP'.ret ⟨h, h.1⟩
    · have hk' : k < L.length := by omega
      have ok := (hk _ (List.getElem_mem hk')).1
      rw [if_neg (by omega), List.drop_eq_getElem_cons hk']
      have main : ∀ (T' : List Int) (s : zS), mpg s T' → frMp σ s → zP' (g_m_spell_L27 (g_m_spell_L7 n) (k : Int) s) (fun v s => mpg s (T' ++ (spB L[k].1 ++ spS (k + 1) (L.drop (k + 1)))) ∧ v = ((T' ++ (spB L[k].1 ++ spS (k + 1) (L.drop (k + 1)))).length : Int)) := fun T' s h' f => by
        have hc' : mRs s L := hc.mv (fun j _ => f 144 j (by decide) (Or.inl (by decide))) (fun j _ _ => f 147 j (by decide) (Or.inl (by decide))) (by omega)
        unfold g_m_spell_L27
        rw [s_region (by omega) (by omega), Option.bind_some]
        try dsimp +instances only
        refine zP'.bind (t_spB h' (by decide) (by omega) (by omega) (by omega) (congrArg (fun r : Rg => r.1) (hc'.2 k hk')) ok) (fun _ t p => ?_)
        try dsimp +instances only
        rw [w32_id (x := (k : Int) + 1) (by omega) (by omega), show (k : Int) + 1 = ((k + 1 : Nat) : Int) by omega, ← List.append_assoc]
        exact t_sp7 hL hk n (k + 1) _ t (by omega) (hc'.mv (fun j _ => p.2 144 j (by decide) (Or.inl (by decide))) (fun j _ _ => p.2 147 j (by decide) (Or.inl (by decide))) (by omega)) p.1
      by_cases c0 : k = 0
      · subst c0
        rw [if_pos (by decide)]
        exact main T σ h (frMp.refl σ)
      · have e : T ++ spS k (L[k] :: L.drop (k + 1)) = (T ++ [59]) ++ (spB L[k].1 ++ spS (k + 1) (L.drop (k + 1))) := by
          show T ++ ((if k = 0 then [] else [59]) ++ _) = _
          rw [if_neg c0, List.append_assoc]
        rw [if_neg (by omega), e]
        refine zP'.bind (t_says h) (fun _ s p => ?_)
        exact main _ s p.1 p.2
theorem k_spellR {σ : zS} {L : List Rg} {T : List Int} (C : cRs σ 48 L) (hL : L.length ≤ 12) (hk : ∀ r ∈ L, hOk r) (h : pg σ T) : zP' (g_c_spell σ) (fun v s => pg s (spS 0 L) ∧ v = ((spS 0 L).length : Int)) := by
  unfold g_c_spell
  refine zP'.bind (pg_0 h) (fun _ s p => ?_)
  have g := k_sp10 hL hk zK 0 [] s (Nat.zero_le _) (cRs_mv C (fun c j x => p.2 c j (by omega) (by omega) (by omega))) p.1
  exact g
theorem t_spellR {σ : zS} {L : List Rg} (C : mRs σ L) (hL : L.length ≤ 12) (hk : ∀ r ∈ L, hOk r) : zP' (g_m_spell σ) (fun v s => mpg s (spS 0 L) ∧ v = ((spS 0 L).length : Int)) := by
  unfold g_m_spell
  have g := t_sp7 hL hk zK 0 [] (zu σ 143 29 0) (Nat.zero_le _) (C.mv (fun j _ => zu_a (by decide)) (fun j _ _ => zu_a (by decide)) (by omega)) ⟨zu_e rfl, by decide, fun k hk => absurd hk (Nat.not_lt_zero k)⟩
  exact g
end
section
/-! 8xc.expl -/
/-! explain, both sides -/
def W1 : List Int := wd 26 5
def W2 : List Int := wd 27 4
def W3 : List Int := wd 28 4
theorem W_eq : wd 34 5 = W1 ∧ wd 35 4 = W2 ∧ wd 36 4 = W3 := by
  unfold W1 W2 W3
  decide +kernel
theorem W_bd : (∀ i : Fin 5, 0 ≤ zs0 34 ((i.val : Nat) : Int) ∧ zs0 34 ((i.val : Nat) : Int) ≤ 127) ∧ (∀ i : Fin 4, 0 ≤ zs0 35 ((i.val : Nat) : Int) ∧ zs0 35 ((i.val : Nat) : Int) ≤ 127) ∧ (∀ i : Fin 4, 0 ≤ zs0 36 ((i.val : Nat) : Int) ∧ zs0 36 ((i.val : Nat) : Int) ≤ 127) := by decide +kernel
theorem kW1 {T : List Int} {σ : zS} (h : pg σ T) : zP' (g_jStringBuilder_append_302 8 σ) (fun _ s => pg s (T ++ W1) ∧ frPg σ s) := pg_w (a := 8) (n := 5) h rfl (by decide)
theorem kW2 {T : List Int} {σ : zS} (h : pg σ T) : zP' (g_jStringBuilder_append_302 9 σ) (fun _ s => pg s (T ++ W2) ∧ frPg σ s) := pg_w (a := 9) (n := 4) h rfl (by decide)
theorem kW3 {T : List Int} {σ : zS} (h : pg σ T) : zP' (g_jStringBuilder_append_302 10 σ) (fun _ s => pg s (T ++ W3) ∧ frPg σ s) := pg_w (a := 10) (n := 4) h rfl (by decide)
theorem tW1 {T : List Int} {σ : zS} (h : mpg σ T) : zP' (g_m_saysWord 16 σ) (fun _ s => mpg s (T ++ W1) ∧ frMp σ s) := by
  rw [← W_eq.1]
  exact t_wordP (a := 16) (N := 5) h rfl (by decide) (fun i hi => W_bd.1 ⟨i, hi⟩)
theorem tW2 {T : List Int} {σ : zS} (h : mpg σ T) : zP' (g_m_saysWord 17 σ) (fun _ s => mpg s (T ++ W2) ∧ frMp σ s) := by
  rw [← W_eq.2.1]
  exact t_wordP (a := 17) (N := 4) h rfl (by decide) (fun i hi => W_bd.2.1 ⟨i, hi⟩)
theorem tW3 {T : List Int} {σ : zS} (h : mpg σ T) : zP' (g_m_saysWord 18 σ) (fun _ s => mpg s (T ++ W3) ∧ frMp σ s) := by
  rw [← W_eq.2.2]
  exact t_wordP (a := 18) (N := 4) h rfl (by decide) (fun i hi => W_bd.2.2 ⟨i, hi⟩)
/-- what is missing, spelled, and its cost -/
def exM (rn : Bx → Int) (st : Int → Int) : List Bx → List Int
  | [] => []
  | b :: M => (W2 ++ (spB b ++ ([32] ++ (dc (csP rn st b) ++ [59])))) ++ exM rn st M
def exS (rn : Bx → Int) (st : Int → Int) : List Bx → Int
  | [] => 0
  | b :: M => csP rn st b + exS rn st M
theorem cs_bd {rn : Bx → Int} {st : Int → Int} (h0 : 0 ≤ st 0 ∧ st 0 ≤ 99) (hr : ∀ b, 0 ≤ rn b ∧ rn b ≤ 60) (b : Bx) : 0 ≤ csP rn st b ∧ csP rn st b ≤ 159 := by
  have := hr b
  unfold csP
  rw [w32_id (by omega) (by omega)]
  omega
theorem exS_bd {rn : Bx → Int} {st : Int → Int} (h0 : 0 ≤ st 0 ∧ st 0 ≤ 99) (hr : ∀ b, 0 ≤ rn b ∧ rn b ≤ 60) : ∀ M : List Bx, 0 ≤ exS rn st M ∧ exS rn st M ≤ 159 * (M.length : Int)
  | [] => ⟨Int.le_refl 0, Int.le_refl 0⟩
  | b :: M => by
    have h := exS_bd h0 hr M
    have c := cs_bd h0 hr b
    have e : exS rn st (b :: M) = csP rn st b + exS rn st M := rfl
    rw [e, List.length_cons]
    omega
theorem frPg.cst {σ s : zS} {I : Nat → Bool} {rn : Bx → Int} {st : Int → Int} {L : List Rg} {ct : Int → Int} (C : cSt σ 48 I rn st L ct) (f : frPg σ s) : cSt s 48 I rn st L ct := C.mv (fun c j k => f c j (by omega) (by omega) (by omega))
theorem k_ex17 {I : Nat → Bool} {rn : Bx → Int} {st : Int → Int} {L : List Rg} {ct : Int → Int} {M : List Bx} (h0 : 0 ≤ st 0 ∧ st 0 ≤ 99) (hr : ∀ b, 0 ≤ rn b ∧ rn b ≤ 60) (hM : M.length ≤ 169) (okM : ∀ b ∈ M, bOk b) : ∀ (n k : Nat) (x : Int) (T : List Int) (σ : zS), k ≤ M.length → 0 ≤ x → x ≤ 159 * (k : Int) → cSt σ 48 I rn st L ct → bsR σ 56 M → pg σ T → zP' (g_c_explainMissing_L17 n x (k : Int) σ) (fun v s => pg s (T ++ exM rn st (M.drop k)) ∧ v = x + exS rn st (M.drop k))
  | 0, _, _, _, _, _, _, _, _, _, _ => zP'.no
  | n + 1, k, x, T, σ, hk, x0, x1, C, hb, h => by
    unfold g_c_explainMissing_L17
    try dsimp +instances only
    rw [hb.1]
    by_cases ck : k = M.length
    · rw [if_pos (by omega), List.drop_of_length_le (by omega)]
      have e : T ++ exM rn st [] = T := List.append_nil T
      rw [e]
      exact zP'.ret ⟨h, (Int.add_zero x).symm⟩
    · have hk' : k < M.length := by omega
      have ok := okM _ (List.getElem_mem hk')
      have cb := cs_bd h0 hr M[k]
      have e0 : σ (48 + 2) 0 = st 0 := C.2.2.1 0 (by decide) (by decide)
      have ec : w32 (st 0 + rn M[k]) = csP rn st M[k] := rfl
      rw [if_neg (by omega), bs_at (a := 56) rfl hb hM hk', Option.bind_some]
      try dsimp +instances only
      rw [c_costOf ok C.2.2.2.1 C.2.2.2.2.1, Option.bind_some, C.2.2.2.2.2, e0, ec]
      try dsimp +instances only
      refine zP'.bind (kW2 h) (fun _ s1 p1 => ?_)
      have hb1 : bsR s1 56 M := hb.mvv (fun j => p1.2 56 j (by decide) (by decide) (by decide)) (fun j => p1.2 57 j (by decide) (by decide) (by decide))
      try dsimp +instances only
      rw [bs_at (a := 56) rfl hb1 hM hk', Option.bind_some]
      try dsimp +instances only
      refine zP'.bind (k_spB p1.1 ok) (fun _ s2 p2 => ?_)
      refine zP'.bind (pg_c p2.1 (by decide)) (fun _ s3 p3 => ?_)
      refine zP'.bind (pg_n p3.1 (v := csP rn st M[k]) (by omega)) (fun _ s4 p4 => ?_)
      refine zP'.bind (pg_c p4.1 (by decide)) (fun _ s5 p5 => ?_)
      have f := (((p1.2.trans p2.2).trans p3.2).trans p4.2).trans p5.2
      try dsimp +instances only
      rw [w32_id (x := x + csP rn st M[k]) (by omega) (by omega), w32_id (x := (k : Int) + 1) (by omega) (by omega), show (k : Int) + 1 = ((k + 1 : Nat) : Int) by omega]
      have ed : M.drop k = M[k] :: M.drop (k + 1) := List.drop_eq_getElem_cons hk'
      have e1 : T ++ exM rn st (M.drop k) = (((((T ++ W2) ++ spB M[k]) ++ [32]) ++ dc (csP rn st M[k])) ++ [59]) ++ exM rn st (M.drop (k + 1)) := by
        rw [ed]
        show T ++ ((W2 ++ (spB M[k] ++ ([32] ++ (dc (csP rn st M[k]) ++ [59])))) ++ exM rn st (M.drop (k + 1))) = _
        simp only [List.append_assoc]
      have e2 : x + exS rn st (M.drop k) = (x + csP rn st M[k]) + exS rn st (M.drop (k + 1)) := by
        rw [ed]
        show x + (csP rn st M[k] + exS rn st (M.drop (k + 1))) = _
        omega
      rw [e1, e2]
      exact k_ex17 h0 hr hM okM n (k + 1) _ _ s5 (by omega) (by omega) (by omega) (C.mv (fun c j k => f c j (by omega) (by omega) (by omega))) (hb.mvv (fun j => f 56 j (by decide) (by decide) (by decide)) (fun j => f 57 j (by decide) (by decide) (by decide))) p5.1
/-- what is there, spelled -/
def exH1 (q : Bx) (r : Rg) : List Int := if bMt r.1 q then W1 ++ (dc r.2.2.1 ++ ([32] ++ (spB (bCom r.1 q) ++ [59]))) else []
theorem exH1_t {q : Bx} {r : Rg} (h : bMt r.1 q) : exH1 q r = W1 ++ (dc r.2.2.1 ++ ([32] ++ (spB (bCom r.1 q) ++ [59]))) := if_pos h
theorem exH1_f {q : Bx} {r : Rg} (h : ¬ bMt r.1 q) : exH1 q r = [] := if_neg h
def exH (q : Bx) : List Rg → List Int
  | [] => []
  | r :: L => exH1 q r ++ exH q L
def exE (rn : Bx → Int) (st : Int → Int) (q : Bx) (L : List Rg) : List Int := exM rn st (bMissAll q (L.map (fun r => r.1))) ++ (W3 ++ dc (exS rn st (bMissAll q (L.map (fun r => r.1)))))
theorem k_ex35 {I : Nat → Bool} {rn : Bx → Int} {st : Int → Int} {L : List Rg} {ct : Int → Int} {q : Bx} (h0 : 0 ≤ st 0 ∧ st 0 ≤ 99) (hr : ∀ b, 0 ≤ rn b ∧ rn b ≤ 60) (hq : bOk q) (hb : ∀ r ∈ L, bOk r.1) (hn : ∀ r ∈ L, 0 ≤ r.2.2.1 ∧ r.2.2.1 < 1000000000) (hw : (L.map (fun r => r.1)).Pairwise (fun a b => ¬ bMt a b)) (hL : L.length ≤ 12) : ∀ (n k : Nat) (T : List Int) (σ : zS), k ≤ L.length → cSt σ 48 I rn st L ct → pg σ T → zP' (g_c_explain_L35 n (enc q) (k : Int) σ) (fun v s => pg s (T ++ (exH q (L.drop k) ++ exE rn st q L)) ∧ v = ((T ++ (exH q (L.drop k) ++ exE rn st q L)).length : Int))
  | 0, _, _, _, _, _, _ => zP'.no
  | n + 1, k, T, σ, hk, C, h => by
    have hbm : ∀ r ∈ L.map (fun r => r.1), bOk r := fun r hr => by
      obtain ⟨x, hx, rfl⟩ := List.mem_map.mp hr
      exact hb x hx
    unfold g_c_explain_L35
    try dsimp +instances only
    rw [C.1.1]
    by_cases ck : k = L.length
    · rw [if_pos (by omega), List.drop_of_length_le (by omega)]
      have h169 := bMissAll_169 hq hbm hw (by rw [List.length_map]; exact hL)
      have hinv := (bMissAll_inv hq _ hbm hw).1
      have okM : ∀ b ∈ bMissAll q (L.map (fun r => r.1)), bOk b := fun b hb => (hinv.1 b hb).1
      have sb := exS_bd h0 hr (bMissAll q (L.map (fun r => r.1)))
      unfold g_c_explainMissing
      refine zP'.bind (P := fun v s => pg s (T ++ exM rn st (bMissAll q (L.map (fun r => r.1)))) ∧ v = exS rn st (bMissAll q (L.map (fun r => r.1)))) ?_ (fun v s p => ?_)
      · refine zP'.bind (c_missingOf (Or.inl rfl) hq hb hw hL C.1) (fun _ s p => ?_)
        obtain ⟨p1, p2⟩ := p
        have C2 : cSt s 48 I rn st L ct := C.mv (fun c j k => p2 c j (by omega))
        have h2 : pg s T := ⟨(p2 129 3 (by decide)).trans h.1, ⟨by rw [p2 169 0 (by decide)]; exact h.2.1.1, h.2.1.2⟩, (p2 129 1 (by decide)).trans h.2.2.1, fun k hk => (p2 168 _ (by decide)).trans (h.2.2.2 k hk)⟩
        have g := k_ex17 h0 hr h169 okM zK 0 0 T s (Nat.zero_le _) (Int.le_refl 0) (by decide) C2 p1 h2
        refine zP'.imp g (fun v t q => ⟨q.1, q.2.trans (Int.zero_add _)⟩)
      · obtain ⟨p1, rfl⟩ := p
        refine zP'.bind (kW3 p1) (fun _ s1 q1 => ?_)
        refine zP'.bind (pg_n q1.1 (by omega)) (fun _ s2 q2 => ?_)
        try dsimp +instances only
        have e : T ++ (exH q [] ++ exE rn st q L) = ((T ++ exM rn st (bMissAll q (L.map (fun r => r.1)))) ++ W3) ++ dc (exS rn st (bMissAll q (L.map (fun r => r.1)))) := by
          show T ++ ([] ++ exE rn st q L) = _
          unfold exE
          simp only [List.append_assoc, List.nil_append]
        rw [pg_len q2.1, Option.bind_some, e]
        exact zP'.ret ⟨q2.1, rfl⟩
    · have hk' : k < L.length := by omega
      have ok := hb _ (List.getElem_mem hk')
      have nn := hn _ (List.getElem_mem hk')
      have x1 : σ 52 (k : Int) = enc L[k].1 := (C.1.2 k hk').1
      have x3 : σ 51 (k : Int) = L[k].2.2.1 := (C.1.2 k hk').2.2.1
      have k181 : 0 ≤ (k : Int) ∧ (k : Int) < 181 := by omega
      have e : exH q (L.drop k) = exH1 q L[k] ++ exH q (L.drop (k + 1)) := by
        rw [List.drop_eq_getElem_cons hk']
        rfl
      rw [if_neg (by omega), if_pos k181, x1, c_meet ok hq, Option.bind_some, e]
      try dsimp +instances only
      by_cases c : bMt L[k].1 q
      · rw [if_pos c, if_neg (show ¬ (1 : Int) = 0 by decide)]
        refine zP'.bind (kW1 h) (fun _ s1 p1 => ?_)
        rw [if_pos k181]
        try dsimp +instances only
        rw [p1.2 51 _ (by decide) (by decide) (by decide), x3]
        refine zP'.bind (pg_n p1.1 nn) (fun _ s2 p2 => ?_)
        refine zP'.bind (pg_c p2.1 (by decide)) (fun _ s3 p3 => ?_)
        rw [if_pos k181]
        try dsimp +instances only
        have f3 := (p1.2.trans p2.2).trans p3.2
        rw [f3 52 _ (by decide) (by decide) (by decide), x1, ← encH_ok ok, c_common (Or.inr ok) hq, if_pos ⟨by have := ok.n; omega, c⟩, Option.bind_some]
        try dsimp +instances only
        refine zP'.bind (k_spB p3.1 (bCom_1 ok hq c)) (fun _ s4 p4 => ?_)
        refine zP'.bind (pg_c p4.1 (by decide)) (fun _ s5 p5 => ?_)
        have f5 := (f3.trans p4.2).trans p5.2
        unfold g_c_explain_L135
        try dsimp +instances only
        rw [w32_id (x := (k : Int) + 1) (by omega) (by omega), show (k : Int) + 1 = ((k + 1 : Nat) : Int) by omega, exH1_t c]
        have e2 : T ++ (((W1 ++ (dc L[k].2.2.1 ++ ([32] ++ (spB (bCom L[k].1 q) ++ [59])))) ++ exH q (L.drop (k + 1))) ++ exE rn st q L) = (((((T ++ W1) ++ dc L[k].2.2.1) ++ [32]) ++ spB (bCom L[k].1 q)) ++ [59]) ++ (exH q (L.drop (k + 1)) ++ exE rn st q L) := by
          simp only [List.append_assoc]
        rw [e2]
        exact k_ex35 h0 hr hq hb hn hw hL n (k + 1) _ s5 (by omega) (frPg.cst C f5) p5.1
      · rw [if_neg c, if_pos rfl]
        unfold g_c_explain_L135
        try dsimp +instances only
        rw [w32_id (x := (k : Int) + 1) (by omega) (by omega), show (k : Int) + 1 = ((k + 1 : Nat) : Int) by omega, exH1_f c, List.nil_append]
        exact k_ex35 h0 hr hq hb hn hw hL n (k + 1) T σ (by omega) C h
def exP (rn : Bx → Int) (st : Int → Int) (q : Bx) (L : List Rg) : List Int := exH q L ++ exE rn st q L
theorem k_explR {σ : zS} {I : Nat → Bool} {rn : Bx → Int} {st : Int → Int} {L : List Rg} {ct : Int → Int} {T : List Int} {a b c d : Int} (h0 : 0 ≤ st 0 ∧ st 0 ≤ 99) (hr : ∀ b, 0 ≤ rn b ∧ rn b ≤ 60) (C : cSt σ 48 I rn st L ct) (hL : L.length ≤ 12) (hk : ∀ r ∈ L, hOk r) (hn : ∀ r ∈ L, 0 ≤ r.2.2.1 ∧ r.2.2.1 < 1000000000) (hw : (L.map (fun r => r.1)).Pairwise (fun a b => ¬ bMt a b)) (h : pg σ T) : zP' (g_c_explain a b c d σ) (fun v s => (bOk (a, b, c, d) → pg s (exP rn st (a, b, c, d) L) ∧ v = ((exP rn st (a, b, c, d) L).length : Int)) ∧ (¬ bOk (a, b, c, d) → v = -2 ∧ s = σ)) := by
  unfold g_c_explain
  by_cases ok : bOk (a, b, c, d)
  · rw [p_isBox, if_pos ok, Option.bind_some]
    try dsimp +instances only
    have e := b_of (b := (a, b, c, d)) ok.s σ
    have e : g_b_of a b c d σ = some (enc (a, b, c, d), σ) := e
    rw [if_pos (by decide), e, Option.bind_some]
    try dsimp +instances only
    refine zP'.bind (pg_0 h) (fun _ s p => ?_)
    have g := k_ex35 (q := (a, b, c, d)) h0 hr ok (fun r hr => (hk r hr).1) hn hw hL zK 0 [] s (Nat.zero_le _) (frPg.cst C p.2) p.1
    exact zP'.imp g (fun v s p => ⟨fun _ => p, fun h => absurd ok h⟩)
  · rw [p_isBox, if_neg ok, Option.bind_some]
    try dsimp +instances only
    rw [if_neg (by decide)]
    exact zP'.ret ⟨fun h => absurd h ok, fun _ => ⟨rfl, rfl⟩⟩
/-! the reference -/
theorem frMp.lst {σ s : zS} {M : List Bx} (f : frMp σ s) (h : lstA σ 150 M.length = M) : lstA s 150 M.length = M := lstA_ext (fun i hi => by
  have g := lstA_get (σ := σ) (a := 150) hi
  rw [h, List.getElem?_eq_getElem hi] at g
  have e : bxA s 150 (4 * (i : Int)) = bxA σ 150 (4 * (i : Int)) := by
    unfold bxA
    rw [f 150 _ (by decide) (Or.inl (by decide)), f 150 _ (by decide) (Or.inl (by decide)), f 150 _ (by decide) (Or.inl (by decide)), f 150 _ (by decide) (Or.inl (by decide))]
  rw [e]
  exact (Option.some.inj g).symm)
theorem t_ex152 {rn : Bx → Int} {st : Int → Int} {M : List Bx} (h0 : 0 ≤ st 0 ∧ st 0 ≤ 99) (hr : ∀ b, 0 ≤ rn b ∧ rn b ≤ 60) (hM : M.length ≤ 169) (okM : ∀ b ∈ M, bOk b) : ∀ (n k : Nat) (x : Int) (T : List Int) (σ : zS), k ≤ M.length → 0 ≤ x → x ≤ 159 * (k : Int) → mKp σ rn st → σ 143 10 = (M.length : Int) → lstA σ 150 M.length = M → mpg σ T → zP' (g_m_explain_L152 n x (k : Int) σ) (fun v s => mpg s (T ++ (exM rn st (M.drop k) ++ (W3 ++ dc (x + exS rn st (M.drop k))))) ∧ v = ((T ++ (exM rn st (M.drop k) ++ (W3 ++ dc (x + exS rn st (M.drop k))))).length : Int))
  | 0, _, _, _, _, _, _, _, _, _, _, _ => zP'.no
  | n + 1, k, x, T, σ, hk, x0, x1, C, h10, hb, h => by
    have l150 : zLI 150 = 2400 := rfl
    unfold g_m_explain_L152
    try dsimp +instances only
    rw [h10]
    by_cases ck : k = M.length
    · rw [if_pos (by omega), List.drop_of_length_le (by omega)]
      have e : x + exS rn st [] = x := Int.add_zero x
      have e2 : T ++ (exM rn st [] ++ (W3 ++ dc x)) = (T ++ W3) ++ dc x := by
        show T ++ ([] ++ (W3 ++ dc x)) = _
        simp only [List.append_assoc, List.nil_append]
      rw [e, e2]
      refine zP'.bind (tW3 h) (fun _ s1 p1 => ?_)
      refine zP'.bind (t_num p1.1 (by omega)) (fun _ s2 p2 => ?_)
      exact zP'.ret ⟨p2.1, p2.1.1⟩
    · have hk' : k < M.length := by omega
      have ok := okM _ (List.getElem_mem hk')
      have cb := cs_bd h0 hr M[k]
      have xx : ∀ s, lstA s 150 M.length = M → bxA s 150 (4 * (k : Int)) = M[k] := fun s hs => by
        have g := lstA_get (σ := s) (a := 150) hk'
        rw [hs, List.getElem?_eq_getElem hk'] at g
        exact (Option.some.inj g).symm
      rw [if_neg (by omega)]
      refine zP'.bind (tW2 h) (fun _ s1 p1 => ?_)
      have b1 := p1.2.lst hb
      try dsimp +instances only
      rw [w32_id (x := 4 * (k : Int)) (by omega) (by omega)]
      refine zP'.bind (t_spB p1.1 (by decide) (by omega) (by omega) (by omega) (xx s1 b1) ok) (fun _ s2 p2 => ?_)
      refine zP'.bind (t_says p2.1) (fun _ s3 p3 => ?_)
      have f3 := (p1.2.trans p2.2).trans p3.2
      have b3 := f3.lst hb
      have C3 : mKp s3 rn st := C.mv (fun j j1 j2 => f3 144 j (by decide) (Or.inl (by decide)))
      try dsimp +instances only
      rw [s_cost (by omega) (by omega) (by omega), Option.bind_some, t_cost C3, xx s3 b3]
      try dsimp +instances only
      refine zP'.bind (t_num p3.1 (v := csP rn st M[k]) (by omega)) (fun _ s4 p4 => ?_)
      have f4 := f3.trans p4.2
      have b4 := f4.lst hb
      have C4 : mKp s4 rn st := C.mv (fun j j1 j2 => f4 144 j (by decide) (Or.inl (by decide)))
      try dsimp +instances only
      rw [s_cost (by omega) (by omega) (by omega), Option.bind_some, t_cost C4, xx s4 b4]
      try dsimp +instances only
      refine zP'.bind (t_says p4.1) (fun _ s5 p5 => ?_)
      have f5 := f4.trans p5.2
      try dsimp +instances only
      rw [w32_id (x := x + csP rn st M[k]) (by omega) (by omega), w32_id (x := (k : Int) + 1) (by omega) (by omega), show (k : Int) + 1 = ((k + 1 : Nat) : Int) by omega]
      have ed : M.drop k = M[k] :: M.drop (k + 1) := List.drop_eq_getElem_cons hk'
      have e2 : x + exS rn st (M.drop k) = (x + csP rn st M[k]) + exS rn st (M.drop (k + 1)) := by
        rw [ed]
        show x + (csP rn st M[k] + exS rn st (M.drop (k + 1))) = _
        omega
      have e1 : ∀ Z, T ++ (exM rn st (M.drop k) ++ Z) = (((((T ++ W2) ++ spB M[k]) ++ [32]) ++ dc (csP rn st M[k])) ++ [59]) ++ (exM rn st (M.drop (k + 1)) ++ Z) := fun Z => by
        rw [ed]
        show T ++ (((W2 ++ (spB M[k] ++ ([32] ++ (dc (csP rn st M[k]) ++ [59])))) ++ exM rn st (M.drop (k + 1))) ++ Z) = _
        simp only [List.append_assoc]
      rw [e2, e1]
      exact t_ex152 h0 hr hM okM n (k + 1) _ _ s5 (by omega) (by omega) (by omega) (C.mv (fun j j1 j2 => f5 144 j (by decide) (Or.inl (by decide)))) ((f5 143 10 (by decide) (Or.inr (by decide))).trans h10) (f5.lst hb) p5.1
theorem t_ex39 {rn : Bx → Int} {st : Int → Int} {L : List Rg} {q : Bx} {M : List Bx} (h0 : 0 ≤ st 0 ∧ st 0 ≤ 99) (hr : ∀ b, 0 ≤ rn b ∧ rn b ≤ 60) (hq : bOk q) (hb : ∀ r ∈ L, bOk r.1) (hn : ∀ r ∈ L, 0 ≤ r.2.2.1 ∧ r.2.2.1 < 1000000000) (hL : L.length ≤ 12) (hM : M.length ≤ 169) (okM : ∀ b ∈ M, bOk b) : ∀ (n k : Nat) (T : List Int) (σ : zS), k ≤ L.length → mRs σ L → mKp σ rn st → bxA σ 152 0 = q → σ 143 10 = (M.length : Int) → lstA σ 150 M.length = M → mpg σ T → zP' (g_m_explain_L39 n (k : Int) σ) (fun v s => mpg s (T ++ (exH q (L.drop k) ++ (exM rn st M ++ (W3 ++ dc (exS rn st M))))) ∧ v = ((T ++ (exH q (L.drop k) ++ (exM rn st M ++ (W3 ++ dc (exS rn st M))))).length : Int))
  | 0, _, _, _, _, _, _, _, _, _, _ => zP'.no
  | n + 1, k, T, σ, hk, R, C, hbx, h10, hbl, h => by
    have l144 : zLI 144 = 2740 := rfl
    have l152 : zLI 152 = 4 := rfl
    have l153 : zLI 153 = 4 := rfl
    unfold g_m_explain_L39
    try dsimp +instances only
    rw [R.1]
    by_cases ck : k = L.length
    · rw [if_pos (by omega), List.drop_of_length_le (by omega)]
      have g := t_ex152 h0 hr hM okM zK 0 0 T σ (Nat.zero_le _) (Int.le_refl 0) (by decide) C h10 hbl h
      rw [List.drop_zero, Int.zero_add] at g
      exact g
    · have hk' : k < L.length := by omega
      have ok := hb _ (List.getElem_mem hk')
      have nn := hn _ (List.getElem_mem hk')
      have e : exH q (L.drop k) = exH1 q L[k] ++ exH q (L.drop (k + 1)) := by
        rw [List.drop_eq_getElem_cons hk']
        rfl
      have x1 : bxA σ 144 (340 + 10 * (k : Int)) = L[k].1 := congrArg (fun r : Rg => r.1) (R.2 k hk')
      rw [if_neg (by omega), s_region (by omega) (by omega), Option.bind_some]
      try dsimp +instances only
      rw [s_doMeet (by omega) (by omega) (by omega) (by omega) (by omega) (by omega), Option.bind_some, x1, hbx, e]
      try dsimp +instances only
      by_cases c : bMt L[k].1 q
      · rw [if_pos c, if_pos (by decide)]
        refine zP'.bind (tW1 h) (fun _ s1 p1 => ?_)
        have R1 : mRs s1 L := R.mv (fun j _ => p1.2 144 j (by decide) (Or.inl (by decide))) (fun j _ _ => p1.2 147 j (by decide) (Or.inl (by decide))) (by omega)
        have x3 : s1 144 (348 + 10 * (k : Int)) = L[k].2.2.1 := congrArg (fun r : Rg => r.2.2.1) (R1.2 k hk')
        try dsimp +instances only
        rw [s_region (by omega) (by omega), Option.bind_some]
        try dsimp +instances only
        rw [w32_id (x := 340 + 10 * (k : Int) + 8) (by omega) (by omega), if_pos (by omega), show 340 + 10 * (k : Int) + 8 = 348 + 10 * (k : Int) by omega, x3]
        refine zP'.bind (t_num p1.1 nn) (fun _ s2 p2 => ?_)
        refine zP'.bind (t_says p2.1) (fun _ s3 p3 => ?_)
        have f3 := (p1.2.trans p2.2).trans p3.2
        have R3 : mRs s3 L := R.mv (fun j _ => f3 144 j (by decide) (Or.inl (by decide))) (fun j _ _ => f3 147 j (by decide) (Or.inl (by decide))) (by omega)
        have y1 : bxA s3 144 (340 + 10 * (k : Int)) = L[k].1 := congrArg (fun r : Rg => r.1) (R3.2 k hk')
        have y2 : bxA s3 152 0 = q := by
          rw [← hbx]
          unfold bxA
          rw [f3 152 _ (by decide) (Or.inl (by decide)), f3 152 _ (by decide) (Or.inl (by decide)), f3 152 _ (by decide) (Or.inl (by decide)), f3 152 _ (by decide) (Or.inl (by decide))]
        try dsimp +instances only
        rw [s_region (by omega) (by omega), Option.bind_some]
        try dsimp +instances only
        rw [s_commons (by omega) (by omega) (by omega) (by omega) (by omega) (by omega) (by omega) (by omega) (by omega), Option.bind_some, y1, y2]
        try dsimp +instances only
        have z : ∀ a j, a ≠ 153 → zb s3 153 0 (bCom L[k].1 q) a j = s3 a j := fun a j k => zb_a k
        have h3 : mpg (zb s3 153 0 (bCom L[k].1 q)) ((((T ++ W1) ++ dc L[k].2.2.1)) ++ [32]) := ⟨(z 143 29 (by decide)).trans p3.1.1, p3.1.2.1, fun i hi => (z 163 _ (by decide)).trans (p3.1.2.2 i hi)⟩
        refine zP'.bind (t_spB h3 (by decide) (Int.le_refl 0) (by omega) (by omega) (zb_bx rfl) (bCom_1 ok hq c)) (fun _ s4 p4 => ?_)
        refine zP'.bind (t_says p4.1) (fun _ s5 p5 => ?_)
        have f5 : ∀ a j, a ≠ 163 → a ≠ 153 → (a ≠ 143 ∨ j ≠ 29) → s5 a j = σ a j := fun a j a1 a2 a3 => (p5.2 a j a1 a3).trans ((p4.2 a j a1 a3).trans ((z a j a2).trans (f3 a j a1 a3)))
        unfold g_m_explain_L140
        try dsimp +instances only
        rw [w32_id (x := (k : Int) + 1) (by omega) (by omega), show (k : Int) + 1 = ((k + 1 : Nat) : Int) by omega, exH1_t c]
        have e2 : ∀ Z, T ++ (((W1 ++ (dc L[k].2.2.1 ++ ([32] ++ (spB (bCom L[k].1 q) ++ [59])))) ++ exH q (L.drop (k + 1))) ++ Z) = (((((T ++ W1) ++ dc L[k].2.2.1) ++ [32]) ++ spB (bCom L[k].1 q)) ++ [59]) ++ (exH q (L.drop (k + 1)) ++ Z) := fun Z => by
          simp only [List.append_assoc]
        rw [e2]
        refine t_ex39 h0 hr hq hb hn hL hM okM n (k + 1) _ s5 (by omega) (R.mv (fun j _ => f5 144 j (by decide) (by decide) (Or.inl (by decide))) (fun j _ _ => f5 147 j (by decide) (by decide) (Or.inl (by decide))) (by omega)) (C.mv (fun j j1 j2 => f5 144 j (by decide) (by decide) (Or.inl (by decide)))) ?_ ((f5 143 10 (by decide) (by decide) (Or.inr (by decide))).trans h10) ?_ p5.1
        · rw [← hbx]
          unfold bxA
          rw [f5 152 _ (by decide) (by decide) (Or.inl (by decide)), f5 152 _ (by decide) (by decide) (Or.inl (by decide)), f5 152 _ (by decide) (by decide) (Or.inl (by decide)), f5 152 _ (by decide) (by decide) (Or.inl (by decide))]
        · refine lstA_ext (fun i hi => ?_)
          have g := lstA_get (σ := σ) (a := 150) hi
          rw [hbl, List.getElem?_eq_getElem hi] at g
          have eb : bxA s5 150 (4 * (i : Int)) = bxA σ 150 (4 * (i : Int)) := by
            unfold bxA
            rw [f5 150 _ (by decide) (by decide) (Or.inl (by decide)), f5 150 _ (by decide) (by decide) (Or.inl (by decide)), f5 150 _ (by decide) (by decide) (Or.inl (by decide)), f5 150 _ (by decide) (by decide) (Or.inl (by decide))]
          rw [eb]
          exact (Option.some.inj g).symm
      · rw [if_neg c, if_neg (by decide)]
        unfold g_m_explain_L140
        try dsimp +instances only
        rw [w32_id (x := (k : Int) + 1) (by omega) (by omega), show (k : Int) + 1 = ((k + 1 : Nat) : Int) by omega, exH1_f c, List.nil_append]
        exact t_ex39 h0 hr hq hb hn hL hM okM n (k + 1) T σ (by omega) R C hbx h10 hbl h
theorem t_explR {σ : zS} {rn : Bx → Int} {st : Int → Int} {L : List Rg} {ct : Int → Int} {a b c d : Int} (h0 : 0 ≤ st 0 ∧ st 0 ≤ 99) (hr : ∀ b, 0 ≤ rn b ∧ rn b ≤ 60) (M : mSt σ rn st L ct) (hR : RI σ L.length) (hL : L.length ≤ 12) (hk : ∀ r ∈ L, hOk r) (hn : ∀ r ∈ L, 0 ≤ r.2.2.1 ∧ r.2.2.1 < 1000000000) : zP' (g_m_explain a b c d σ) (fun v s => (bOk (a, b, c, d) → mpg s (exP rn st (a, b, c, d) L) ∧ v = ((exP rn st (a, b, c, d) L).length : Int)) ∧ (¬ bOk (a, b, c, d) → v = -2 ∧ s = σ)) := by
  unfold g_m_explain
  by_cases ok : bOk (a, b, c, d)
  · rw [s_isBox_t ok, Option.bind_some]
    try dsimp +instances only
    have l152 : zLI 152 = 4 := rfl
    rw [if_pos (by decide), s_sets (by omega) (by omega) (by omega), Option.bind_some]
    try dsimp +instances only
    have h1 : mRs (zb σ 152 0 (a, b, c, d)) L := M.1.mv (fun j _ => zb_a (by decide)) (fun j _ _ => zb_a (by decide)) (by omega)
    have R1 : RI (zb σ 152 0 (a, b, c, d)) L.length := hR.mv (by omega) (fun j _ _ => zb_a (by decide))
    have hbx : bxA (zb σ 152 0 (a, b, c, d)) 152 0 = (a, b, c, d) := zb_bx rfl
    obtain ⟨r1, r2⟩ := RI_rbx R1
    obtain ⟨s1, m1, m2, m3, m4⟩ := s_misses (σ := zb σ 152 0 (a, b, c, d)) (q := (a, b, c, d)) (rs := rbx (zb σ 152 0 (a, b, c, d)) L.length) ok hbx r1 r2 (by rw [rbx_len]; exact hL) (by rw [rbx_len]; exact h1.1) (by rw [rbx_len])
    have h169 := bMissAll_169 ok r1 r2 (by rw [rbx_len]; exact hL)
    have hinv := (bMissAll_inv ok _ r1 r2).1
    have okM : ∀ x ∈ bMissAll (a, b, c, d) (rbx (zb σ 152 0 (a, b, c, d)) L.length), bOk x := fun x hx => (hinv.1 x hx).1
    rw [rbx_eq h1] at m3 m4 h169 okM
    rw [m1, Option.bind_some]
    try dsimp +instances only
    have z : ∀ x j, x ≠ 150 → x ≠ 151 → x ≠ 143 → zu s1 143 29 0 x j = zb σ 152 0 (a, b, c, d) x j := fun x j k1 k2 k3 => (zu_a k3).trans (m2 x j k1 k2 (Or.inl k3))
    have g := t_ex39 (q := (a, b, c, d)) h0 hr ok (fun r hr => (hk r hr).1) hn hL h169 okM zK 0 [] (zu s1 143 29 0) (Nat.zero_le _) (h1.mv (fun j _ => z 144 j (by decide) (by decide) (by decide)) (fun j _ _ => z 147 j (by decide) (by decide) (by decide)) (by omega)) (M.2.2.mv (fun j j1 j2 => (z 144 j (by decide) (by decide) (by decide)).trans (zb_a (by decide)))) (by
      rw [zu_bxa (by decide), frM_bx m2 (by decide) (by decide) (by decide)]
      exact hbx) ((zu_i (by decide)).trans m3) (lstA_ext (fun i hi => by
      have g := lstA_get (σ := s1) (a := 150) hi
      rw [m4, List.getElem?_eq_getElem hi] at g
      rw [zu_bxa (by decide)]
      exact (Option.some.inj g).symm)) ⟨zu_e rfl, by decide, fun k hk => absurd hk (Nat.not_lt_zero k)⟩
    exact zP'.imp g (fun v s p => ⟨fun _ => p, fun h => absurd ok h⟩)
  · rw [s_isBox_f ok, Option.bind_some]
    try dsimp +instances only
    rw [if_neg (by decide)]
    exact zP'.ret ⟨fun h => absurd h ok, fun _ => ⟨rfl, rfl⟩⟩
end
section
/-! 8xd.paper -/
/-! THE PAGE between the calls alike; paper, told -/
def okT (T : List Int) : Prop := ∀ c ∈ T, 0 ≤ c ∧ c ≤ 127
theorem okT.nil : okT [] := fun c h => absurd h List.not_mem_nil
theorem okT.app {A B : List Int} (h : okT A) (g : okT B) : okT (A ++ B) := fun c k => by
  rcases List.mem_append.mp k with k | k
  · exact h c k
  · exact g c k
theorem okT.one {c : Int} (h : 0 ≤ c ∧ c ≤ 127) : okT [c] := fun x k => by
  rw [List.mem_singleton.mp k]
  exact h
theorem okT_dcF : ∀ (f v : Nat), okT (dcF f v)
  | 0, _ => okT.nil
  | f + 1, v => by
    by_cases c : v ≤ 9
    · rw [dcF_1 c]
      exact okT.one (by omega)
    · rw [dcF_2 c]
      exact (okT_dcF f (v / 10)).app (okT.one (by omega))
theorem okT_dc {v : Int} : okT (dc v) := okT_dcF 9 _
theorem okT_sp {b : Bx} : okT (spB b) := okT_dc.app ((okT.one (by decide)).app (okT_dc.app ((okT.one (by decide)).app (okT_dc.app ((okT.one (by decide)).app okT_dc)))))
theorem okT_spS : ∀ (L : List Rg) (k : Nat), okT (spS k L)
  | [], _ => okT.nil
  | r :: L, k => by
    have h : okT (if k = 0 then [] else [59]) := by
      split
      · exact okT.nil
      · exact okT.one (by decide)
    exact h.app (okT_sp.app (okT_spS L (k + 1)))
theorem okT_W : okT W1 ∧ okT W2 ∧ okT W3 := by
  obtain ⟨b1, b2, b3⟩ := W_bd
  rw [← W_eq.1, ← W_eq.2.1, ← W_eq.2.2]
  have g : ∀ (a n : Nat), (∀ i : Fin n, 0 ≤ zs0 a ((i.val : Nat) : Int) ∧ zs0 a ((i.val : Nat) : Int) ≤ 127) → okT (wd a n) := fun a n h c k => by
    unfold wd at k
    obtain ⟨i, hi, rfl⟩ := List.mem_map.mp k
    exact h ⟨i, List.mem_range.mp hi⟩
  exact ⟨g 34 5 b1, g 35 4 b2, g 36 4 b3⟩
theorem okT_exM {rn : Bx → Int} {st : Int → Int} : ∀ M : List Bx, okT (exM rn st M)
  | [] => okT.nil
  | b :: M => (okT_W.2.1.app (okT_sp.app ((okT.one (by decide)).app (okT_dc.app (okT.one (by decide)))))).app (okT_exM M)
theorem okT_exH {q : Bx} : ∀ L : List Rg, okT (exH q L)
  | [] => okT.nil
  | r :: L => by
    have h : okT (exH1 q r) := by
      by_cases c : bMt r.1 q
      · rw [exH1_t c]
        exact okT_W.1.app (okT_dc.app ((okT.one (by decide)).app (okT_sp.app (okT.one (by decide)))))
      · rw [exH1_f c]
        exact okT.nil
    exact h.app (okT_exH L)
theorem okT_exP {rn : Bx → Int} {st : Int → Int} {q : Bx} {L : List Rg} : okT (exP rn st q L) := (okT_exH L).app ((okT_exM _).app (okT_W.2.2.app okT_dc))
def PGe (σ : zS) : Prop := ∃ T : List Int, pg σ T ∧ mpg σ T ∧ okT T
theorem pg_mv {σ s : zS} {T : List Int} (h : pg σ T) (e : ∀ a j, ((a = 129 ∧ j = 1) ∨ (a = 129 ∧ j = 3) ∨ a = 168 ∨ a = 169) → s a j = σ a j) : pg s T := ⟨(e 129 3 (by omega)).trans h.1, ⟨by rw [e 169 0 (by omega)]; exact h.2.1.1, h.2.1.2⟩, (e 129 1 (by omega)).trans h.2.2.1, fun k hk => (e 168 _ (by omega)).trans (h.2.2.2 k hk)⟩
theorem mpg_mv {σ s : zS} {T : List Int} (h : mpg σ T) (e : ∀ a j, ((a = 143 ∧ j = 29) ∨ a = 163) → s a j = σ a j) : mpg s T := ⟨(e 143 29 (by omega)).trans h.1, h.2.1, fun k hk => (e 163 _ (by omega)).trans (h.2.2 k hk)⟩
theorem PGe_keep {σ s : zS} (h : PGe σ) (e : ∀ a j, ((a = 129 ∧ j = 1) ∨ (a = 129 ∧ j = 3) ∨ (a = 168) ∨ (a = 169) ∨ (a = 143 ∧ j = 29) ∨ a = 163) → s a j = σ a j) : PGe s := by
  obtain ⟨T, h1, h2, h3⟩ := h
  exact ⟨T, pg_mv h1 (fun a j k => e a j (by omega)), mpg_mv h2 (fun a j k => e a j (by omega)), h3⟩
def ppV (T : List Int) (a : Int) : Int := if h : 0 ≤ a ∧ a < (T.length : Int) then T[a.toNat]'(by omega) else -1
theorem k_paperR {σ : zS} {T : List Int} {a : Int} (h : pg σ T) (ok : okT T) : zP' (g_c_paper a σ) (fun v s => s = σ ∧ v = ppV T a) := by
  unfold g_c_paper ppV
  by_cases c0 : a < 0
  · rw [if_pos c0, dif_neg (by omega)]
    exact zP'.ret ⟨rfl, rfl⟩
  · rw [if_neg c0, pg_len h, Option.bind_some]
    try dsimp +instances only
    by_cases c1 : (T.length : Int) ≤ a
    · rw [if_pos c1, dif_neg (by omega)]
      exact zP'.ret ⟨rfl, rfl⟩
    · obtain ⟨k, rfl⟩ : ∃ k : Nat, a = (k : Int) := ⟨a.toNat, by omega⟩
      have hk : k < T.length := by omega
      have b := ok _ (List.getElem_mem hk)
      rw [if_neg c1, dif_pos (show 0 ≤ (k : Int) ∧ (k : Int) < (T.length : Int) by omega)]
      unfold g_jStringBuilder_charAt g_jAbstractStringBuilder_charAt
      try dsimp +instances only
      rw [p_min, Option.bind_some]
      try dsimp +instances only
      refine zP'.bind (P := fun v s => s = σ ∧ v = T[k]) ?_ (fun v s p => ?_)
      · refine zP'.bind (P := fun v s => s = σ ∧ v = T[k]) ?_ (fun v s p => ?_)
        · refine zP'.gd (fun _ => ?_)
          rw [h.2.2.1, if_neg (fun e => e rfl)]
          refine zP'.gd (fun _ => ?_)
          try dsimp +instances only
          rw [h.2.2.2 k hk, iAnd_255 b, if_pos (by omega)]
          exact zP'.ret ⟨rfl, rfl⟩
        · obtain ⟨rfl, rfl⟩ := p
          try dsimp +instances only
          rw [if_pos (by omega)]
          exact zP'.ret ⟨rfl, rfl⟩
      · obtain ⟨rfl, rfl⟩ := p
        exact zP'.ret ⟨rfl, rfl⟩
theorem t_paperR {σ : zS} {T : List Int} {a : Int} (h : mpg σ T) : zP' (g_m_paper a σ) (fun v s => s = σ ∧ v = ppV T a) := by
  have hl := h.2.1
  unfold g_m_paper ppV
  try dsimp +instances only
  rw [h.1, w32_id (x := (T.length : Int) - 1) (by omega) (by omega)]
  by_cases c : 0 ≤ a ∧ a < (T.length : Int)
  · obtain ⟨k, rfl⟩ : ∃ k : Nat, a = (k : Int) := ⟨a.toNat, by omega⟩
    have hk : k < T.length := by omega
    rw [s_isIn_t (by omega) (by omega), Option.bind_some]
    try dsimp +instances only
    rw [if_neg (by decide), if_pos (by omega), dif_pos c]
    exact zP'.ret ⟨rfl, h.2.2 k hk⟩
  · rw [s_isIn_f (by omega), Option.bind_some]
    try dsimp +instances only
    rw [if_pos rfl, dif_neg c]
    exact zP'.ret ⟨rfl, rfl⟩
/-! told -/
theorem cnt_len (I : Nat → Bool) : ∀ (n : Nat) (L : List Int), L.Nodup → (∀ v, v ∈ L ↔ ∃ r : Nat, v = (r : Int) ∧ r < n ∧ I r = true) → (L.length : Int) = cnP I n
  | 0, L, _, h => by
    have e : L = [] := List.eq_nil_iff_forall_not_mem.mpr (fun v hv => by
      obtain ⟨r, -, hr, -⟩ := (h v).mp hv
      exact absurd hr (Nat.not_lt_zero r))
    rw [e]
    rfl
  | n + 1, L, hN, h => by
    show (L.length : Int) = cnP I n + (if I n = true then 1 else 0)
    by_cases c : I n = true
    · have hm : (n : Int) ∈ L := (h _).mpr ⟨n, rfl, Nat.lt_succ_self n, c⟩
      have ih := cnt_len I n (L.erase (n : Int)) (hN.erase _) (fun v => by
        rw [hN.mem_erase_iff, h v]
        constructor
        · rintro ⟨h1, r, rfl, h2, h3⟩
          exact ⟨r, rfl, by omega, h3⟩
        · rintro ⟨r, rfl, h2, h3⟩
          exact ⟨by omega, r, rfl, by omega, h3⟩)
      have hl := List.length_erase_of_mem hm
      have hp := List.length_pos_of_mem hm
      rw [if_pos c, ← ih]
      omega
    · have ih := cnt_len I n L hN (fun v => by
        rw [h v]
        constructor
        · rintro ⟨r, rfl, h2, h3⟩
          refine ⟨r, rfl, Classical.byContradiction (fun hr => ?_), h3⟩
          have : r = n := by omega
          subst this
          exact c h3
        · rintro ⟨r, rfl, h2, h3⟩
          exact ⟨r, rfl, by omega, h3⟩)
      rw [if_neg c, ih]
      omega
theorem cls_cnt {σ : zS} {I : Nat → Bool} (S : ST σ 41 I) (h4 : 0 ≤ σ 41 4) : σ 41 4 = cnP I 60 := by
  obtain ⟨s1, -, s2, s3⟩ := S
  have hN : (ordL σ 41).Nodup := s2.imp (fun {a b} h => fun e => by
    rw [e] at h
    exact Int.lt_irrefl _ h)
  have h := cnt_len I 60 (ordL σ 41) hN (fun v => by
    rw [s3 v]
    constructor
    · rintro ⟨r, rfl, h⟩
      exact ⟨r, rfl, s1 r h, h⟩
    · rintro ⟨r, rfl, -, h⟩
      exact ⟨r, rfl, h⟩)
  rw [← h]
  unfold ordL
  rw [sg_len]
  omega
theorem t_rows4 {σ : zS} {I : Nat → Bool} (h : ∀ r : Nat, r < 60 → σ 144 (20 + 3 * (r : Int)) = if I r = true then 1 else 0) : ∀ (n k : Nat), k ≤ 60 → zP' (g_m_rows_L4 n (cnP I k) (k : Int) σ) (fun v s => s = σ ∧ v = cnP I 60)
  | 0, _, _ => zP'.no
  | n + 1, k, hk => by
    have bd : 0 ≤ cnP I k ∧ cnP I k ≤ (k : Int) := cnP_bd k
    unfold g_m_rows_L4
    by_cases c : k = 60
    · subst c
      rw [if_pos (by omega)]
      exact zP'.ret ⟨rfl, rfl⟩
    · rw [if_neg (by omega), s_rowAt (by omega) (by omega), Option.bind_some]
      try dsimp +instances only
      rw [if_pos (by omega), h k (by omega)]
      have e : cnP I (k + 1) = cnP I k + (if I k = true then 1 else 0) := rfl
      have b1 : (0 : Int) ≤ (if I k = true then 1 else 0) ∧ (if I k = true then (1 : Int) else 0) ≤ 1 := by
        split <;> omega
      rw [w32_id (x := cnP I k + (if I k = true then 1 else 0)) (by omega) (by omega), ← e, w32_id (x := (k : Int) + 1) (by omega) (by omega), show (k : Int) + 1 = ((k + 1 : Nat) : Int) by omega]
      exact t_rows4 h n (k + 1) (by omega)
def tdV (rn : Bx → Int) (L : List Rg) (ct : Int → Int) (N : Int) (T : List Int) (a : Int) : Int := if a = 0 then (L.length : Int) else if a = 1 then szP rn L else if 2 ≤ a ∧ a ≤ 7 then ct (8 + a) else if a = 8 then ct 9 else if a = 9 then N else if a = 10 then (T.length : Int) else -9223372036854775808
theorem k_toldR {σ : zS} {I : Nat → Bool} {rn : Bx → Int} {st : Int → Int} {L : List Rg} {ct : Int → Int} {T : List Int} {a : Int} (C : cSt σ 48 I rn st L ct) (hL : L.length ≤ 12) (hk : ∀ r ∈ L, hOk r) (h : pg σ T) : zP' (g_c_told a σ) (fun v s => s = σ ∧ v = tdV rn L ct (σ 41 4) T a) := by
  have cc : ∀ i : Int, 8 ≤ i → i ≤ 15 → σ 48 i = ct i := C.2.1
  unfold g_c_told tdV
  by_cases c0 : a = 0
  · rw [if_pos c0, if_pos c0]
    exact zP'.ret ⟨rfl, C.1.1⟩
  rw [if_neg c0, if_neg c0]
  by_cases c1 : a = 1
  · rw [if_pos c1, if_pos c1]
    unfold g_ca_sizes
    try dsimp +instances only
    rw [C.1.1]
    refine zP'.bind (k_sizes7 (by omega) (fun r hr => (hk r hr).1) zK 0 (L.length : Int) σ C (Nat.zero_le _) (by show (L.length : Int) = (L.length : Int) + (0 - ((0 : Nat) : Int)); omega)) (fun v s p => ?_)
    obtain ⟨rfl, rfl⟩ := p
    exact zP'.ret ⟨rfl, rfl⟩
  rw [if_neg c1, if_neg c1]
  by_cases c2 : a = 2
  · subst c2
    rw [if_pos rfl, if_pos (by decide)]
    exact zP'.ret ⟨rfl, cc 10 (by decide) (by decide)⟩
  rw [if_neg c2]
  by_cases c3 : a = 3
  · subst c3
    rw [if_pos rfl, if_pos (by decide)]
    exact zP'.ret ⟨rfl, cc 11 (by decide) (by decide)⟩
  rw [if_neg c3]
  by_cases c4 : a = 4
  · subst c4
    rw [if_pos rfl, if_pos (by decide)]
    exact zP'.ret ⟨rfl, cc 12 (by decide) (by decide)⟩
  rw [if_neg c4]
  by_cases c5 : a = 5
  · subst c5
    rw [if_pos rfl, if_pos (by decide)]
    exact zP'.ret ⟨rfl, cc 13 (by decide) (by decide)⟩
  rw [if_neg c5]
  by_cases c6 : a = 6
  · subst c6
    rw [if_pos rfl, if_pos (by decide)]
    exact zP'.ret ⟨rfl, cc 14 (by decide) (by decide)⟩
  rw [if_neg c6]
  by_cases c7 : a = 7
  · subst c7
    rw [if_pos rfl, if_pos (by decide)]
    exact zP'.ret ⟨rfl, cc 15 (by decide) (by decide)⟩
  rw [if_neg c7, if_neg (show ¬ (2 ≤ a ∧ a ≤ 7) by omega)]
  by_cases c8 : a = 8
  · rw [if_pos c8, if_pos c8]
    exact zP'.ret ⟨rfl, cc 9 (by decide) (by decide)⟩
  rw [if_neg c8, if_neg c8]
  by_cases c9 : a = 9
  · rw [if_pos c9, if_pos c9]
    exact zP'.ret ⟨rfl, rfl⟩
  rw [if_neg c9, if_neg c9]
  by_cases c10 : a = 10
  · rw [if_pos c10, if_pos c10, pg_len h, Option.bind_some]
    exact zP'.ret ⟨rfl, rfl⟩
  · rw [if_neg c10, if_neg c10]
    exact zP'.ret ⟨rfl, rfl⟩
theorem t_toldR {σ : zS} {I : Nat → Bool} {rn : Bx → Int} {st : Int → Int} {L : List Rg} {ct : Int → Int} {T : List Int} {a : Int} (M : mSt σ rn st L ct) (hL : L.length ≤ 12) (hr : ∀ r : Nat, r < 60 → σ 144 (20 + 3 * (r : Int)) = if I r = true then 1 else 0) (h : mpg σ T) : zP' (g_m_told a σ) (fun v s => s = σ ∧ v = tdV rn L ct (cnP I 60) T a) := by
  have cc := M.2.1.2.2
  unfold g_m_told tdV
  by_cases c0 : a = 0
  · rw [if_neg (fun e => e c0), if_pos c0]
    exact zP'.ret ⟨rfl, M.1.1⟩
  rw [if_pos c0, if_neg c0]
  by_cases c1 : a = 1
  · have e : sumC σ L.length = szP rn L := by
      rw [t_sum M.1 M.2.2 L.length (Nat.le_refl _), List.take_length]
    rw [if_neg (fun e => e c1), if_pos c1, s_sizes M.1.1 (by omega), e, Option.bind_some]
    exact zP'.ret ⟨rfl, rfl⟩
  rw [if_pos c1, if_neg c1]
  by_cases c2 : 2 ≤ a ∧ a ≤ 7
  · rw [s_isIn_t c2.1 c2.2, Option.bind_some, if_pos c2]
    try dsimp +instances only
    rw [if_neg (by decide), w32_id (x := 2 + a) (by omega) (by omega), w32_id (x := 2 + a - 2) (by omega) (by omega), if_pos (by omega)]
    have g := cc (8 + a) (by omega) (by omega)
    rw [show 8 + a - 8 = 2 + a - 2 by omega] at g
    exact zP'.ret ⟨rfl, g⟩
  rw [s_isIn_f (by omega), Option.bind_some, if_neg c2]
  try dsimp +instances only
  rw [if_pos rfl]
  by_cases c8 : a = 8
  · rw [if_neg (fun e => e c8), if_pos c8]
    exact zP'.ret ⟨rfl, M.2.1.2.1⟩
  rw [if_pos c8, if_neg c8]
  by_cases c9 : a = 9
  · rw [if_neg (fun e => e c9), if_pos c9]
    unfold g_m_rows
    have g := t_rows4 hr zK 0 (by decide)
    refine zP'.bind (show zP' (g_m_rows_L4 zK 0 0 σ) _ from g) (fun v s p => ?_)
    obtain ⟨rfl, rfl⟩ := p
    exact zP'.ret ⟨rfl, rfl⟩
  rw [if_pos c9, if_neg c9]
  by_cases c10 : a = 10
  · rw [if_neg (fun e => e c10), if_pos c10]
    exact zP'.ret ⟨rfl, h.1⟩
  · rw [if_pos c10, if_neg c10]
    exact zP'.ret ⟨rfl, rfl⟩
end
section
/-! 8xe.paperL -/
/-! COMPONENT Pg: PGe is kept by every call that does not touch it (printed by wip/zc.py) -/
def KPg (a : Nat) (j : Int) : Prop := (a = 129 ∧ j = 1) ∨ (a = 129 ∧ j = 3) ∨ (a = 168) ∨ (a = 169) ∨ (a = 143 ∧ j = 29) ∨ a = 163
def cFPg (F : Nat → Int → Bool) : Prop := ∀ j : Int, F 129 (1) = false ∧ F 129 (3) = false ∧ F 168 j = false ∧ F 169 j = false
theorem hcPg {F : Nat → Int → Bool} {σ : zS} {c : Option (Int × zS)} {P : Int → zS → Prop} (hc : zO c (fun v s => CI s ∧ fr F σ s ∧ P v s)) (f : cFPg F) : zP' c (fun _ s1 => ∀ a j, (KPg a j ∨ (143 ≤ a ∧ a < 168)) → s1 a j = σ a j) := (zP'.of hc).imp (fun v s p a j k => by
  have G := p.2.1
  rcases k with k | k
  · unfold KPg at k
    obtain ⟨h0, h1, h2, h3⟩ := f j
    rcases k with ⟨rfl, rfl⟩ | ⟨rfl, rfl⟩ | rfl | rfl | k
    · exact G _ _ (Or.inr h0)
    · exact G _ _ (Or.inr h1)
    · exact G _ _ (Or.inr h2)
    · exact G _ _ (Or.inr h3)
    · exact G _ _ (Or.inl (by omega))
  · exact G _ _ (Or.inl k))
theorem hpPg {σ : zS} {c : Option (Int × zS)} {P : Int → Prop} (hc : zOp c σ P) : zP' c (fun _ s1 => ∀ a j, (KPg a j ∨ (143 ≤ a ∧ a < 168)) → s1 a j = σ a j) := fun v s e => by
  obtain ⟨v0, e0, -⟩ := hc
  rw [e0] at e
  cases e
  exact fun _ _ _ => rfl
theorem hmPg {m : zS → Option (Int × zS)} (h : ∀ s, MI s → ∃ w, m s = some (w, s)) : ∀ s, MI s → zP' (m s) (fun _ s2 => ∀ a j, KPg a j → s2 a j = s a j) := fun s hs v t e => by
  obtain ⟨w, e0⟩ := h s hs
  rw [e0] at e
  cases e
  exact fun _ _ _ => rfl
def InvG (K : Int) (σ : zS) : Prop := InvR K σ ∧ PGe σ
theorem liftPg {K K' : Int} {σ : zS} {c : Option (Int × zS)} {m : zS → Option (Int × zS)} {Q : Int → Int → zS → Prop} (I : InvG K σ) (o : two c m (fun v w s => InvR K' s ∧ Q v w s)) (hc : zP' c (fun _ s1 => ∀ a j, (KPg a j ∨ (143 ≤ a ∧ a < 168)) → s1 a j = σ a j)) (hm : ∀ s, MI s → zP' (m s) (fun _ s2 => ∀ a j, KPg a j → s2 a j = s a j)) : two c m (fun v w s => InvG K' s ∧ Q v w s) := by
  obtain ⟨v, s1, e1, w, s2, e2, J, q⟩ := o
  have h1 := hc v s1 e1
  have M1 : MI s1 := MI_cls ((fun (s : zS) (h : InvR K s) => h.1.1.1) σ I.1).1.2.1 (fun a j k1 k2 => h1 a j (Or.inr ⟨k1, k2⟩))
  have h2 := hm s1 M1 w s2 e2
  exact ⟨v, s1, e1, w, s2, e2, ⟨J, PGe_keep I.2 (fun a j k => (h2 a j k).trans (h1 a j (Or.inl k)))⟩, q⟩
theorem qg_put {K : Int} {a b c d : Int} {σ : zS} (hK : K ≤ 2000000) (hd : okL d) (I : InvG K σ) : two (g_c_put a b c d σ) (g_m_put a b c d) (fun v w s => InvG (K + 2400) s ∧ v = w) := liftPg I (qr_put hK hd I.1) (hcPg (g_c_put_sp ((fun (s : zS) (h : InvR K s) => h.1.1.1) σ I.1).1.1) (fun _ => ⟨rfl, rfl, rfl, rfl⟩)) (fun s h => (f_put h).imp (fun _ t g a j k => g a j (by unfold KPg at k; omega) (by unfold KPg at k; omega) (by unfold KPg at k; omega) (by unfold KPg at k; omega) (by unfold KPg at k; omega) (by unfold KPg at k; omega) (by unfold KPg at k; omega) (by unfold KPg at k; omega) (by unfold KPg at k; omega)))
theorem qg_take {K : Int} {a : Int} {σ : zS} (hK : K ≤ 2000000) (I : InvG K σ) : two (g_c_take a σ) (g_m_take a) (fun v w s => InvG (K + 2400) s ∧ v = w) := liftPg I (qr_take hK I.1) (hcPg (g_c_take_sp ((fun (s : zS) (h : InvR K s) => h.1.1.1) σ I.1).1.1) (fun _ => ⟨rfl, rfl, rfl, rfl⟩)) (fun s h => (f_take h).imp (fun _ t g a j k => g a j (by unfold KPg at k; omega) (by unfold KPg at k; omega) (by unfold KPg at k; omega) (by unfold KPg at k; omega) (by unfold KPg at k; omega) (by unfold KPg at k; omega) (by unfold KPg at k; omega) (by unfold KPg at k; omega) (by unfold KPg at k; omega)))
theorem qg_row {K : Int} {a b : Int} {σ : zS} (I : InvG K σ) : two (g_c_row a b σ) (g_m_row a b) (fun v w s => InvG K s ∧ v = w) := liftPg I (qr_row I.1) (hpPg (g_c_row_sp ((fun (s : zS) (h : InvR K s) => h.1.1.1) σ I.1).1.1)) (hmPg (fun _ _ => m_row))
theorem qg_worth {K : Int} {a : Int} {σ : zS} (I : InvG K σ) : two (g_c_worth a σ) (g_m_worth a) (fun v w s => InvG K s ∧ v = w) := liftPg I (qr_worth I.1) (hpPg (g_c_worth_sp ((fun (s : zS) (h : InvR K s) => h.1.1.1) σ I.1).1.1)) (hmPg (fun _ _ => m_worth))
theorem qg_feed {K : Int} {a : Int} {σ : zS} (I : InvG K σ) : two (g_c_feed a σ) (g_m_feed a) (fun v w s => InvG K s ∧ v = w) := liftPg I (qr_feed I.1) (hcPg (g_c_feed_sp ((fun (s : zS) (h : InvR K s) => h.1.1.1) σ I.1).1.1) (fun _ => ⟨rfl, rfl, rfl, rfl⟩)) (fun s h => (f_feed h).imp (fun _ t g a j k => g a j (by unfold KPg at k; omega) (by unfold KPg at k; omega)))
theorem qg_clear {K : Int} {σ : zS} (I : InvG K σ) : two (g_c_clear σ) g_m_clear (fun v w s => InvG K s ∧ v = w) := liftPg I (qr_clear I.1) (hcPg (g_c_clear_sp ((fun (s : zS) (h : InvR K s) => h.1.1.1) σ I.1).1.1) (fun _ => ⟨rfl, rfl, rfl, rfl⟩)) (fun s h => (f_clear h).imp (fun _ t g a j k => g a j (by unfold KPg at k; omega)))
theorem qg_settings {K : Int} {σ : zS} (I : InvG K σ) : two (g_c_settings σ) g_m_settings (fun v w s => InvG (K + 2400) s ∧ v = w) := liftPg I (qr_settings I.1) (hcPg (g_c_settings_sp ((fun (s : zS) (h : InvR K s) => h.1.1.1) σ I.1).1.1) (fun _ => ⟨rfl, rfl, rfl, rfl⟩)) (fun s h => (f_settings5 h).imp (fun _ t g a j k => g a j (by unfold KPg at k; omega)))
theorem qg_setting {K : Int} {a : Int} {σ : zS} (I : InvG K σ) : two (g_c_setting a σ) (g_m_setting a) (fun v w s => InvG K s ∧ v = w) := liftPg I (qr_setting I.1) (hpPg (g_c_setting_sp ((fun (s : zS) (h : InvR K s) => h.1.1.1) σ I.1).1.1)) (hmPg (fun _ _ => m_setting))
theorem qg_run {K : Int} {σ : zS} (hK : K ≤ 2000000) (I : InvG K σ) : two (g_c_run σ) g_m_run (fun v w s => InvG (K + 2400) s ∧ v = w) := liftPg I (qr_run hK I.1) (hcPg (g_c_run_sp ((fun (s : zS) (h : InvR K s) => h.1.1.1) σ I.1).1.1) (fun _ => ⟨rfl, rfl, rfl, rfl⟩)) (fun s h => (f_run6 h).imp (fun _ t g a j k => g a j (by unfold KPg at k; omega)))
theorem qg_answer {K : Int} {a : Int} {σ : zS} (I : InvG K σ) : two (g_c_answer a σ) (g_m_answer a) (fun _ _ s => InvG K s) := ft2 (liftPg I (tt2 (qr_answer I.1)) (hpPg (g_c_answer_sp ((fun (s : zS) (h : InvR K s) => h.1.1.1) σ I.1).1.1)) (hmPg (fun _ h => m_answer h)))
theorem qg_load {K : Int} {σ : zS} (hK : K ≤ 2000000) (I : InvG K σ) : two (g_c_load σ) g_m_load (fun v w s => InvG (K + 2400) s ∧ v = w) := liftPg I (qr_load hK I.1) (hcPg (g_c_load_sp ((fun (s : zS) (h : InvR K s) => h.1.1.1) σ I.1).1.1) (fun _ => ⟨rfl, rfl, rfl, rfl⟩)) (fun s h => (f_load4 h).imp (fun _ t g a j k => g a j (by unfold KPg at k; omega)))
theorem qg_query {K : Int} {a b c d e : Int} {σ : zS} (hK : K ≤ 2000000) (I : InvG K σ) : two (g_c_query a b c d e σ) (g_m_query a b c d e) (fun v w s => InvG (K + 2400) s ∧ v = w) := liftPg I (qr_query hK I.1) (hcPg (g_c_query_sp ((fun (s : zS) (h : InvR K s) => h.1.1.1) σ I.1).1.1) (fun _ => ⟨rfl, rfl, rfl, rfl⟩)) (fun s h => (f_query h).imp (fun _ t g a j k => g a j (by unfold KPg at k; omega) (by unfold KPg at k; omega) (by unfold KPg at k; omega) (by unfold KPg at k; omega) (by unfold KPg at k; omega) (by unfold KPg at k; omega) (by unfold KPg at k; omega) (by unfold KPg at k; omega) (by unfold KPg at k; omega)))
theorem qg_find {K : Int} {a : Int} {σ : zS} (I : InvG K σ) : two (g_c_find a σ) (g_m_find a) (fun _ _ s => InvG K s) := ft2 (liftPg I (tt2 (qr_find I.1)) (hpPg (g_c_find_sp ((fun (s : zS) (h : InvR K s) => h.1.1.1) σ I.1).1.1)) (hmPg (fun _ h => m_find h)))
theorem qg_probe {K : Int} {a b c d : Int} {σ : zS} (I : InvG K σ) : two (g_c_probe a b c d σ) (g_m_probe a b c d) (fun _ _ s => InvG K s) := ft2 (liftPg I (tt2 (qr_probe I.1)) (hcPg (g_c_probe_sp ((fun (s : zS) (h : InvR K s) => h.1.1.1) σ I.1).1.1) (fun _ => ⟨rfl, rfl, rfl, rfl⟩)) (fun s h => (f_probe h).imp (fun _ t g a j k => g a j (by unfold KPg at k; omega) (by unfold KPg at k; omega) (by unfold KPg at k; omega) (by unfold KPg at k; omega) (by unfold KPg at k; omega))))
theorem qg_piece {K : Int} {a b : Int} {σ : zS} (I : InvG K σ) : two (g_c_piece a b σ) (g_m_piece a b) (fun _ _ s => InvG K s) := ft2 (liftPg I (tt2 (qr_piece I.1)) (hpPg (g_c_piece_sp ((fun (s : zS) (h : InvR K s) => h.1.1.1) σ I.1).1.1)) (hmPg (fun _ h => m_piece h)))
theorem qg_region {K : Int} {a b : Int} {σ : zS} (I : InvG K σ) : two (g_c_region a b σ) (g_m_region_248 a b) (fun _ _ s => InvG K s) := ft2 (liftPg I (tt2 (qr_region I.1)) (hpPg (g_c_region_sp ((fun (s : zS) (h : InvR K s) => h.1.1.1) σ I.1).1.1)) (hmPg (fun _ h => m_region h)))
theorem qg_weight {K : Int} {a : Int} {σ : zS} (I : InvG K σ) : two (g_c_weight a σ) (g_m_weight a) (fun _ _ s => InvG K s) := ft2 (liftPg I (tt2 (qr_weight I.1)) (hpPg (g_c_weight_sp ((fun (s : zS) (h : InvR K s) => h.1.1.1) σ I.1).1.1)) (hmPg (fun _ h => m_weight h)))
theorem qg_flush {K : Int} {σ : zS} (I : InvG K σ) : two (g_c_flush σ) g_m_flush (fun v w s => InvG (K + 2400) s ∧ v = w) := liftPg I (qr_flush I.1) (hcPg (g_c_flush_sp ((fun (s : zS) (h : InvR K s) => h.1.1.1) σ I.1).1.1) (fun _ => ⟨rfl, rfl, rfl, rfl⟩)) (fun s h => (f_flush).imp (fun _ t g a j k => g a j (by unfold KPg at k; omega)))
theorem qg_keep {K : Int} {a : Int} {σ : zS} (I : InvG K σ) : two (g_c_keep a σ) (g_m_keep a) (fun _ _ s => InvG K s) := ft2 (liftPg I (tt2 (qr_keep I.1)) (hpPg (g_c_keep_sp ((fun (s : zS) (h : InvR K s) => h.1.1.1) σ I.1).1.1)) (hmPg (fun _ h => m_keep h)))
theorem qg_trace {K : Int} {a b c d : Int} {σ : zS} (I : InvG K σ) : two (g_c_trace a b c d σ) (g_m_trace a b c d) (fun v w s => InvG K s ∧ v = w) := liftPg I (qr_trace I.1) (hcPg (g_c_trace_sp ((fun (s : zS) (h : InvR K s) => h.1.1.1) σ I.1).1.1) (fun _ => ⟨rfl, rfl, rfl, rfl⟩)) (fun s h => (f_trace h).imp (fun _ t g a j k => g a j (by unfold KPg at k; omega)))
theorem qg_again {K : Int} {a b : Int} {σ : zS} (I : InvG K σ) : two (g_c_again a b σ) (g_m_again a b) (fun _ _ s => InvG K s) := ft2 (liftPg I (tt2 (qr_again I.1)) (hcPg (g_c_again_sp ((fun (s : zS) (h : InvR K s) => h.1.1.1) σ I.1).1.1) (fun _ => ⟨rfl, rfl, rfl, rfl⟩)) (fun s h => (f_again h).imp (fun _ t g a j k => g a j (by unfold KPg at k; omega) (by unfold KPg at k; omega) (by unfold KPg at k; omega) (by unfold KPg at k; omega) (by unfold KPg at k; omega) (by unfold KPg at k; omega) (by unfold KPg at k; omega) (by unfold KPg at k; omega) (by unfold KPg at k; omega))))
theorem qg_least {K : Int} {a : Int} {σ : zS} (I : InvG K σ) : two (g_c_least a σ) (g_m_least a) (fun _ _ s => InvG K s) := ft2 (liftPg I (tt2 (qr_least I.1)) (hcPg (g_c_least_sp ((fun (s : zS) (h : InvR K s) => h.1.1.1) σ I.1).1.1) (fun _ => ⟨rfl, rfl, rfl, rfl⟩)) (fun s h => (f_least h).imp (fun _ t g a j k => g a j (by unfold KPg at k; omega) (by unfold KPg at k; omega) (by unfold KPg at k; omega) (by unfold KPg at k; omega) (by unfold KPg at k; omega) (by unfold KPg at k; omega) (by unfold KPg at k; omega) (by unfold KPg at k; omega) (by unfold KPg at k; omega))))
theorem qg_watch {K : Int} {a b c d e : Int} {σ : zS} (I : InvG K σ) : two (g_c_watch a b c d e σ) (g_m_watch a b c d e) (fun v w s => InvG K s ∧ v = w) := liftPg I (qr_watch I.1) (hcPg (g_c_watch_sp ((fun (s : zS) (h : InvR K s) => h.1.1.1) σ I.1).1.1) (fun _ => ⟨rfl, rfl, rfl, rfl⟩)) (fun s h => (f_watch h).imp (fun _ t g a j k => g a j (by unfold KPg at k; omega)))
theorem qg_value {K : Int} {a : Int} {σ : zS} (I : InvG K σ) : two (g_c_value a σ) (g_m_value a) (fun v w s => InvG K s ∧ v = w) := liftPg I (qr_value I.1) (hcPg (g_c_value_sp ((fun (s : zS) (h : InvR K s) => h.1.1.1) σ I.1).1.1) (fun _ => ⟨rfl, rfl, rfl, rfl⟩)) (fun s h => (f_value h).imp (fun _ t g a j k => g a j (by unfold KPg at k; omega) (by unfold KPg at k; omega) (by unfold KPg at k; omega)))
theorem qg_changes {K : Int} {a : Int} {σ : zS} (I : InvG K σ) : two (g_c_changes a σ) (g_m_changes a) (fun v w s => InvG K s ∧ v = w) := liftPg I (qr_changes I.1) (hpPg (g_c_changes_sp ((fun (s : zS) (h : InvR K s) => h.1.1.1) σ I.1).1.1)) (hmPg (fun _ h => m_changes h))
theorem qg_list {K : Int} {a b : Int} {σ : zS} (I : InvG K σ) : two (g_c_list a b σ) (g_m_list a b) (fun v w s => InvG K s ∧ v = w) := liftPg I (qr_list I.1) (hcPg (g_c_list_sp ((fun (s : zS) (h : InvR K s) => h.1.1.1) σ I.1).1.1) (fun _ => ⟨rfl, rfl, rfl, rfl⟩)) (fun s h => (f_list h).imp (fun _ t g a j k => g a j (by unfold KPg at k; omega) (by unfold KPg at k; omega)))
theorem qg_set {K : Int} {a b c : Int} {σ : zS} (I : InvG K σ) : two (g_c_set a b c σ) (g_m_set a b c) (fun v w s => InvG K s ∧ v = w) := liftPg I (qr_set I.1) (hcPg (g_c_set_sp ((fun (s : zS) (h : InvR K s) => h.1.1.1) σ I.1).1.1) (fun _ => ⟨rfl, rfl, rfl, rfl⟩)) (fun s h => (f_set h).imp (fun _ t g a j k => g a j (by unfold KPg at k; omega)))
theorem qg_get {K : Int} {a b : Int} {σ : zS} (I : InvG K σ) : two (g_c_get a b σ) (g_m_get a b) (fun _ _ s => InvG K s) := ft2 (liftPg I (tt2 (qr_get I.1)) (hpPg (g_c_get_sp ((fun (s : zS) (h : InvR K s) => h.1.1.1) σ I.1).1.1)) (hmPg (fun _ h => m_get h)))
theorem qg_move {K : Int} {a b c d e : Int} {σ : zS} (hb : b < 2147483648) (hd : d < 2147483648) (I : InvG K σ) : two (g_c_move a b c d e σ) (g_m_move a b c d e) (fun v w s => InvG K s ∧ v = w) := liftPg I (qr_move hb hd I.1) (hcPg (g_c_move_sp ((fun (s : zS) (h : InvR K s) => h.1.1.1) σ I.1).1.1) (fun _ => ⟨rfl, rfl, rfl, rfl⟩)) (fun s h => (f_move hb hd h).imp (fun _ t g a j k => g a j (by unfold KPg at k; omega)))
theorem qg_lay {K : Int} {a b : Int} {σ : zS} (hb : -2147483648 ≤ b ∧ b < 2147483648) (I : InvG K σ) : two (g_c_lay a b σ) (g_m_lay a b) (fun _ _ s => InvG K s) := ft2 (liftPg I (tt2 (qr_lay hb I.1)) (hcPg (g_c_lay_sp ((fun (s : zS) (h : InvR K s) => h.1.1.1) σ I.1).1.1) (fun _ => ⟨rfl, rfl, rfl, rfl⟩)) (fun s h => (f_lay hb h).imp (fun _ t g a j k => g a j (by unfold KPg at k; omega))))
theorem qg_judge {K : Int} {a b : Int} {σ : zS} (hb : -2147483648 ≤ b ∧ b < 2147483648) (I : InvG K σ) : two (g_c_judge a b σ) (g_m_judge a b) (fun _ _ s => InvG K s) := ft2 (liftPg I (tt2 (qr_judge hb I.1)) (hpPg (g_c_judge_sp ((fun (s : zS) (h : InvR K s) => h.1.1.1) σ I.1).1.1)) (hmPg (fun _ h => m_judge h hb)))
theorem qg_image {K : Int} {σ : zS} (I : InvG K σ) : two (g_c_image σ) g_m_image (fun v w s => InvG (K + 2400) s ∧ v = w) := liftPg I (qr_image I.1) (hcPg (g_c_image_sp ((fun (s : zS) (h : InvR K s) => h.1.1.1) σ I.1).1.1) (fun _ => ⟨rfl, rfl, rfl, rfl⟩)) (fun s h => (f_image.imp (fun _ _ g => g.1)).imp (fun _ t g a j k => g a j (by unfold KPg at k; omega) (by unfold KPg at k; omega) (by unfold KPg at k; omega)))
theorem qg_undo {K : Int} {σ : zS} (I : InvG K σ) : two (g_c_undo σ) g_m_undo (fun v w s => InvG (K + 2400) s ∧ v = w) := liftPg I (qr_undo I.1) (hcPg (g_c_undo_sp ((fun (s : zS) (h : InvR K s) => h.1.1.1) σ I.1).1.1) (fun _ => ⟨rfl, rfl, rfl, rfl⟩)) (fun s h => (f_undo.imp (fun _ _ g => g.1)).imp (fun _ t g a j k => g a j (by unfold KPg at k; omega) (by unfold KPg at k; omega)))
end
section
/-! 8xf.paper1 -/
/-! THE PAGE alike: spell, explain, paper, told, the start -/
theorem InvG.mono {K K' : Int} {σ : zS} (I : InvG K σ) (e : K ≤ K') : InvG K' σ := ⟨I.1.mono e, I.2⟩
theorem asc_n {L : List Rg} {m : Int} (A : asc L m) (g : gL L) (hm : m ≤ 1000000000) : ∀ r ∈ L, 0 ≤ r.2.2.1 ∧ r.2.2.1 < 1000000000 := fun r hr => ⟨(g r hr).2.2, by have := A.2 r hr; omega⟩
theorem qg_spell {K : Int} {σ : zS} (hK : K ≤ 2000000) (I : InvG K σ) : two (g_c_spell σ) g_m_spell (fun v w s => InvG K s ∧ v = w) := by
  obtain ⟨v, s1, e1, w, s2, e2, J⟩ := qr_spell I.1
  refine ⟨v, s1, e1, w, s2, e2, ?_⟩
  obtain ⟨T, P1, P2, P3⟩ := I.2
  obtain ⟨L, ct, C, M, hR, hk, A, B, hL⟩ := R_open I.1
  obtain ⟨H1, G1, -⟩ := zO.at (g_c_spell_sp I.1.1.ci) e1
  have ref := fr_ref G1
  have M1 : MI s1 := MI_cls I.1.1.mi ref
  have F := frI_of (mC (fun _ h => m_spell h) s1 M1) e2
  have Mm := M.mv (s := s1) (by omega) (fun j _ _ => ref 144 j (by decide) (by decide)) (fun j _ _ => ref 147 j (by decide) (by decide))
  obtain ⟨x1, x2⟩ := k_spellR C.1 hL hk P1 v s1 e1
  obtain ⟨y1, y2⟩ := t_spellR Mm.1 hL hk w s2 e2
  exact ⟨⟨J, spS 0 L, pg_mv x1 (fun a j k => F a j (by omega)), y1, okT_spS L 0⟩, x2.trans y2.symm⟩
theorem R_rn {K : Int} {σ : zS} (I : InvR K σ) : ∀ b, 0 ≤ rowsN σ b ∧ rowsN σ b ≤ 60 := fun b => by
  obtain ⟨L, ct, C, -⟩ := R_open I
  rw [← C.2.2.2.2.2 b]
  exact rnC_bd
theorem qg_explain {K : Int} {a b c d : Int} {σ : zS} (hK : K ≤ 2000000) (I : InvG K σ) : two (g_c_explain a b c d σ) (g_m_explain a b c d) (fun v w s => InvG K s ∧ v = w) := by
  obtain ⟨v, s1, e1, w, s2, e2, J⟩ := qr_explain (a := a) (b := b) (c := c) (d := d) I.1
  refine ⟨v, s1, e1, w, s2, e2, ?_⟩
  obtain ⟨T, P1, P2, P3⟩ := I.2
  obtain ⟨L, ct, C, M, hR, hk, A, B, hL⟩ := R_open I.1
  obtain ⟨H1, G1, -⟩ := zO.at (g_c_explain_sp I.1.1.ci) e1
  have ref := fr_ref G1
  have M1 : MI s1 := MI_cls I.1.1.mi ref
  have F := frI_of (mC (fun _ h => m_explain h) s1 M1) e2
  have Mm := M.mv (s := s1) (by omega) (fun j _ _ => ref 144 j (by decide) (by decide)) (fun j _ _ => ref 147 j (by decide) (by decide))
  have Rm := hR.mv (s := s1) (by omega) (fun j _ _ => ref 144 j (by decide) (by decide))
  have hn := asc_n A (R_g I.1 M.1) (by omega)
  obtain ⟨p1, p2⟩ := k_explR (a := a) (b := b) (c := c) (d := d) (R_st0 I.1) (R_rn I.1) C hL hk hn (pw_of M.1 hR) P1 v s1 e1
  obtain ⟨r1, r2⟩ := t_explR (a := a) (b := b) (c := c) (d := d) (R_st0 I.1) (R_rn I.1) Mm Rm hL hk hn w s2 e2
  by_cases ok : bOk (a, b, c, d)
  · obtain ⟨x1, x2⟩ := p1 ok
    obtain ⟨y1, y2⟩ := r1 ok
    exact ⟨⟨J, _, pg_mv x1 (fun a j k => F a j (by omega)), y1, okT_exP⟩, x2.trans y2.symm⟩
  · obtain ⟨x1, rfl⟩ := p2 ok
    obtain ⟨y1, rfl⟩ := r2 ok
    exact ⟨⟨J, I.2⟩, x1.trans y1.symm⟩
theorem qg_paper {K : Int} {a : Int} {σ : zS} (I : InvG K σ) : two (g_c_paper a σ) (g_m_paper a) (fun v w s => InvG K s ∧ v = w) := by
  obtain ⟨v, s1, e1, w, s2, e2, J⟩ := qr_paper (a := a) I.1
  obtain ⟨T, P1, P2, P3⟩ := I.2
  obtain ⟨x1, x2⟩ := k_paperR (a := a) P1 P3 v s1 e1
  have P2' : mpg s1 T := by rw [x1]; exact P2
  obtain ⟨y1, y2⟩ := t_paperR (a := a) P2' w s2 e2
  refine ⟨v, s1, e1, w, s2, e2, ⟨J, ?_⟩, x2.trans y2.symm⟩
  rw [y1, x1]
  exact I.2
theorem qg_told {K : Int} {a : Int} {σ : zS} (I : InvG K σ) : two (g_c_told a σ) (g_m_told a) (fun v w s => InvG K s ∧ v = w) := by
  obtain ⟨v, s1, e1, w, s2, e2, J⟩ := qr_told (a := a) I.1
  obtain ⟨T, P1, P2, P3⟩ := I.2
  obtain ⟨L, ct, C, M, hR, hk, A, B, hL⟩ := R_open I.1
  obtain ⟨x1, x2⟩ := k_toldR (a := a) C hL hk P1 v s1 e1
  have RW0 := I.1.1.rw
  have c4 := cls_cnt RW0.1 (CI.c4 (a := 41) I.1.1.ci (Or.inl rfl)).1
  have hr : ∀ r : Nat, r < 60 → σ 144 (20 + 3 * (r : Int)) = if inS σ 144 r = true then 1 else 0 := fun r hr => by
    have g := (RW0.2 r hr).1
    by_cases c : inS σ 144 r = true
    · rw [if_pos c]
      unfold inS at c
      exact (of_decide_eq_true c).2
    · rw [if_neg c]
      rcases g with g | g
      · exact g
      · exact absurd (by unfold inS; exact decide_eq_true ⟨hr, g⟩) c
  rw [x1] at e2
  obtain ⟨y1, y2⟩ := t_toldR (a := a) (I := inS σ 144) M hL hr P2 w s2 e2
  rw [x1] at e1
  refine ⟨v, σ, e1, w, s2, e2, ⟨J, ?_⟩, ?_⟩
  · rw [y1]
    exact I.2
  · rw [x2, y2, c4]
theorem InvG_s0 {K : Int} (hK : 0 ≤ K) : InvG K s0 := by
  have e0 : s0 129 3 = 0 ∧ s0 129 1 = 0 ∧ 0 ≤ s0 169 0 ∧ s0 143 29 = 0 := by decide +kernel
  exact ⟨InvR_s0 hK, [], ⟨e0.1, ⟨e0.2.2.1, by decide⟩, e0.2.1, fun k hk => absurd hk (Nat.not_lt_zero k)⟩, ⟨e0.2.2.2, by decide, fun k hk => absurd hk (Nat.not_lt_zero k)⟩, okT.nil⟩
end
section
/-! 90.main -/
/-! THE LAW: its loop keeps what stands between the calls (printed by wip/zw.py) -/
set_option maxHeartbeats 4000000 in
theorem z_loop {xl : Nat} {xs : Nat → Int32} (hxl : xl ≤ 3072) (hx : ∀ X : Int32, -2147483648 ≤ X.toInt ∧ X.toInt < 2147483648) : ∀ (n : Nat) (x3 : Int) (σ : zS), InvG (400 * x3) σ → 0 ≤ x3 → x3 ≤ (xl : Int) → (xl : Int) - x3 < (n : Int) → zO (g_jRangeAnswersLaw_law_L18 xl xs n x3 σ) (fun v _ => v = 1)
  | 0, _, _, _, _, _, _ => by exfalso; omega
  | n + 1, x3, σ, I, h1, h2, h3 => by
    unfold g_jRangeAnswersLaw_law_L18
    have w0 := w32_id (x := (xl : Int) - 6) (by omega) (by omega)
    refine zO.ite (fun _ => zO.ret rfl) (fun c0 => ?_)
    try dsimp +instances only
    refine zO.gd (by omega) ?_
    try dsimp +instances only
    have g1 : 0 ≤ w32 (x3 + 1) ∧ w32 (x3 + 1) < (xl : Int) := by rw [w32_id (x := x3 + 1) (by omega) (by omega)]; omega
    have g2 : 0 ≤ w32 (x3 + 2) ∧ w32 (x3 + 2) < (xl : Int) := by rw [w32_id (x := x3 + 2) (by omega) (by omega)]; omega
    have g3 : 0 ≤ w32 (x3 + 3) ∧ w32 (x3 + 3) < (xl : Int) := by rw [w32_id (x := x3 + 3) (by omega) (by omega)]; omega
    have g4 : 0 ≤ w32 (x3 + 4) ∧ w32 (x3 + 4) < (xl : Int) := by rw [w32_id (x := x3 + 4) (by omega) (by omega)]; omega
    have g5 : 0 ≤ w32 (x3 + 5) ∧ w32 (x3 + 5) < (xl : Int) := by rw [w32_id (x := x3 + 5) (by omega) (by omega)]; omega
    have w6 := w32_id (x := x3 + 6) (by omega) (by omega)
    have k1 : 0 ≤ x3 + 6 := by omega
    have k2 : x3 + 6 ≤ (xl : Int) := by omega
    have k3 : (xl : Int) - (x3 + 6) < (n : Int) := by omega
    have kK : 400 * x3 ≤ 2000000 := by omega
    clear w0 c0 h1 h2 h3
    refine zO.ite (fun c => ?_) (fun c => ?_)
    · clear c
      try dsimp +instances only
      refine zO.gd g1 ?_
      try dsimp +instances only
      refine zO.gd g2 ?_
      try dsimp +instances only
      refine zO.gd g3 ?_
      try dsimp +instances only
      refine zO.gd g4 ?_
      try dsimp +instances only
      refine zO.gd g5 ?_
      try dsimp +instances only
      refine zO.bind (qg_put kK (lOr_ok _ _) I) (fun v s1 p => ?_)
      try dsimp +instances only
      refine zO.gd g1 ?_
      try dsimp +instances only
      refine zO.gd g2 ?_
      try dsimp +instances only
      refine zO.gd g3 ?_
      try dsimp +instances only
      refine zO.gd g4 ?_
      try dsimp +instances only
      refine zO.gd g5 ?_
      try dsimp +instances only
      refine zO.bind p (fun w s2 q => ?_)
      try dsimp +instances only
      unfold g_jRangeAnswersLaw_law_L1368
      rw [w6]
      exact z_loop hxl hx n (x3 + 6) s2 (InvG.mono q.1 (by omega)) k1 k2 k3
    · clear c
      try dsimp +instances only
      refine zO.ite (fun c => ?_) (fun c => ?_)
      · clear c
        try dsimp +instances only
        refine zO.gd g1 ?_
        try dsimp +instances only
        refine zO.bind (qg_take kK I) (fun v s1 p => ?_)
        try dsimp +instances only
        refine zO.gd g1 ?_
        try dsimp +instances only
        refine zO.bind p (fun w s2 q => ?_)
        try dsimp +instances only
        unfold g_jRangeAnswersLaw_law_L1368
        rw [w6]
        exact z_loop hxl hx n (x3 + 6) s2 (InvG.mono q.1 (by omega)) k1 k2 k3
      · clear c
        try dsimp +instances only
        refine zO.ite (fun c => ?_) (fun c => ?_)
        · clear c
          try dsimp +instances only
          refine zO.gd g1 ?_
          try dsimp +instances only
          refine zO.gd g2 ?_
          try dsimp +instances only
          refine zO.bind (qg_row I) (fun v s1 p => ?_)
          try dsimp +instances only
          refine zO.gd g1 ?_
          try dsimp +instances only
          refine zO.gd g2 ?_
          try dsimp +instances only
          refine zO.bind p (fun w s2 q => ?_)
          try dsimp +instances only
          unfold g_jRangeAnswersLaw_law_L1368
          rw [w6]
          exact z_loop hxl hx n (x3 + 6) s2 (InvG.mono q.1 (by omega)) k1 k2 k3
        · clear c
          try dsimp +instances only
          refine zO.ite (fun c => ?_) (fun c => ?_)
          · clear c
            try dsimp +instances only
            refine zO.gd g1 ?_
            try dsimp +instances only
            refine zO.bind (qg_worth I) (fun v s1 p => ?_)
            try dsimp +instances only
            refine zO.gd g1 ?_
            try dsimp +instances only
            refine zO.bind p (fun w s2 q => ?_)
            try dsimp +instances only
            unfold g_jRangeAnswersLaw_law_L1368
            rw [w6]
            exact z_loop hxl hx n (x3 + 6) s2 (InvG.mono q.1 (by omega)) k1 k2 k3
          · clear c
            try dsimp +instances only
            refine zO.ite (fun c => ?_) (fun c => ?_)
            · clear c
              try dsimp +instances only
              refine zO.gd g1 ?_
              try dsimp +instances only
              refine zO.bind (qg_feed I) (fun v s1 p => ?_)
              try dsimp +instances only
              refine zO.gd g1 ?_
              try dsimp +instances only
              refine zO.bind p (fun w s2 q => ?_)
              try dsimp +instances only
              unfold g_jRangeAnswersLaw_law_L1368
              rw [w6]
              exact z_loop hxl hx n (x3 + 6) s2 (InvG.mono q.1 (by omega)) k1 k2 k3
            · clear c
              try dsimp +instances only
              refine zO.ite (fun c => ?_) (fun c => ?_)
              · clear c
                try dsimp +instances only
                refine zO.bind (qg_clear I) (fun v s1 p => ?_)
                try dsimp +instances only
                refine zO.bind p (fun w s2 q => ?_)
                try dsimp +instances only
                unfold g_jRangeAnswersLaw_law_L1368
                rw [w6]
                exact z_loop hxl hx n (x3 + 6) s2 (InvG.mono q.1 (by omega)) k1 k2 k3
              · clear c
                try dsimp +instances only
                refine zO.ite (fun c => ?_) (fun c => ?_)
                · clear c
                  try dsimp +instances only
                  refine zO.bind (qg_settings I) (fun v s1 p => ?_)
                  try dsimp +instances only
                  refine zO.bind p (fun w s2 q => ?_)
                  try dsimp +instances only
                  unfold g_jRangeAnswersLaw_law_L1368
                  rw [w6]
                  exact z_loop hxl hx n (x3 + 6) s2 (InvG.mono q.1 (by omega)) k1 k2 k3
                · clear c
                  try dsimp +instances only
                  refine zO.ite (fun c => ?_) (fun c => ?_)
                  · clear c
                    try dsimp +instances only
                    refine zO.gd g1 ?_
                    try dsimp +instances only
                    refine zO.bind (qg_setting I) (fun v s1 p => ?_)
                    try dsimp +instances only
                    refine zO.gd g1 ?_
                    try dsimp +instances only
                    refine zO.bind p (fun w s2 q => ?_)
                    try dsimp +instances only
                    unfold g_jRangeAnswersLaw_law_L1368
                    rw [w6]
                    exact z_loop hxl hx n (x3 + 6) s2 (InvG.mono q.1 (by omega)) k1 k2 k3
                  · clear c
                    try dsimp +instances only
                    refine zO.ite (fun c => ?_) (fun c => ?_)
                    · clear c
                      try dsimp +instances only
                      refine zO.bind (qg_run kK I) (fun v s1 p => ?_)
                      try dsimp +instances only
                      refine zO.bind p (fun w s2 q => ?_)
                      try dsimp +instances only
                      unfold g_jRangeAnswersLaw_law_L1368
                      rw [w6]
                      exact z_loop hxl hx n (x3 + 6) s2 (InvG.mono q.1 (by omega)) k1 k2 k3
                    · clear c
                      try dsimp +instances only
                      refine zO.ite (fun c => ?_) (fun c => ?_)
                      · clear c
                        try dsimp +instances only
                        refine zO.gd g1 ?_
                        try dsimp +instances only
                        refine zO.bind (qg_answer I) (fun v s1 p => ?_)
                        try dsimp +instances only
                        refine zO.gd g1 ?_
                        try dsimp +instances only
                        refine zO.bind p (fun w s2 q => ?_)
                        try dsimp +instances only
                        unfold g_jRangeAnswersLaw_law_L1368
                        rw [w6]
                        exact z_loop hxl hx n (x3 + 6) s2 (InvG.mono q (by omega)) k1 k2 k3
                      · clear c
                        try dsimp +instances only
                        refine zO.ite (fun c => ?_) (fun c => ?_)
                        · clear c
                          try dsimp +instances only
                          refine zO.bind (qg_spell kK I) (fun v s1 p => ?_)
                          try dsimp +instances only
                          refine zO.bind p (fun w s2 q => ?_)
                          try dsimp +instances only
                          unfold g_jRangeAnswersLaw_law_L1368
                          rw [w6]
                          exact z_loop hxl hx n (x3 + 6) s2 (InvG.mono q.1 (by omega)) k1 k2 k3
                        · clear c
                          try dsimp +instances only
                          refine zO.ite (fun c => ?_) (fun c => ?_)
                          · clear c
                            try dsimp +instances only
                            refine zO.bind (qg_load kK I) (fun v s1 p => ?_)
                            try dsimp +instances only
                            refine zO.bind p (fun w s2 q => ?_)
                            try dsimp +instances only
                            unfold g_jRangeAnswersLaw_law_L1368
                            rw [w6]
                            exact z_loop hxl hx n (x3 + 6) s2 (InvG.mono q.1 (by omega)) k1 k2 k3
                          · clear c
                            try dsimp +instances only
                            refine zO.ite (fun c => ?_) (fun c => ?_)
                            · clear c
                              try dsimp +instances only
                              refine zO.gd g1 ?_
                              try dsimp +instances only
                              refine zO.gd g2 ?_
                              try dsimp +instances only
                              refine zO.gd g3 ?_
                              try dsimp +instances only
                              refine zO.gd g4 ?_
                              try dsimp +instances only
                              refine zO.bind (qg_explain kK I) (fun v s1 p => ?_)
                              try dsimp +instances only
                              refine zO.gd g1 ?_
                              try dsimp +instances only
                              refine zO.gd g2 ?_
                              try dsimp +instances only
                              refine zO.gd g3 ?_
                              try dsimp +instances only
                              refine zO.gd g4 ?_
                              try dsimp +instances only
                              refine zO.bind p (fun w s2 q => ?_)
                              try dsimp +instances only
                              unfold g_jRangeAnswersLaw_law_L1368
                              rw [w6]
                              exact z_loop hxl hx n (x3 + 6) s2 (InvG.mono q.1 (by omega)) k1 k2 k3
                            · clear c
                              try dsimp +instances only
                              refine zO.ite (fun c => ?_) (fun c => ?_)
                              · clear c
                                try dsimp +instances only
                                refine zO.gd g1 ?_
                                try dsimp +instances only
                                refine zO.bind (qg_paper I) (fun v s1 p => ?_)
                                try dsimp +instances only
                                refine zO.gd g1 ?_
                                try dsimp +instances only
                                refine zO.bind p (fun w s2 q => ?_)
                                try dsimp +instances only
                                unfold g_jRangeAnswersLaw_law_L1368
                                rw [w6]
                                exact z_loop hxl hx n (x3 + 6) s2 (InvG.mono q.1 (by omega)) k1 k2 k3
                              · clear c
                                try dsimp +instances only
                                refine zO.ite (fun c => ?_) (fun c => ?_)
                                · clear c
                                  try dsimp +instances only
                                  refine zO.gd g1 ?_
                                  try dsimp +instances only
                                  refine zO.gd g2 ?_
                                  try dsimp +instances only
                                  refine zO.gd g3 ?_
                                  try dsimp +instances only
                                  refine zO.gd g4 ?_
                                  try dsimp +instances only
                                  refine zO.gd g5 ?_
                                  try dsimp +instances only
                                  refine zO.bind (qg_query kK I) (fun v s1 p => ?_)
                                  try dsimp +instances only
                                  refine zO.gd g1 ?_
                                  try dsimp +instances only
                                  refine zO.gd g2 ?_
                                  try dsimp +instances only
                                  refine zO.gd g3 ?_
                                  try dsimp +instances only
                                  refine zO.gd g4 ?_
                                  try dsimp +instances only
                                  refine zO.gd g5 ?_
                                  try dsimp +instances only
                                  refine zO.bind p (fun w s2 q => ?_)
                                  try dsimp +instances only
                                  unfold g_jRangeAnswersLaw_law_L1368
                                  rw [w6]
                                  exact z_loop hxl hx n (x3 + 6) s2 (InvG.mono q.1 (by omega)) k1 k2 k3
                                · clear c
                                  try dsimp +instances only
                                  refine zO.ite (fun c => ?_) (fun c => ?_)
                                  · clear c
                                    try dsimp +instances only
                                    refine zO.gd g1 ?_
                                    try dsimp +instances only
                                    refine zO.bind (qg_find I) (fun v s1 p => ?_)
                                    try dsimp +instances only
                                    refine zO.gd g1 ?_
                                    try dsimp +instances only
                                    refine zO.bind p (fun w s2 q => ?_)
                                    try dsimp +instances only
                                    unfold g_jRangeAnswersLaw_law_L1368
                                    rw [w6]
                                    exact z_loop hxl hx n (x3 + 6) s2 (InvG.mono q (by omega)) k1 k2 k3
                                  · clear c
                                    try dsimp +instances only
                                    refine zO.ite (fun c => ?_) (fun c => ?_)
                                    · clear c
                                      try dsimp +instances only
                                      refine zO.gd g1 ?_
                                      try dsimp +instances only
                                      refine zO.gd g2 ?_
                                      try dsimp +instances only
                                      refine zO.gd g3 ?_
                                      try dsimp +instances only
                                      refine zO.gd g4 ?_
                                      try dsimp +instances only
                                      refine zO.bind (qg_probe I) (fun v s1 p => ?_)
                                      try dsimp +instances only
                                      refine zO.gd g1 ?_
                                      try dsimp +instances only
                                      refine zO.gd g2 ?_
                                      try dsimp +instances only
                                      refine zO.gd g3 ?_
                                      try dsimp +instances only
                                      refine zO.gd g4 ?_
                                      try dsimp +instances only
                                      refine zO.bind p (fun w s2 q => ?_)
                                      try dsimp +instances only
                                      unfold g_jRangeAnswersLaw_law_L1368
                                      rw [w6]
                                      exact z_loop hxl hx n (x3 + 6) s2 (InvG.mono q (by omega)) k1 k2 k3
                                    · clear c
                                      try dsimp +instances only
                                      refine zO.ite (fun c => ?_) (fun c => ?_)
                                      · clear c
                                        try dsimp +instances only
                                        refine zO.gd g1 ?_
                                        try dsimp +instances only
                                        refine zO.gd g2 ?_
                                        try dsimp +instances only
                                        refine zO.bind (qg_piece I) (fun v s1 p => ?_)
                                        try dsimp +instances only
                                        refine zO.gd g1 ?_
                                        try dsimp +instances only
                                        refine zO.gd g2 ?_
                                        try dsimp +instances only
                                        refine zO.bind p (fun w s2 q => ?_)
                                        try dsimp +instances only
                                        unfold g_jRangeAnswersLaw_law_L1368
                                        rw [w6]
                                        exact z_loop hxl hx n (x3 + 6) s2 (InvG.mono q (by omega)) k1 k2 k3
                                      · clear c
                                        try dsimp +instances only
                                        refine zO.ite (fun c => ?_) (fun c => ?_)
                                        · clear c
                                          try dsimp +instances only
                                          refine zO.gd g1 ?_
                                          try dsimp +instances only
                                          refine zO.gd g2 ?_
                                          try dsimp +instances only
                                          refine zO.bind (qg_region I) (fun v s1 p => ?_)
                                          try dsimp +instances only
                                          refine zO.gd g1 ?_
                                          try dsimp +instances only
                                          refine zO.gd g2 ?_
                                          try dsimp +instances only
                                          refine zO.bind p (fun w s2 q => ?_)
                                          try dsimp +instances only
                                          unfold g_jRangeAnswersLaw_law_L1368
                                          rw [w6]
                                          exact z_loop hxl hx n (x3 + 6) s2 (InvG.mono q (by omega)) k1 k2 k3
                                        · clear c
                                          try dsimp +instances only
                                          refine zO.ite (fun c => ?_) (fun c => ?_)
                                          · clear c
                                            try dsimp +instances only
                                            refine zO.gd g1 ?_
                                            try dsimp +instances only
                                            refine zO.bind (qg_weight I) (fun v s1 p => ?_)
                                            try dsimp +instances only
                                            refine zO.gd g1 ?_
                                            try dsimp +instances only
                                            refine zO.bind p (fun w s2 q => ?_)
                                            try dsimp +instances only
                                            unfold g_jRangeAnswersLaw_law_L1368
                                            rw [w6]
                                            exact z_loop hxl hx n (x3 + 6) s2 (InvG.mono q (by omega)) k1 k2 k3
                                          · clear c
                                            try dsimp +instances only
                                            refine zO.ite (fun c => ?_) (fun c => ?_)
                                            · clear c
                                              try dsimp +instances only
                                              refine zO.gd g1 ?_
                                              try dsimp +instances only
                                              refine zO.bind (qg_told I) (fun v s1 p => ?_)
                                              try dsimp +instances only
                                              refine zO.gd g1 ?_
                                              try dsimp +instances only
                                              refine zO.bind p (fun w s2 q => ?_)
                                              try dsimp +instances only
                                              refine zO.ite (fun _ => ?_) (fun c => absurd (lCmp_eq.mpr q.2) c)
                                              try dsimp +instances only
                                              unfold g_jRangeAnswersLaw_law_L1368
                                              rw [w6]
                                              exact z_loop hxl hx n (x3 + 6) s2 (InvG.mono q.1 (by omega)) k1 k2 k3
                                            · clear c
                                              try dsimp +instances only
                                              refine zO.ite (fun c => ?_) (fun c => ?_)
                                              · clear c
                                                try dsimp +instances only
                                                refine zO.bind (qg_flush I) (fun v s1 p => ?_)
                                                try dsimp +instances only
                                                refine zO.bind p (fun w s2 q => ?_)
                                                try dsimp +instances only
                                                unfold g_jRangeAnswersLaw_law_L1368
                                                rw [w6]
                                                exact z_loop hxl hx n (x3 + 6) s2 (InvG.mono q.1 (by omega)) k1 k2 k3
                                              · clear c
                                                try dsimp +instances only
                                                refine zO.ite (fun c => ?_) (fun c => ?_)
                                                · clear c
                                                  try dsimp +instances only
                                                  refine zO.gd g1 ?_
                                                  try dsimp +instances only
                                                  refine zO.bind (qg_keep I) (fun v s1 p => ?_)
                                                  try dsimp +instances only
                                                  refine zO.gd g1 ?_
                                                  try dsimp +instances only
                                                  refine zO.bind p (fun w s2 q => ?_)
                                                  try dsimp +instances only
                                                  unfold g_jRangeAnswersLaw_law_L1368
                                                  rw [w6]
                                                  exact z_loop hxl hx n (x3 + 6) s2 (InvG.mono q (by omega)) k1 k2 k3
                                                · clear c
                                                  try dsimp +instances only
                                                  refine zO.ite (fun c => ?_) (fun c => ?_)
                                                  · clear c
                                                    try dsimp +instances only
                                                    refine zO.gd g1 ?_
                                                    try dsimp +instances only
                                                    refine zO.gd g2 ?_
                                                    try dsimp +instances only
                                                    refine zO.gd g3 ?_
                                                    try dsimp +instances only
                                                    refine zO.gd g4 ?_
                                                    try dsimp +instances only
                                                    refine zO.bind (qg_trace I) (fun v s1 p => ?_)
                                                    try dsimp +instances only
                                                    refine zO.gd g1 ?_
                                                    try dsimp +instances only
                                                    refine zO.gd g2 ?_
                                                    try dsimp +instances only
                                                    refine zO.gd g3 ?_
                                                    try dsimp +instances only
                                                    refine zO.gd g4 ?_
                                                    try dsimp +instances only
                                                    refine zO.bind p (fun w s2 q => ?_)
                                                    try dsimp +instances only
                                                    unfold g_jRangeAnswersLaw_law_L1368
                                                    rw [w6]
                                                    exact z_loop hxl hx n (x3 + 6) s2 (InvG.mono q.1 (by omega)) k1 k2 k3
                                                  · clear c
                                                    try dsimp +instances only
                                                    refine zO.ite (fun c => ?_) (fun c => ?_)
                                                    · clear c
                                                      try dsimp +instances only
                                                      refine zO.gd g1 ?_
                                                      try dsimp +instances only
                                                      refine zO.gd g2 ?_
                                                      try dsimp +instances only
                                                      refine zO.bind (qg_again I) (fun v s1 p => ?_)
                                                      try dsimp +instances only
                                                      refine zO.gd g1 ?_
                                                      try dsimp +instances only
                                                      refine zO.gd g2 ?_
                                                      try dsimp +instances only
                                                      refine zO.bind p (fun w s2 q => ?_)
                                                      try dsimp +instances only
                                                      unfold g_jRangeAnswersLaw_law_L1368
                                                      rw [w6]
                                                      exact z_loop hxl hx n (x3 + 6) s2 (InvG.mono q (by omega)) k1 k2 k3
                                                    · clear c
                                                      try dsimp +instances only
                                                      refine zO.ite (fun c => ?_) (fun c => ?_)
                                                      · clear c
                                                        try dsimp +instances only
                                                        refine zO.gd g1 ?_
                                                        try dsimp +instances only
                                                        refine zO.bind (qg_least I) (fun v s1 p => ?_)
                                                        try dsimp +instances only
                                                        refine zO.gd g1 ?_
                                                        try dsimp +instances only
                                                        refine zO.bind p (fun w s2 q => ?_)
                                                        try dsimp +instances only
                                                        unfold g_jRangeAnswersLaw_law_L1368
                                                        rw [w6]
                                                        exact z_loop hxl hx n (x3 + 6) s2 (InvG.mono q (by omega)) k1 k2 k3
                                                      · clear c
                                                        try dsimp +instances only
                                                        refine zO.ite (fun c => ?_) (fun c => ?_)
                                                        · clear c
                                                          try dsimp +instances only
                                                          refine zO.gd g1 ?_
                                                          try dsimp +instances only
                                                          refine zO.gd g2 ?_
                                                          try dsimp +instances only
                                                          refine zO.gd g3 ?_
                                                          try dsimp +instances only
                                                          refine zO.gd g4 ?_
                                                          try dsimp +instances only
                                                          refine zO.gd g5 ?_
                                                          try dsimp +instances only
                                                          refine zO.bind (qg_watch I) (fun v s1 p => ?_)
                                                          try dsimp +instances only
                                                          refine zO.gd g1 ?_
                                                          try dsimp +instances only
                                                          refine zO.gd g2 ?_
                                                          try dsimp +instances only
                                                          refine zO.gd g3 ?_
                                                          try dsimp +instances only
                                                          refine zO.gd g4 ?_
                                                          try dsimp +instances only
                                                          refine zO.gd g5 ?_
                                                          try dsimp +instances only
                                                          refine zO.bind p (fun w s2 q => ?_)
                                                          try dsimp +instances only
                                                          unfold g_jRangeAnswersLaw_law_L1368
                                                          rw [w6]
                                                          exact z_loop hxl hx n (x3 + 6) s2 (InvG.mono q.1 (by omega)) k1 k2 k3
                                                        · clear c
                                                          try dsimp +instances only
                                                          refine zO.ite (fun c => ?_) (fun c => ?_)
                                                          · clear c
                                                            try dsimp +instances only
                                                            refine zO.gd g1 ?_
                                                            try dsimp +instances only
                                                            refine zO.bind (qg_value I) (fun v s1 p => ?_)
                                                            try dsimp +instances only
                                                            refine zO.gd g1 ?_
                                                            try dsimp +instances only
                                                            refine zO.bind p (fun w s2 q => ?_)
                                                            try dsimp +instances only
                                                            unfold g_jRangeAnswersLaw_law_L1368
                                                            rw [w6]
                                                            exact z_loop hxl hx n (x3 + 6) s2 (InvG.mono q.1 (by omega)) k1 k2 k3
                                                          · clear c
                                                            try dsimp +instances only
                                                            refine zO.ite (fun c => ?_) (fun c => ?_)
                                                            · clear c
                                                              try dsimp +instances only
                                                              refine zO.gd g1 ?_
                                                              try dsimp +instances only
                                                              refine zO.bind (qg_changes I) (fun v s1 p => ?_)
                                                              try dsimp +instances only
                                                              refine zO.gd g1 ?_
                                                              try dsimp +instances only
                                                              refine zO.bind p (fun w s2 q => ?_)
                                                              try dsimp +instances only
                                                              unfold g_jRangeAnswersLaw_law_L1368
                                                              rw [w6]
                                                              exact z_loop hxl hx n (x3 + 6) s2 (InvG.mono q.1 (by omega)) k1 k2 k3
                                                            · clear c
                                                              try dsimp +instances only
                                                              refine zO.ite (fun c => ?_) (fun c => ?_)
                                                              · clear c
                                                                try dsimp +instances only
                                                                refine zO.gd g1 ?_
                                                                try dsimp +instances only
                                                                refine zO.gd g2 ?_
                                                                try dsimp +instances only
                                                                refine zO.bind (qg_list I) (fun v s1 p => ?_)
                                                                try dsimp +instances only
                                                                refine zO.gd g1 ?_
                                                                try dsimp +instances only
                                                                refine zO.gd g2 ?_
                                                                try dsimp +instances only
                                                                refine zO.bind p (fun w s2 q => ?_)
                                                                try dsimp +instances only
                                                                unfold g_jRangeAnswersLaw_law_L1368
                                                                rw [w6]
                                                                exact z_loop hxl hx n (x3 + 6) s2 (InvG.mono q.1 (by omega)) k1 k2 k3
                                                              · clear c
                                                                try dsimp +instances only
                                                                refine zO.ite (fun c => ?_) (fun c => ?_)
                                                                · clear c
                                                                  try dsimp +instances only
                                                                  refine zO.gd g1 ?_
                                                                  try dsimp +instances only
                                                                  refine zO.gd g2 ?_
                                                                  try dsimp +instances only
                                                                  refine zO.gd g3 ?_
                                                                  try dsimp +instances only
                                                                  refine zO.gd g4 ?_
                                                                  try dsimp +instances only
                                                                  refine zO.bind (qg_set I) (fun v s1 p => ?_)
                                                                  try dsimp +instances only
                                                                  refine zO.gd g1 ?_
                                                                  try dsimp +instances only
                                                                  refine zO.gd g2 ?_
                                                                  try dsimp +instances only
                                                                  refine zO.gd g3 ?_
                                                                  try dsimp +instances only
                                                                  refine zO.gd g4 ?_
                                                                  try dsimp +instances only
                                                                  refine zO.bind p (fun w s2 q => ?_)
                                                                  try dsimp +instances only
                                                                  unfold g_jRangeAnswersLaw_law_L1368
                                                                  rw [w6]
                                                                  exact z_loop hxl hx n (x3 + 6) s2 (InvG.mono q.1 (by omega)) k1 k2 k3
                                                                · clear c
                                                                  try dsimp +instances only
                                                                  refine zO.ite (fun c => ?_) (fun c => ?_)
                                                                  · clear c
                                                                    try dsimp +instances only
                                                                    refine zO.gd g1 ?_
                                                                    try dsimp +instances only
                                                                    refine zO.gd g2 ?_
                                                                    try dsimp +instances only
                                                                    refine zO.bind (qg_get I) (fun v s1 p => ?_)
                                                                    try dsimp +instances only
                                                                    refine zO.gd g1 ?_
                                                                    try dsimp +instances only
                                                                    refine zO.gd g2 ?_
                                                                    try dsimp +instances only
                                                                    refine zO.bind p (fun w s2 q => ?_)
                                                                    try dsimp +instances only
                                                                    unfold g_jRangeAnswersLaw_law_L1368
                                                                    rw [w6]
                                                                    exact z_loop hxl hx n (x3 + 6) s2 (InvG.mono q (by omega)) k1 k2 k3
                                                                  · clear c
                                                                    try dsimp +instances only
                                                                    refine zO.ite (fun c => ?_) (fun c => ?_)
                                                                    · clear c
                                                                      try dsimp +instances only
                                                                      refine zO.gd g1 ?_
                                                                      try dsimp +instances only
                                                                      refine zO.gd g2 ?_
                                                                      try dsimp +instances only
                                                                      refine zO.gd g3 ?_
                                                                      try dsimp +instances only
                                                                      refine zO.gd g4 ?_
                                                                      try dsimp +instances only
                                                                      refine zO.gd g5 ?_
                                                                      try dsimp +instances only
                                                                      refine zO.bind (qg_move (hx _).2 (hx _).2 I) (fun v s1 p => ?_)
                                                                      try dsimp +instances only
                                                                      refine zO.gd g1 ?_
                                                                      try dsimp +instances only
                                                                      refine zO.gd g2 ?_
                                                                      try dsimp +instances only
                                                                      refine zO.gd g3 ?_
                                                                      try dsimp +instances only
                                                                      refine zO.gd g4 ?_
                                                                      try dsimp +instances only
                                                                      refine zO.gd g5 ?_
                                                                      try dsimp +instances only
                                                                      refine zO.bind p (fun w s2 q => ?_)
                                                                      try dsimp +instances only
                                                                      unfold g_jRangeAnswersLaw_law_L1368
                                                                      rw [w6]
                                                                      exact z_loop hxl hx n (x3 + 6) s2 (InvG.mono q.1 (by omega)) k1 k2 k3
                                                                    · clear c
                                                                      try dsimp +instances only
                                                                      refine zO.ite (fun c => ?_) (fun c => ?_)
                                                                      · clear c
                                                                        try dsimp +instances only
                                                                        refine zO.gd g1 ?_
                                                                        try dsimp +instances only
                                                                        refine zO.gd g2 ?_
                                                                        try dsimp +instances only
                                                                        refine zO.bind (qg_lay (hx _) I) (fun v s1 p => ?_)
                                                                        try dsimp +instances only
                                                                        refine zO.gd g1 ?_
                                                                        try dsimp +instances only
                                                                        refine zO.gd g2 ?_
                                                                        try dsimp +instances only
                                                                        refine zO.bind p (fun w s2 q => ?_)
                                                                        try dsimp +instances only
                                                                        unfold g_jRangeAnswersLaw_law_L1368
                                                                        rw [w6]
                                                                        exact z_loop hxl hx n (x3 + 6) s2 (InvG.mono q (by omega)) k1 k2 k3
                                                                      · clear c
                                                                        try dsimp +instances only
                                                                        refine zO.ite (fun c => ?_) (fun c => ?_)
                                                                        · clear c
                                                                          try dsimp +instances only
                                                                          refine zO.gd g1 ?_
                                                                          try dsimp +instances only
                                                                          refine zO.gd g2 ?_
                                                                          try dsimp +instances only
                                                                          refine zO.bind (qg_judge (hx _) I) (fun v s1 p => ?_)
                                                                          try dsimp +instances only
                                                                          refine zO.gd g1 ?_
                                                                          try dsimp +instances only
                                                                          refine zO.gd g2 ?_
                                                                          try dsimp +instances only
                                                                          refine zO.bind p (fun w s2 q => ?_)
                                                                          try dsimp +instances only
                                                                          unfold g_jRangeAnswersLaw_law_L1368
                                                                          rw [w6]
                                                                          exact z_loop hxl hx n (x3 + 6) s2 (InvG.mono q (by omega)) k1 k2 k3
                                                                        · clear c
                                                                          try dsimp +instances only
                                                                          refine zO.ite (fun c => ?_) (fun c => ?_)
                                                                          · clear c
                                                                            try dsimp +instances only
                                                                            refine zO.bind (qg_image I) (fun v s1 p => ?_)
                                                                            try dsimp +instances only
                                                                            refine zO.bind p (fun w s2 q => ?_)
                                                                            try dsimp +instances only
                                                                            unfold g_jRangeAnswersLaw_law_L1368
                                                                            rw [w6]
                                                                            exact z_loop hxl hx n (x3 + 6) s2 (InvG.mono q.1 (by omega)) k1 k2 k3
                                                                          · clear c
                                                                            try dsimp +instances only
                                                                            refine zO.ite (fun c => ?_) (fun c => ?_)
                                                                            · clear c
                                                                              try dsimp +instances only
                                                                              refine zO.bind (qg_undo I) (fun v s1 p => ?_)
                                                                              try dsimp +instances only
                                                                              refine zO.bind p (fun w s2 q => ?_)
                                                                              try dsimp +instances only
                                                                              unfold g_jRangeAnswersLaw_law_L1368
                                                                              rw [w6]
                                                                              exact z_loop hxl hx n (x3 + 6) s2 (InvG.mono q.1 (by omega)) k1 k2 k3
                                                                            · clear c
                                                                              try dsimp +instances only
                                                                              unfold g_jRangeAnswersLaw_law_L1368
                                                                              rw [w6]
                                                                              exact z_loop hxl hx n (x3 + 6) σ (InvG.mono I (by omega)) k1 k2 k3
theorem z_main : z_goal 3072 := z_fin (by decide) (fun xl xs hxl => by
  obtain ⟨v, s, e, rfl⟩ := z_loop (xs := xs) hxl (fun X => ⟨Int32.le_toInt X, Int32.toInt_lt X⟩) zK 0 s0 (InvG_s0 (by decide)) (by omega) (by omega) (by show _ < (1000000 : Int); omega)
  exact ⟨s, e⟩)
end
