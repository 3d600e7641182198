section
/-! 8s.probe -/
/-! THE REGIONS' answers alike: probe, and the pieces it lays -/
theorem bs_addN {a N : Nat} {L : List Bx} {b : Bx} {σ : zS} (hz : zLI (a + 1) = (N : Int)) (hN : N ≤ 10000) (h : bsR σ a L) (hL : L.length < N) : zP' (g_bs_add a (enc b) σ) (fun _ s => bsR s a (L ++ [b]) ∧ frBs a σ s) := by
  unfold g_bs_add
  try dsimp +instances only
  rw [h.1, hz, if_neg (by omega), if_pos (by omega), if_pos (by omega)]
  have e : zu σ (a + 1) (L.length : Int) (enc b) a 1 = (L.length : Int) := (zu_a (by omega)).trans h.1
  rw [e, w32_id (x := (L.length : Int) + 1) (by omega) (by omega)]
  refine zP'.ret ⟨⟨?_, fun k hk => ?_⟩, fun c j k1 k2 => by rw [zu_c (by omega), zu_a k1]⟩
  · rw [zu_e rfl, List.length_append]
    show (L.length : Int) + 1 = ((L.length + 1 : Nat) : Int)
    omega
  · rw [List.length_append] at hk
    have hk : k < L.length + 1 := hk
    rw [zu_a (by omega)]
    by_cases ck : k < L.length
    · rw [zu_i (by omega), List.getElem_append_left ck]
      exact h.2 k ck
    · have ek : k = L.length := by omega
      subst ek
      rw [zu_e rfl, List.getElem_append_right (Nat.le_refl _)]
      have e0 : ([b] : List Bx)[L.length - L.length]'(by rw [Nat.sub_self]; exact Nat.one_pos) = b := by simp
      rw [e0]
abbrev Pc : Type := Bx × Int
def cPc (σ : zS) (P : List Pc) : Prop := bsR σ 131 (P.map (fun p => p.1)) ∧ ∀ (k : Nat) (hk : k < P.length), σ 133 (k : Int) = P[k].2
def frPc (σ s : zS) : Prop := ∀ c j, c ≠ 132 → c ≠ 133 → (c ≠ 131 ∨ j ≠ 1) → s c j = σ c j
theorem frPc.trans {σ s t : zS} (h1 : frPc σ s) (h2 : frPc s t) : frPc σ t := fun c j a b d => (h2 c j a b d).trans (h1 c j a b d)
theorem app_at {α : Type} {P : List α} {x : α} {k : Nat} (hk : k < (P ++ [x]).length) : (P ++ [x])[k] = if h : k < P.length then P[k] else x := by
  by_cases c : k < P.length
  · rw [dif_pos c, List.getElem_append_left c]
  · rw [dif_neg c, List.getElem_append_right (by omega)]
    simp
theorem pc_add {P : List Pc} {b : Bx} {n : Int} {σ : zS} (h : cPc σ P) (hl : P.length < 181) : zP' (g_c_addPiece (enc b) n σ) (fun _ s => cPc s (P ++ [(b, n)]) ∧ frPc σ s) := by
  have hm : (P.map (fun p => p.1)).length = P.length := List.length_map _
  have e1 : σ 131 1 = (P.length : Int) := h.1.1.trans (by rw [hm])
  unfold g_c_addPiece
  try dsimp +instances only
  rw [e1, if_neg (by omega), if_pos (by omega)]
  unfold g_c_addPiece_L28
  have h' : bsR (zu σ 133 (P.length : Int) n) 131 (P.map (fun p => p.1)) := ⟨(zu_a (by decide)).trans h.1.1, fun k hk => (zu_a (by decide)).trans (h.1.2 k hk)⟩
  refine zP'.bind (bs_addN (b := b) (N := 181) rfl (by decide) h' (by rw [hm]; exact hl)) (fun _ s p => ?_)
  obtain ⟨p1, p2⟩ := p
  try dsimp +instances only
  refine zP'.ret ⟨⟨by rw [List.map_append]; exact p1, fun k hk => ?_⟩, fun c j k1 k2 k3 => (p2 c j k1 k3).trans (zu_a k2)⟩
  rw [p2 133 (k : Int) (by decide) (Or.inl (by decide)), app_at hk]
  have hk' : k < P.length + 1 := by
    rw [List.length_append] at hk
    exact hk
  by_cases c : k < P.length
  · rw [dif_pos c, zu_i (by omega)]
    exact h.2 k c
  · rw [dif_neg c, zu_e (by omega)]
theorem bsR.mvv {σ s : zS} {a : Nat} {M : List Bx} (h : bsR σ a M) (e : ∀ j, s a j = σ a j) (e' : ∀ j, s (a + 1) j = σ (a + 1) j) : bsR s a M := ⟨(e 1).trans h.1, fun k hk => (e' _).trans (h.2 k hk)⟩
def noP (b : Bx) : Pc := (b, -5)
theorem k_prb129 {M : List Bx} (hM : M.length ≤ 169) : ∀ (n k : Nat) (P : List Pc) (σ : zS), k ≤ M.length → bsR σ 56 M → cPc σ P → P.length + (M.length - k) ≤ 181 → zP' (g_c_probe_L129 n (k : Int) σ) (fun v s => cPc s (P ++ (M.drop k).map noP) ∧ v = ((P ++ (M.drop k).map noP).length : Int))
  | 0, _, _, _, _, _, _, _ => zP'.no
  | n + 1, k, P, σ, hk, hb, h, hl => by
    unfold g_c_probe_L129
    try dsimp +instances only
    rw [hb.1]
    by_cases ck : k = M.length
    · rw [if_pos (by omega), List.drop_of_length_le (by omega), List.map_nil, List.append_nil]
      have hm : (P.map (fun p => p.1)).length = P.length := List.length_map _
      exact zP'.ret ⟨h, h.1.1.trans (by rw [hm])⟩
    · have hk' : k < M.length := by omega
      rw [if_neg (by omega), bs_at (a := 56) rfl hb hM hk', Option.bind_some]
      try dsimp +instances only
      refine zP'.bind (pc_add (b := M[k]) (n := -5) h (by omega)) (fun _ s p => ?_)
      obtain ⟨p1, p2⟩ := p
      try dsimp +instances only
      rw [w32_id (x := (k : Int) + 1) (by omega) (by omega), show (k : Int) + 1 = ((k + 1 : Nat) : Int) by omega]
      have e : (M.drop k).map noP = (M[k], -5) :: (M.drop (k + 1)).map noP := by
        rw [List.drop_eq_getElem_cons hk', List.map_cons]
        rfl
      have e2 : P ++ (M.drop k).map noP = (P ++ [(M[k], -5)]) ++ (M.drop (k + 1)).map noP := by
        rw [e, List.append_assoc]
        rfl
      rw [e2]
      exact k_prb129 hM n (k + 1) _ s (by omega) (hb.mvv (fun j => p2 56 j (by decide) (by decide) (Or.inl (by decide))) (fun j => p2 57 j (by decide) (by decide) (Or.inl (by decide)))) p1 (by rw [List.length_append]; show P.length + 1 + _ ≤ 181; omega)
/-- what of a box the regions have -/
def hvO (q : Bx) (r : Rg) : List Pc := if bMt r.1 q then [(bCom r.1 q, r.2.2.1)] else []
theorem hvO_t {q : Bx} {r : Rg} (h : bMt r.1 q) : hvO q r = [(bCom r.1 q, r.2.2.1)] := if_pos h
theorem hvO_f {q : Bx} {r : Rg} (h : ¬ bMt r.1 q) : hvO q r = [] := if_neg h
def hvP (q : Bx) : List Rg → List Pc
  | [] => []
  | r :: L => hvO q r ++ hvP q L
theorem hvP_le (q : Bx) : ∀ L : List Rg, (hvP q L).length ≤ L.length
  | [] => Nat.le_refl 0
  | r :: L => by
    have h := hvP_le q L
    have e : (hvP q (r :: L)).length = (hvO q r).length + (hvP q L).length := List.length_append
    rw [e, List.length_cons]
    by_cases c : bMt r.1 q
    · rw [hvO_t c]
      show 1 + _ ≤ _
      omega
    · rw [hvO_f c]
      show 0 + _ ≤ _
      omega
def prbP (q : Bx) (L : List Rg) : List Pc := hvP q L ++ (bMissAll q (L.map (fun r => r.1))).map noP
theorem k_prb35 {q : Bx} {L : List Rg} (hq : bOk q) (hb : ∀ r ∈ L, bOk r.1) (hw : (L.map (fun r => r.1)).Pairwise (fun a b => ¬ bMt a b)) (hL : L.length ≤ 12) : ∀ (n k : Nat) (P : List Pc) (σ : zS), k ≤ L.length → cRs σ 48 L → cPc σ P → P.length ≤ k → zP' (g_c_probe_L35 n (enc q) (k : Int) σ) (fun v s => cPc s (P ++ (hvP q (L.drop k) ++ (bMissAll q (L.map (fun r => r.1))).map noP)) ∧ v = ((P ++ (hvP q (L.drop k) ++ (bMissAll q (L.map (fun r => r.1))).map noP)).length : Int))
  | 0, _, _, _, _, _, _, _ => zP'.no
  | n + 1, k, P, σ, hk, hc, h, hp => by
    unfold g_c_probe_L35
    try dsimp +instances only
    rw [hc.1]
    have hbm : ∀ r ∈ L.map (fun r => r.1), bOk r := fun r hr => by
      obtain ⟨x, hx, rfl⟩ := List.mem_map.mp hr
      exact hb x hx
    by_cases ck : k = L.length
    · rw [if_pos (by omega), List.drop_of_length_le (by omega)]
      refine zP'.bind (c_missingOf (Or.inl rfl) hq hb hw hL hc) (fun _ s p => ?_)
      obtain ⟨p1, p2⟩ := p
      have h169 := bMissAll_169 hq hbm hw (by rw [List.length_map]; exact hL)
      have h1 : cPc s P := ⟨h.1.mvv (fun j => p2 131 j (by decide)) (fun j => p2 132 j (by decide)), fun k hk => (p2 133 _ (by decide)).trans (h.2 k hk)⟩
      exact k_prb129 h169 zK 0 P s (Nat.zero_le _) p1 h1 (by omega)
    · have hk' : k < L.length := by omega
      have ok := hb _ (List.getElem_mem hk')
      have x1 : σ 52 (k : Int) = enc L[k].1 := (hc.2 k hk').1
      have x3 : σ 51 (k : Int) = L[k].2.2.1 := (hc.2 k hk').2.2.1
      have k181 : 0 ≤ (k : Int) ∧ (k : Int) < 181 := by omega
      have e : hvP q (L.drop k) = hvO q L[k] ++ hvP q (L.drop (k + 1)) := by
        rw [List.drop_eq_getElem_cons hk']
        rfl
      rw [if_neg (by omega), if_pos k181, x1, c_meet ok hq, Option.bind_some, e]
      try dsimp +instances only
      by_cases c : bMt L[k].1 q
      · rw [if_pos c, if_neg (show ¬ (1 : Int) = 0 by decide), if_pos k181, x1, ← encH_ok ok, c_common (Or.inr ok) hq, if_pos ⟨by have := ok.n; omega, c⟩, Option.bind_some, if_pos k181]
        try dsimp +instances only
        rw [x3]
        refine zP'.bind (pc_add (b := bCom L[k].1 q) (n := L[k].2.2.1) h (by omega)) (fun _ s p => ?_)
        obtain ⟨p1, p2⟩ := p
        unfold g_c_probe_L106
        try dsimp +instances only
        rw [w32_id (x := (k : Int) + 1) (by omega) (by omega), show (k : Int) + 1 = ((k + 1 : Nat) : Int) by omega]
        have e2 : P ++ ([(bCom L[k].1 q, L[k].2.2.1)] ++ hvP q (L.drop (k + 1)) ++ (bMissAll q (L.map (fun r => r.1))).map noP) = (P ++ [(bCom L[k].1 q, L[k].2.2.1)]) ++ (hvP q (L.drop (k + 1)) ++ (bMissAll q (L.map (fun r => r.1))).map noP) := by
          rw [List.append_assoc, List.append_assoc]
        rw [hvO_t c, e2]
        exact k_prb35 hq hb hw hL n (k + 1) _ s (by omega) (cRs_mv hc (fun c j x => p2 c j (by omega) (by omega) (Or.inl (by omega)))) p1 (by rw [List.length_append]; show P.length + 1 ≤ _; omega)
      · rw [if_neg c, if_pos rfl]
        unfold g_c_probe_L106
        try dsimp +instances only
        rw [w32_id (x := (k : Int) + 1) (by omega) (by omega), show (k : Int) + 1 = ((k + 1 : Nat) : Int) by omega, hvO_f c, List.nil_append]
        exact k_prb35 hq hb hw hL n (k + 1) P σ (by omega) hc h (by omega)
theorem k_probeR {σ : zS} {L : List Rg} {a b c d : Int} (C : cRs σ 48 L) (hL : L.length ≤ 12) (hk : ∀ r ∈ L, hOk r) (hw : (L.map (fun r => r.1)).Pairwise (fun a b => ¬ bMt a b)) : zP' (g_c_probe a b c d σ) (fun v s => (bOk (a, b, c, d) → cPc s (prbP (a, b, c, d) L) ∧ v = ((prbP (a, b, c, d) L).length : Int)) ∧ (¬ bOk (a, b, c, d) → v = -2 ∧ s = σ)) := by
  unfold g_c_probe
  by_cases ok : bOk (a, b, c, d)
  · rw [p_isBox, if_pos ok, Option.bind_some]
    try dsimp +instances only
    have e := b_of (b := (a, b, c, d)) ok.s σ
    have e : g_b_of a b c d σ = some (enc (a, b, c, d), σ) := e
    rw [if_pos (by decide), e, Option.bind_some]
    try dsimp +instances only
    have z : ∀ x j, (x ≠ 131 ∨ j ≠ 1) → zu σ 131 1 0 x j = σ x j := fun x j k => zu_c k
    exact (k_prb35 (q := (a, b, c, d)) ok (fun r hr => (hk r hr).1) hw hL zK 0 [] _ (Nat.zero_le _) (cRs_mv C (fun x j k => z x j (Or.inl (by omega)))) ⟨⟨zu_e rfl, fun k hk => absurd hk (Nat.not_lt_zero _)⟩, fun k hk => absurd hk (Nat.not_lt_zero _)⟩ (Nat.le_refl 0)).imp (fun v s p => ⟨fun _ => p, fun h => absurd ok h⟩)
  · rw [p_isBox, if_neg ok, Option.bind_some]
    try dsimp +instances only
    rw [if_neg (by decide)]
    exact zP'.ret ⟨fun h => absurd h ok, fun _ => ⟨rfl, rfl⟩⟩
/-! the reference -/
def mPc (σ : zS) (P : List Pc) : Prop := σ 143 32 = (P.length : Int) ∧ ∀ (k : Nat) (hk : k < P.length), bxA σ 165 (5 * (k : Int)) = P[k].1 ∧ σ 165 (5 * (k : Int) + 4) = P[k].2
theorem mP_add {P : List Pc} {b : Bx} {n v : Int} {σ : zS} (h : mPc σ P) (hv : v = (P.length : Int) + 1) : mPc (zu (zu (zb σ 165 (5 * (P.length : Int)) b) 165 (5 * (P.length : Int) + 4) n) 143 32 v) (P ++ [(b, n)]) := by
  refine ⟨?_, fun k hk => ?_⟩
  · rw [zu_e rfl, hv, List.length_append]
    show (P.length : Int) + 1 = ((P.length + 1 : Nat) : Int)
    omega
  · rw [zu_bxa (by decide), zu_a (by decide), app_at hk]
    have hk' : k < P.length + 1 := by
      rw [List.length_append] at hk
      exact hk
    by_cases c : k < P.length
    · rw [dif_pos c, zu_bxi (by omega), zb_bxi (by omega), zu_i (by omega), zb_i (by omega)]
      exact h.2 k c
    · rw [dif_neg c, zu_bxi (by omega), zb_bx (by omega), zu_e (by omega)]
      exact ⟨rfl, rfl⟩
theorem t_prb145 {M : List Bx} (hM : M.length ≤ 169) : ∀ (n k : Nat) (P : List Pc) (σ : zS), k ≤ M.length → σ 143 10 = (M.length : Int) → lstA σ 150 M.length = M → mPc σ P → P.length + (M.length - k) ≤ 181 → zP' (g_m_probe_L145 n (k : Int) σ) (fun v s => mPc s (P ++ (M.drop k).map noP) ∧ v = ((P ++ (M.drop k).map noP).length : Int))
  | 0, _, _, _, _, _, _, _, _ => zP'.no
  | n + 1, k, P, σ, hk, h10, hb, h, hl => by
    have l150 : zLI 150 = 2400 := rfl
    have l165 : zLI 165 = 3000 := rfl
    unfold g_m_probe_L145
    try dsimp +instances only
    rw [h10]
    by_cases ck : k = M.length
    · rw [if_pos (by omega), List.drop_of_length_le (by omega), List.map_nil, List.append_nil]
      exact zP'.ret ⟨h, h.1⟩
    · have hk' : k < M.length := by omega
      have x : bxA σ 150 (4 * (k : Int)) = M[k] := by
        have g := lstA_get (σ := σ) (a := 150) hk'
        rw [hb, List.getElem?_eq_getElem hk'] at g
        exact (Option.some.inj g).symm
      have z1 : ∀ x j, (x ≠ 165) → zb σ 165 (5 * (P.length : Int)) M[k] x j = σ x j := fun x j k => zb_a k
      rw [if_neg (by omega), h.1, w32_id (x := 4 * (k : Int)) (by omega) (by omega), w32_id (x := 5 * (P.length : Int)) (by omega) (by omega), s_copies (by omega) (by omega) (by omega) (by omega) (by omega) (by omega), Option.bind_some, x]
      try dsimp +instances only
      rw [z1 143 32 (by decide), h.1, w32_id (x := 5 * (P.length : Int)) (by omega) (by omega), w32_id (x := 5 * (P.length : Int) + 4) (by omega) (by omega), if_pos (by omega), zu_a (by decide), z1 143 32 (by decide), h.1, w32_id (x := (P.length : Int) + 1) (by omega) (by omega), w32_id (x := (k : Int) + 1) (by omega) (by omega), show (k : Int) + 1 = ((k + 1 : Nat) : Int) by omega]
      have e : (M.drop k).map noP = (M[k], -5) :: (M.drop (k + 1)).map noP := by
        rw [List.drop_eq_getElem_cons hk', List.map_cons]
        rfl
      have e2 : P ++ (M.drop k).map noP = (P ++ [(M[k], -5)]) ++ (M.drop (k + 1)).map noP := by
        rw [e, List.append_assoc]
        rfl
      rw [e2]
      refine t_prb145 hM n (k + 1) _ _ (by omega) ?_ ?_ (mP_add h rfl) (by rw [List.length_append]; show P.length + 1 + _ ≤ 181; omega)
      · rw [zu_i (by decide), zu_a (by decide), z1 143 10 (by decide)]
        exact h10
      · refine (lstA_ext (fun i hi => ?_))
        have g := lstA_get (σ := σ) (a := 150) hi
        rw [hb, List.getElem?_eq_getElem hi] at g
        rw [zu_bxa (by decide), zu_bxa (by decide), zb_bxa (by decide)]
        exact (Option.some.inj g).symm
theorem t_prb39 {q : Bx} {L : List Rg} {M : List Bx} (hL : L.length ≤ 12) (hM : M.length ≤ 169) : ∀ (n k : Nat) (P : List Pc) (σ : zS), k ≤ L.length → mRs σ L → bxA σ 152 0 = q → σ 143 10 = (M.length : Int) → lstA σ 150 M.length = M → mPc σ P → P.length ≤ k → zP' (g_m_probe_L39 n (k : Int) σ) (fun v s => mPc s (P ++ (hvP q (L.drop k) ++ M.map noP)) ∧ v = ((P ++ (hvP q (L.drop k) ++ M.map noP)).length : Int))
  | 0, _, _, _, _, _, _, _, _, _, _ => zP'.no
  | n + 1, k, P, σ, hk, hr, hbx, h10, hb, h, hp => by
    have l144 : zLI 144 = 2740 := rfl
    have l152 : zLI 152 = 4 := rfl
    have l165 : zLI 165 = 3000 := rfl
    unfold g_m_probe_L39
    try dsimp +instances only
    rw [hr.1]
    by_cases ck : k = L.length
    · rw [if_pos (by omega), List.drop_of_length_le (by omega)]
      exact t_prb145 hM zK 0 P σ (Nat.zero_le _) h10 hb h (by omega)
    · have hk' : k < L.length := by omega
      have x := hr.2 k hk'
      have x1 : bxA σ 144 (340 + 10 * (k : Int)) = L[k].1 := congrArg (fun r : Rg => r.1) x
      have x3 : σ 144 (348 + 10 * (k : Int)) = L[k].2.2.1 := congrArg (fun r : Rg => r.2.2.1) x
      have e : hvP q (L.drop k) = hvO q L[k] ++ hvP q (L.drop (k + 1)) := by
        rw [List.drop_eq_getElem_cons hk']
        rfl
      rw [if_neg (by omega), s_region (by omega) (by omega), Option.bind_some]
      try dsimp +instances only
      rw [s_doMeet (by omega) (by omega) (by omega) (by omega) (by omega) (by omega), Option.bind_some, x1, hbx, e]
      try dsimp +instances only
      by_cases c : bMt L[k].1 q
      · have z1 : ∀ x j, (x ≠ 165) → zb σ 165 (5 * (P.length : Int)) (bCom L[k].1 q) x j = σ x j := fun x j k => zb_a k
        rw [if_pos c, if_pos (by decide), s_region (by omega) (by omega), Option.bind_some]
        try dsimp +instances only
        rw [h.1, w32_id (x := 5 * (P.length : Int)) (by omega) (by omega), s_commons (by omega) (by omega) (by omega) (by omega) (by omega) (by omega) (by omega) (by omega) (by omega), Option.bind_some, x1, hbx]
        try dsimp +instances only
        rw [z1 143 32 (by decide), h.1, s_region (by omega) (by omega), Option.bind_some]
        try dsimp +instances only
        rw [w32_id (x := 340 + 10 * (k : Int) + 8) (by omega) (by omega), if_pos (by omega), w32_id (x := 5 * (P.length : Int)) (by omega) (by omega), w32_id (x := 5 * (P.length : Int) + 4) (by omega) (by omega), if_pos (by omega), z1 144 _ (by decide), show 340 + 10 * (k : Int) + 8 = 348 + 10 * (k : Int) by omega, x3, zu_a (by decide), z1 143 32 (by decide), h.1, w32_id (x := (P.length : Int) + 1) (by omega) (by omega)]
        unfold g_m_probe_L136
        try dsimp +instances only
        rw [w32_id (x := (k : Int) + 1) (by omega) (by omega), show (k : Int) + 1 = ((k + 1 : Nat) : Int) by omega]
        have e2 : P ++ ([(bCom L[k].1 q, L[k].2.2.1)] ++ hvP q (L.drop (k + 1)) ++ M.map noP) = (P ++ [(bCom L[k].1 q, L[k].2.2.1)]) ++ (hvP q (L.drop (k + 1)) ++ M.map noP) := by
          rw [List.append_assoc, List.append_assoc]
        rw [hvO_t c, e2]
        have zz : ∀ x j, x ≠ 165 → (x ≠ 143 ∨ j ≠ 32) → zu (zu (zb σ 165 (5 * (P.length : Int)) (bCom L[k].1 q)) 165 (5 * (P.length : Int) + 4) L[k].2.2.1) 143 32 ((P.length : Int) + 1) x j = σ x j := fun x j k1 k2 => by rw [zu_c k2, zu_a k1, z1 x j k1]
        refine t_prb39 hL hM n (k + 1) _ _ (by omega) (hr.mv (fun j _ => zz 144 j (by decide) (Or.inl (by decide))) (fun j _ _ => zz 147 j (by decide) (Or.inl (by decide))) (by omega)) ?_ ((zz 143 10 (by decide) (Or.inr (by decide))).trans h10) ?_ (mP_add h rfl) (by rw [List.length_append]; show P.length + 1 ≤ _; omega)
        · rw [zu_bxa (by decide), zu_bxa (by decide), zb_bxa (by decide)]
          exact hbx
        · refine (lstA_ext (fun i hi => ?_))
          have g := lstA_get (σ := σ) (a := 150) hi
          rw [hb, List.getElem?_eq_getElem hi] at g
          rw [zu_bxa (by decide), zu_bxa (by decide), zb_bxa (by decide)]
          exact (Option.some.inj g).symm
      · rw [if_neg c, if_neg (by decide)]
        unfold g_m_probe_L136
        try dsimp +instances only
        rw [w32_id (x := (k : Int) + 1) (by omega) (by omega), show (k : Int) + 1 = ((k + 1 : Nat) : Int) by omega, hvO_f c, List.nil_append]
        exact t_prb39 hL hM n (k + 1) P σ (by omega) hr hbx h10 hb h (by omega)
theorem rbx_eq {σ : zS} {L : List Rg} (h : mRs σ L) : rbx σ L.length = L.map (fun r => r.1) := by
  refine List.ext_getElem (by rw [rbx_len, List.length_map]) (fun i h1 h2 => ?_)
  rw [rbx_len] at h1
  have e := rbx_get (σ := σ) (n := L.length) (k := i) h1
  rw [List.getElem?_eq_getElem (by rw [rbx_len]; exact h1)] at e
  rw [Option.some.inj e, List.getElem_map, ← h.2 i h1]
  rfl
theorem t_probeR {σ : zS} {L : List Rg} {a b c d : Int} (h : mRs σ L) (hR : RI σ L.length) (hL : L.length ≤ 12) : zP' (g_m_probe a b c d σ) (fun v s => (bOk (a, b, c, d) → mPc s (prbP (a, b, c, d) L) ∧ v = ((prbP (a, b, c, d) L).length : Int)) ∧ (¬ bOk (a, b, c, d) → v = -2 ∧ s = σ)) := by
  unfold g_m_probe
  by_cases ok : bOk (a, b, c, d)
  · rw [s_isBox_t ok, Option.bind_some]
    try dsimp +instances only
    have l152 : zLI 152 = 4 := rfl
    rw [if_pos (by decide), s_sets (by omega) (by omega) (by omega), Option.bind_some]
    try dsimp +instances only
    have h1 : mRs (zb σ 152 0 (a, b, c, d)) L := h.mv (fun j _ => zb_a (by decide)) (fun j _ _ => zb_a (by decide)) (by omega)
    have R1 : RI (zb σ 152 0 (a, b, c, d)) L.length := hR.mv (by omega) (fun j _ _ => zb_a (by decide))
    have hbx : bxA (zb σ 152 0 (a, b, c, d)) 152 0 = (a, b, c, d) := zb_bx rfl
    obtain ⟨r1, r2⟩ := RI_rbx R1
    obtain ⟨s1, m1, m2, m3, m4⟩ := s_misses (σ := zb σ 152 0 (a, b, c, d)) (q := (a, b, c, d)) (rs := rbx (zb σ 152 0 (a, b, c, d)) L.length) ok hbx r1 r2 (by rw [rbx_len]; exact hL) (by rw [rbx_len]; exact h1.1) (by rw [rbx_len])
    have h169 := bMissAll_169 ok r1 r2 (by rw [rbx_len]; exact hL)
    rw [rbx_eq h1] at m3 m4 h169
    rw [m1, Option.bind_some]
    try dsimp +instances only
    have z : ∀ x j, x ≠ 150 → x ≠ 151 → x ≠ 143 → zu s1 143 32 0 x j = zb σ 152 0 (a, b, c, d) x j := fun x j k1 k2 k3 => (zu_a k3).trans (m2 x j k1 k2 (Or.inl k3))
    refine (t_prb39 (q := (a, b, c, d)) hL h169 zK 0 [] _ (Nat.zero_le _) (h1.mv (fun j _ => z 144 j (by decide) (by decide) (by decide)) (fun j _ _ => z 147 j (by decide) (by decide) (by decide)) (by omega)) ?_ ((zu_i (by decide)).trans m3) ?_ ⟨zu_e rfl, fun k hk => absurd hk (Nat.not_lt_zero _)⟩ (Nat.le_refl 0)).imp (fun v s p => ⟨fun _ => p, fun h => absurd ok h⟩)
    · rw [zu_bxa (by decide), frM_bx m2 (by decide) (by decide) (by decide)]
      exact hbx
    · refine (lstA_ext (fun i hi => ?_))
      have g := lstA_get (σ := s1) (a := 150) hi
      rw [m4, List.getElem?_eq_getElem hi] at g
      rw [zu_bxa (by decide)]
      exact (Option.some.inj g).symm
  · rw [s_isBox_f ok, Option.bind_some]
    try dsimp +instances only
    rw [if_neg (by decide)]
    exact zP'.ret ⟨fun h => absurd h ok, fun _ => ⟨rfl, rfl⟩⟩
theorem qu_probe {K : Int} {a b c d : Int} {σ : zS} (I : InvR K σ) : two (g_c_probe a b c d σ) (g_m_probe a b c d) (fun v w s => InvR K s ∧ v = w) := by
  obtain ⟨v, s1, e1, w, s2, e2, J⟩ := qr_probe (a := a) (b := b) (c := c) (d := d) I
  refine ⟨v, s1, e1, w, s2, e2, J, ?_⟩
  obtain ⟨L, ct, C, M, hR, hk, A, B, hL⟩ := R_open I
  obtain ⟨H1, G1, -⟩ := zO.at (g_c_probe_sp I.1.ci) e1
  have ref := fr_ref G1
  have Mm := M.mv (s := s1) (by omega) (fun j _ _ => ref 144 j (by decide) (by decide)) (fun j _ _ => ref 147 j (by decide) (by decide))
  have Rm := hR.mv (s := s1) (by omega) (fun j _ _ => ref 144 j (by decide) (by decide))
  obtain ⟨p1, p2⟩ := k_probeR (a := a) (b := b) (c := c) (d := d) C.1 hL hk (pw_of M.1 hR) v s1 e1
  obtain ⟨r1, r2⟩ := t_probeR (a := a) (b := b) (c := c) (d := d) Mm.1 Rm hL w s2 e2
  by_cases ok : bOk (a, b, c, d)
  · rw [(p1 ok).2, (r1 ok).2]
  · rw [(p2 ok).1, (r2 ok).1]
end
section
/-! 8w.keep -/
/-! THE REGIONS' answers alike: keep -/
def kpV (rn : Bx → Int) (st : Int → Int) (x : Int) : Nat → List Rg → Int → Int → Int × Int
  | _, [], z, w => (z, w)
  | i, r :: T, z, w => if iAnd (iShr x (i : Int)) 1 ≠ 0 then kpV rn st x (i + 1) T (z + (1 + rn r.1)) (w64 (w + w64 (csP rn st r.1 * (1 + r.2.2.2.1)))) else kpV rn st x (i + 1) T z w
theorem kpV_t {rn : Bx → Int} {st : Int → Int} {x : Int} {i : Nat} {r : Rg} {T : List Rg} {z w : Int} (c : iAnd (iShr x (i : Int)) 1 ≠ 0) : kpV rn st x i (r :: T) z w = kpV rn st x (i + 1) T (z + (1 + rn r.1)) (w64 (w + w64 (csP rn st r.1 * (1 + r.2.2.2.1)))) := if_pos c
theorem kpV_f {rn : Bx → Int} {st : Int → Int} {x : Int} {i : Nat} {r : Rg} {T : List Rg} {z w : Int} (c : ¬ iAnd (iShr x (i : Int)) 1 ≠ 0) : kpV rn st x i (r :: T) z w = kpV rn st x (i + 1) T z w := if_neg c
theorem kpV_le {rn : Bx → Int} {st : Int → Int} {x : Int} (h : ∀ b, 0 ≤ rn b) : ∀ (T : List Rg) (i : Nat) (z w : Int), z ≤ (kpV rn st x i T z w).1
  | [], _, z, _ => Int.le_refl z
  | r :: T, i, z, w => by
    by_cases c : iAnd (iShr x (i : Int)) 1 ≠ 0
    · rw [kpV_t c]
      have := kpV_le (x := x) (st := st) h T (i + 1) (z + (1 + rn r.1)) (w64 (w + w64 (csP rn st r.1 * (1 + r.2.2.2.1))))
      have := h r.1
      omega
    · rw [kpV_f c]
      exact kpV_le h T (i + 1) z w
def decP (a f m x : Int) (p : Int × Int) : Int × Int := if a < p.1 then (f, m) else if m < p.2 then (x, p.2) else (f, m)
def bsF (rn : Bx → Int) (st : Int → Int) (L : List Rg) (a : Int) : Nat → Int → Int → Int → Int
  | 0, f, _, _ => f
  | m + 1, f, y, x => bsF rn st L a m (decP a f y x (kpV rn st x 0 L 0 0)).1 (decP a f y x (kpV rn st x 0 L 0 0)).2 (x + 1)
theorem k_bs122 {σ : zS} {g7 : Int → Int → Int → Int → zS → Option (Int × zS)} {Q : Int → zS → Prop} {a f m x z w : Int} {D : Int × Int} (hx : 0 ≤ x ∧ x ≤ 4096) (h7 : zP' (g7 a D.1 D.2 (x + 1) σ) Q) (hD : D = decP a f m x (z, w)) : zP' (g_ca_bestSet_L122 48 g7 a f m x z w σ) Q := by
  have hw : w32 (x + 1) = x + 1 := w32_id (by omega) (by omega)
  unfold g_ca_bestSet_L122 g_ca_bestSet_L141
  rw [hw]
  unfold decP at hD
  try dsimp only at hD
  by_cases c : a < z
  · rw [if_pos c] at hD
    rw [if_pos c]
    rw [hD] at h7
    exact h7
  · rw [if_neg c] at hD
    rw [if_neg c]
    by_cases d : m < w
    · rw [if_pos d] at hD
      rw [if_neg (fun h => (lCmp_gt.mp h) d)]
      rw [hD] at h7
      exact h7
    · rw [if_neg d] at hD
      rw [if_pos (lCmp_gt.mpr d)]
      rw [hD] at h7
      exact h7
theorem k_bs32 {σ : zS} {I : Nat → Bool} {rn : Bx → Int} {st : Int → Int} {L : List Rg} {ct : Int → Int} (C : cSt σ 48 I rn st L ct) (hL : L.length ≤ 12) (hk : ∀ r ∈ L, hOk r) (g : gL L) {g7 : Int → Int → Int → Int → zS → Option (Int × zS)} {Q : Int → zS → Prop} {a f m x : Int} {D : Int × Int} (hx : 0 ≤ x ∧ x ≤ 4096) (h7 : zP' (g7 a D.1 D.2 (x + 1) σ) Q) : ∀ (n k : Nat) (z w : Int), k ≤ L.length → 0 ≤ z → z ≤ 61 * (k : Int) → D = decP a f m x (kpV rn st x k (L.drop k) z w) → zP' (g_ca_bestSet_L32 48 g7 n a f m x z w (k : Int) σ) Q
  | 0, _, _, _, _, _, _, _ => zP'.no
  | n + 1, k, z, w, hkl, z0, z1, hD => by
    have hrn : ∀ b, 0 ≤ rn b ∧ rn b ≤ 60 := fun b => by
      rw [← C.2.2.2.2.2 b]
      exact rnC_bd
    unfold g_ca_bestSet_L32
    try dsimp +instances only
    rw [C.1.1]
    by_cases ck : k = L.length
    · rw [if_pos (by omega)]
      rw [List.drop_of_length_le (by omega)] at hD
      exact k_bs122 hx h7 hD
    · have hk' : k < L.length := by omega
      rw [if_neg (by omega)]
      by_cases cz : a < z
      · rw [if_pos cz]
        refine k_bs122 hx h7 (hD.trans ?_)
        have := kpV_le (rn := rn) (st := st) (x := x) (fun b => (hrn b).1) (L.drop k) k z w
        unfold decP
        rw [if_pos (by omega), if_pos cz]
      · rw [if_neg cz]
        rw [List.drop_eq_getElem_cons hk'] at hD
        have xx : σ (48 + 4) (k : Int) = enc L[k].1 := (C.1.2 k hk').1
        have xh : σ (48 + 5) (k : Int) = L[k].2.2.2.1 := (C.1.2 k hk').2.2.2.1
        have ok := (hk _ (List.getElem_mem hk')).1
        have gg := (g _ (List.getElem_mem hk')).2
        have k181 : 0 ≤ (k : Int) ∧ (k : Int) < 181 := by omega
        by_cases cb : iAnd (iShr x (k : Int)) 1 ≠ 0
        · rw [kpV_t cb] at hD
          obtain ⟨v, e1, e2⟩ := p_rc (σ := σ) C.2.2.2.1 C.2.2.2.2.1 ok
          have e0 : σ (48 + 1 + 1) 0 = st 0 := C.2.2.1 0 (by decide) (by decide)
          have hb := hrn L[k].1
          rw [if_pos cb, if_pos k181, xx, e1, Option.bind_some]
          try dsimp +instances only
          rw [e2, Option.bind_some, C.2.2.2.2.2]
          try dsimp +instances only
          rw [p_seOf (by decide), Option.bind_some]
          try dsimp +instances only
          rw [if_pos k181]
          unfold g_ca_bestSet_L116
          rw [xh, e0, w32_id (x := (k : Int) + 1) (by omega) (by omega), w32_id (x := 1 + rn L[k].1) (by omega) (by omega), w32_id (x := z + (1 + rn L[k].1)) (by omega) (by omega), w64_id (x := 1 + L[k].2.2.2.1) (by omega) (by omega), show (k : Int) + 1 = ((k + 1 : Nat) : Int) by omega]
          exact k_bs32 C hL hk g hx h7 n (k + 1) _ _ (by omega) (by omega) (by omega) hD
        · rw [kpV_f cb] at hD
          rw [if_neg cb]
          unfold g_ca_bestSet_L116
          rw [w32_id (x := (k : Int) + 1) (by omega) (by omega), show (k : Int) + 1 = ((k + 1 : Nat) : Int) by omega]
          exact k_bs32 C hL hk g hx h7 n (k + 1) _ _ (by omega) z0 (by omega) hD
theorem sh_1 {N : Nat} (h : N ≤ 12) : iShl 1 (N : Int) = ((2 ^ N : Nat) : Int) ∧ 2 ^ N ≤ 4096 := by
  have h2 : 2 ^ N ≤ 2 ^ 12 := Nat.pow_le_pow_right (by decide) h
  have h2 : 2 ^ N ≤ 4096 := h2
  have e : iShl ((1 : Nat) : Int) (N : Int) = ((1 * 2 ^ N : Nat) : Int) := iShl_n (by omega) (by omega)
  rw [Nat.one_mul] at e
  exact ⟨e, h2⟩
theorem k_bs7 {σ : zS} {I : Nat → Bool} {rn : Bx → Int} {st : Int → Int} {L : List Rg} {ct : Int → Int} (C : cSt σ 48 I rn st L ct) (hL : L.length ≤ 12) (hk : ∀ r ∈ L, hOk r) (g : gL L) {a : Int} : ∀ (n m : Nat) (f y x : Int), 0 ≤ x → x + (m : Int) = ((2 ^ L.length : Nat) : Int) → zP' (g_ca_bestSet_L7 48 n a f y x σ) (fun v s => s = σ ∧ v = bsF rn st L a m f y x)
  | 0, _, _, _, _, _, _ => zP'.no
  | n + 1, m, f, y, x, x0, hm => by
    obtain ⟨e1, e2⟩ := sh_1 hL
    have ez : zmn (L.length : Int) 12 = (L.length : Int) := by
      unfold zmn
      split
      · rfl
      · omega
    unfold g_ca_bestSet_L7
    try dsimp +instances only
    rw [C.1.1, p_min, ez, Option.bind_some]
    try dsimp +instances only
    rw [e1]
    cases m with
    | zero =>
      rw [if_pos (by omega)]
      exact zP'.ret ⟨rfl, rfl⟩
    | succ m =>
      rw [if_neg (by omega)]
      exact k_bs32 C hL hk g (by omega) (k_bs7 C hL hk g n m _ _ (x + 1) (by omega) (by omega)) zK 0 0 0 (Nat.zero_le _) (Int.le_refl 0) (by decide) rfl
def kpA (rn : Bx → Int) (st : Int → Int) (L : List Rg) (a : Int) : Int := if 0 ≤ a then bsF rn st L a (2 ^ L.length - 1) 0 0 1 else -2
theorem k_keepR {σ : zS} {I : Nat → Bool} {rn : Bx → Int} {st : Int → Int} {L : List Rg} {ct : Int → Int} {a : Int} (C : cSt σ 48 I rn st L ct) (hL : L.length ≤ 12) (hk : ∀ r ∈ L, hOk r) (g : gL L) : zP' (g_c_keep a σ) (fun v s => s = σ ∧ v = kpA rn st L a) := by
  unfold g_c_keep g_ca_bestSet kpA
  have h1 : 1 ≤ 2 ^ L.length := Nat.one_le_two_pow
  by_cases c : 0 ≤ a
  · rw [if_pos c, if_pos c]
    refine zP'.bind (k_bs7 C hL hk g zK (2 ^ L.length - 1) 0 0 1 (by decide) (by omega)) (fun v s p => ?_)
    obtain ⟨rfl, rfl⟩ := p
    exact zP'.ret ⟨rfl, rfl⟩
  · rw [if_neg c, if_neg c]
    exact zP'.ret ⟨rfl, rfl⟩
/-! the reference -/
theorem t_kp36 {σ : zS} {rn : Bx → Int} {st : Int → Int} {L : List Rg} {ct : Int → Int} (M : mSt σ rn st L ct) (hrn : ∀ b, 0 ≤ rn b ∧ rn b ≤ 60) (hL : L.length ≤ 12) (g : gL L) {g14 : Int → Int → Int → Int → zS → Option (Int × zS)} {Q : Int → zS → Prop} {a f m x : Int} {D : Int × Int} (hx : 0 ≤ x ∧ x ≤ 4096) (h7 : zP' (g14 a D.1 D.2 (x + 1) σ) Q) : ∀ (n k : Nat) (z w : Int), k ≤ L.length → 0 ≤ z → z ≤ 61 * (k : Int) → D = decP a f m x (kpV rn st x k (L.drop k) z w) → zP' (g_m_keep_L36 g14 n a f m x z w (k : Int) σ) Q
  | 0, _, _, _, _, _, _, _ => zP'.no
  | n + 1, k, z, w, hkl, z0, z1, hD => by
    have l144 : zLI 144 = 2740 := rfl
    have hw : w32 (x + 1) = x + 1 := w32_id (by omega) (by omega)
    unfold g_m_keep_L36
    try dsimp +instances only
    rw [M.1.1]
    by_cases ck : k = L.length
    · rw [if_pos (by omega)]
      rw [List.drop_of_length_le (by omega)] at hD
      unfold g_m_keep_L135
      rw [hw]
      have hD : D = decP a f m x (z, w) := hD
      unfold decP at hD
      try dsimp only at hD
      by_cases c : a < z
      · rw [if_pos c] at hD
        rw [if_pos c]
        rw [hD] at h7
        exact h7
      · rw [if_neg c] at hD
        rw [if_neg c]
        by_cases d : m < w
        · rw [if_pos d] at hD
          rw [if_pos (lCmp_gt0.mpr d)]
          rw [hD] at h7
          exact h7
        · rw [if_neg d] at hD
          rw [if_neg (fun h => d (lCmp_gt0.mp h))]
          rw [hD] at h7
          exact h7
    · have hk' : k < L.length := by omega
      rw [if_neg (by omega)]
      rw [List.drop_eq_getElem_cons hk'] at hD
      have xx := M.1.2 k hk'
      have x1 : bxA σ 144 (340 + 10 * (k : Int)) = L[k].1 := congrArg (fun r : Rg => r.1) xx
      have xh : σ 144 (349 + 10 * (k : Int)) = L[k].2.2.2.1 := congrArg (fun r : Rg => r.2.2.2.1) xx
      have gg := (g _ (List.getElem_mem hk')).2
      by_cases cb : iAnd (iShr x (k : Int)) 1 ≠ 0
      · rw [kpV_t cb] at hD
        have hb := hrn L[k].1
        rw [if_pos cb, s_size (by omega) (by omega), Option.bind_some]
        try dsimp +instances only
        rw [s_region (by omega) (by omega), Option.bind_some]
        try dsimp +instances only
        rw [s_cost (by omega) (by omega) (by omega), Option.bind_some]
        try dsimp +instances only
        rw [s_region (by omega) (by omega), Option.bind_some]
        try dsimp +instances only
        rw [w32_id (x := 340 + 10 * (k : Int) + 9) (by omega) (by omega), if_pos (by omega), show 340 + 10 * (k : Int) + 9 = 349 + 10 * (k : Int) by omega, x1, t_cost M.2.2, M.2.2.2, xh]
        unfold g_m_keep_L107
        rw [w32_id (x := (k : Int) + 1) (by omega) (by omega), w32_id (x := z + (1 + rn L[k].1)) (by omega) (by omega), w32_id (x := 1 + L[k].2.2.2.1) (by omega) (by omega), show (k : Int) + 1 = ((k + 1 : Nat) : Int) by omega]
        exact t_kp36 M hrn hL g hx h7 n (k + 1) _ _ (by omega) (by omega) (by omega) hD
      · rw [kpV_f cb] at hD
        rw [if_neg cb]
        unfold g_m_keep_L107
        rw [w32_id (x := (k : Int) + 1) (by omega) (by omega), show (k : Int) + 1 = ((k + 1 : Nat) : Int) by omega]
        exact t_kp36 M hrn hL g hx h7 n (k + 1) _ _ (by omega) z0 (by omega) hD
theorem t_kp14 {σ : zS} {rn : Bx → Int} {st : Int → Int} {L : List Rg} {ct : Int → Int} (M : mSt σ rn st L ct) (hrn : ∀ b, 0 ≤ rn b ∧ rn b ≤ 60) (hL : L.length ≤ 12) (g : gL L) {a : Int} : ∀ (n m : Nat) (f y x : Int), 0 ≤ x → x + (m : Int) = ((2 ^ L.length : Nat) : Int) → zP' (g_m_keep_L14 n a f y x σ) (fun v s => s = σ ∧ v = bsF rn st L a m f y x)
  | 0, _, _, _, _, _, _ => zP'.no
  | n + 1, m, f, y, x, x0, hm => by
    obtain ⟨e1, e2⟩ := sh_1 hL
    unfold g_m_keep_L14
    try dsimp +instances only
    rw [M.1.1, e1]
    cases m with
    | zero =>
      rw [if_pos (by omega)]
      exact zP'.ret ⟨rfl, rfl⟩
    | succ m =>
      rw [if_neg (by omega)]
      exact t_kp36 M hrn hL g (by omega) (t_kp14 M hrn hL g n m _ _ (x + 1) (by omega) (by omega)) zK 0 0 0 (Nat.zero_le _) (Int.le_refl 0) (by decide) rfl
theorem t_keepR {σ : zS} {rn : Bx → Int} {st : Int → Int} {L : List Rg} {ct : Int → Int} {a : Int} (M : mSt σ rn st L ct) (hrn : ∀ b, 0 ≤ rn b ∧ rn b ≤ 60) (hL : L.length ≤ 12) (g : gL L) : zP' (g_m_keep a σ) (fun v s => s = σ ∧ v = kpA rn st L a) := by
  unfold g_m_keep kpA
  have h1 : 1 ≤ 2 ^ L.length := Nat.one_le_two_pow
  by_cases c : 0 ≤ a
  · rw [if_pos c, if_pos c]
    exact t_kp14 M hrn hL g zK (2 ^ L.length - 1) 0 0 1 (by decide) (by omega)
  · rw [if_neg c, if_neg c]
    exact zP'.ret ⟨rfl, rfl⟩
theorem qu_keep {K : Int} {a : Int} {σ : zS} (I : InvR K σ) : two (g_c_keep a σ) (g_m_keep a) (fun v w s => InvR K s ∧ v = w) := by
  obtain ⟨v, s1, e1, w, s2, e2, J⟩ := qr_keep (a := a) I
  refine ⟨v, s1, e1, w, s2, e2, J, ?_⟩
  obtain ⟨L, ct, C, M, hR, hk, A, B, hL⟩ := R_open I
  have hrn : ∀ b, 0 ≤ rowsN σ b ∧ rowsN σ b ≤ 60 := fun b => by
    rw [← C.2.2.2.2.2 b]
    exact rnC_bd
  obtain ⟨x1, h1⟩ := k_keepR (a := a) C hL hk (R_g I M.1) v s1 e1
  rw [x1] at e2
  obtain ⟨-, h2⟩ := t_keepR (a := a) M hrn hL (R_g I M.1) w s2 e2
  rw [h1, h2]
end
section
/-! 90.main -/
/-! THE LAW: its loop keeps what stands between the calls (printed by wip/zw.py) -/
set_option maxHeartbeats 4000000 in
theorem z_loop {xl : Nat} {xs : Nat → Int32} (hxl : xl ≤ 3072) (hx : ∀ X : Int32, -2147483648 ≤ X.toInt ∧ X.toInt < 2147483648) : ∀ (n : Nat) (x3 : Int) (σ : zS), InvR (400 * x3) σ → 0 ≤ x3 → x3 ≤ (xl : Int) → (xl : Int) - x3 < (n : Int) → zO (g_jRangeAnswersLaw_law_L18 xl xs n x3 σ) (fun v _ => v = 1)
  | 0, _, _, _, _, _, _ => by exfalso; omega
  | n + 1, x3, σ, I, h1, h2, h3 => by
    unfold g_jRangeAnswersLaw_law_L18
    have w0 := w32_id (x := (xl : Int) - 6) (by omega) (by omega)
    refine zO.ite (fun _ => zO.ret rfl) (fun c0 => ?_)
    try dsimp +instances only
    refine zO.gd (by omega) ?_
    try dsimp +instances only
    have g1 : 0 ≤ w32 (x3 + 1) ∧ w32 (x3 + 1) < (xl : Int) := by rw [w32_id (x := x3 + 1) (by omega) (by omega)]; omega
    have g2 : 0 ≤ w32 (x3 + 2) ∧ w32 (x3 + 2) < (xl : Int) := by rw [w32_id (x := x3 + 2) (by omega) (by omega)]; omega
    have g3 : 0 ≤ w32 (x3 + 3) ∧ w32 (x3 + 3) < (xl : Int) := by rw [w32_id (x := x3 + 3) (by omega) (by omega)]; omega
    have g4 : 0 ≤ w32 (x3 + 4) ∧ w32 (x3 + 4) < (xl : Int) := by rw [w32_id (x := x3 + 4) (by omega) (by omega)]; omega
    have g5 : 0 ≤ w32 (x3 + 5) ∧ w32 (x3 + 5) < (xl : Int) := by rw [w32_id (x := x3 + 5) (by omega) (by omega)]; omega
    have w6 := w32_id (x := x3 + 6) (by omega) (by omega)
    have k1 : 0 ≤ x3 + 6 := by omega
    have k2 : x3 + 6 ≤ (xl : Int) := by omega
    have k3 : (xl : Int) - (x3 + 6) < (n : Int) := by omega
    have kK : 400 * x3 ≤ 2000000 := by omega
    clear w0 c0 h1 h2 h3
    refine zO.ite (fun c => ?_) (fun c => ?_)
    · clear c
      try dsimp +instances only
      refine zO.gd g1 ?_
      try dsimp +instances only
      refine zO.gd g2 ?_
      try dsimp +instances only
      refine zO.gd g3 ?_
      try dsimp +instances only
      refine zO.gd g4 ?_
      try dsimp +instances only
      refine zO.gd g5 ?_
      try dsimp +instances only
      refine zO.bind (qr_put kK (lOr_ok _ _) I) (fun v s1 p => ?_)
      try dsimp +instances only
      refine zO.gd g1 ?_
      try dsimp +instances only
      refine zO.gd g2 ?_
      try dsimp +instances only
      refine zO.gd g3 ?_
      try dsimp +instances only
      refine zO.gd g4 ?_
      try dsimp +instances only
      refine zO.gd g5 ?_
      try dsimp +instances only
      refine zO.bind p (fun w s2 q => ?_)
      try dsimp +instances only
      unfold g_jRangeAnswersLaw_law_L1367
      rw [w6]
      exact z_loop hxl hx n (x3 + 6) s2 (InvR.mono q.1 (by omega)) k1 k2 k3
    · clear c
      try dsimp +instances only
      refine zO.ite (fun c => ?_) (fun c => ?_)
      · clear c
        try dsimp +instances only
        refine zO.gd g1 ?_
        try dsimp +instances only
        refine zO.bind (qr_take kK I) (fun v s1 p => ?_)
        try dsimp +instances only
        refine zO.gd g1 ?_
        try dsimp +instances only
        refine zO.bind p (fun w s2 q => ?_)
        try dsimp +instances only
        unfold g_jRangeAnswersLaw_law_L1367
        rw [w6]
        exact z_loop hxl hx n (x3 + 6) s2 (InvR.mono q.1 (by omega)) k1 k2 k3
      · clear c
        try dsimp +instances only
        refine zO.ite (fun c => ?_) (fun c => ?_)
        · clear c
          try dsimp +instances only
          refine zO.gd g1 ?_
          try dsimp +instances only
          refine zO.gd g2 ?_
          try dsimp +instances only
          refine zO.bind (qr_row I) (fun v s1 p => ?_)
          try dsimp +instances only
          refine zO.gd g1 ?_
          try dsimp +instances only
          refine zO.gd g2 ?_
          try dsimp +instances only
          refine zO.bind p (fun w s2 q => ?_)
          try dsimp +instances only
          unfold g_jRangeAnswersLaw_law_L1367
          rw [w6]
          exact z_loop hxl hx n (x3 + 6) s2 (InvR.mono q.1 (by omega)) k1 k2 k3
        · clear c
          try dsimp +instances only
          refine zO.ite (fun c => ?_) (fun c => ?_)
          · clear c
            try dsimp +instances only
            refine zO.gd g1 ?_
            try dsimp +instances only
            refine zO.bind (qr_worth I) (fun v s1 p => ?_)
            try dsimp +instances only
            refine zO.gd g1 ?_
            try dsimp +instances only
            refine zO.bind p (fun w s2 q => ?_)
            try dsimp +instances only
            unfold g_jRangeAnswersLaw_law_L1367
            rw [w6]
            exact z_loop hxl hx n (x3 + 6) s2 (InvR.mono q.1 (by omega)) k1 k2 k3
          · clear c
            try dsimp +instances only
            refine zO.ite (fun c => ?_) (fun c => ?_)
            · clear c
              try dsimp +instances only
              refine zO.gd g1 ?_
              try dsimp +instances only
              refine zO.bind (qr_feed I) (fun v s1 p => ?_)
              try dsimp +instances only
              refine zO.gd g1 ?_
              try dsimp +instances only
              refine zO.bind p (fun w s2 q => ?_)
              try dsimp +instances only
              unfold g_jRangeAnswersLaw_law_L1367
              rw [w6]
              exact z_loop hxl hx n (x3 + 6) s2 (InvR.mono q.1 (by omega)) k1 k2 k3
            · clear c
              try dsimp +instances only
              refine zO.ite (fun c => ?_) (fun c => ?_)
              · clear c
                try dsimp +instances only
                refine zO.bind (qr_clear I) (fun v s1 p => ?_)
                try dsimp +instances only
                refine zO.bind p (fun w s2 q => ?_)
                try dsimp +instances only
                unfold g_jRangeAnswersLaw_law_L1367
                rw [w6]
                exact z_loop hxl hx n (x3 + 6) s2 (InvR.mono q.1 (by omega)) k1 k2 k3
              · clear c
                try dsimp +instances only
                refine zO.ite (fun c => ?_) (fun c => ?_)
                · clear c
                  try dsimp +instances only
                  refine zO.bind (qr_settings I) (fun v s1 p => ?_)
                  try dsimp +instances only
                  refine zO.bind p (fun w s2 q => ?_)
                  try dsimp +instances only
                  unfold g_jRangeAnswersLaw_law_L1367
                  rw [w6]
                  exact z_loop hxl hx n (x3 + 6) s2 (InvR.mono q.1 (by omega)) k1 k2 k3
                · clear c
                  try dsimp +instances only
                  refine zO.ite (fun c => ?_) (fun c => ?_)
                  · clear c
                    try dsimp +instances only
                    refine zO.gd g1 ?_
                    try dsimp +instances only
                    refine zO.bind (qr_setting I) (fun v s1 p => ?_)
                    try dsimp +instances only
                    refine zO.gd g1 ?_
                    try dsimp +instances only
                    refine zO.bind p (fun w s2 q => ?_)
                    try dsimp +instances only
                    unfold g_jRangeAnswersLaw_law_L1367
                    rw [w6]
                    exact z_loop hxl hx n (x3 + 6) s2 (InvR.mono q.1 (by omega)) k1 k2 k3
                  · clear c
                    try dsimp +instances only
                    refine zO.ite (fun c => ?_) (fun c => ?_)
                    · clear c
                      try dsimp +instances only
                      refine zO.bind (qr_run kK I) (fun v s1 p => ?_)
                      try dsimp +instances only
                      refine zO.bind p (fun w s2 q => ?_)
                      try dsimp +instances only
                      unfold g_jRangeAnswersLaw_law_L1367
                      rw [w6]
                      exact z_loop hxl hx n (x3 + 6) s2 (InvR.mono q.1 (by omega)) k1 k2 k3
                    · clear c
                      try dsimp +instances only
                      refine zO.ite (fun c => ?_) (fun c => ?_)
                      · clear c
                        try dsimp +instances only
                        refine zO.gd g1 ?_
                        try dsimp +instances only
                        refine zO.bind (qr_answer I) (fun v s1 p => ?_)
                        try dsimp +instances only
                        refine zO.gd g1 ?_
                        try dsimp +instances only
                        refine zO.bind p (fun w s2 q => ?_)
                        try dsimp +instances only
                        unfold g_jRangeAnswersLaw_law_L1367
                        rw [w6]
                        exact z_loop hxl hx n (x3 + 6) s2 (InvR.mono q (by omega)) k1 k2 k3
                      · clear c
                        try dsimp +instances only
                        refine zO.ite (fun c => ?_) (fun c => ?_)
                        · clear c
                          try dsimp +instances only
                          refine zO.bind (qr_spell I) (fun v s1 p => ?_)
                          try dsimp +instances only
                          refine zO.bind p (fun w s2 q => ?_)
                          try dsimp +instances only
                          unfold g_jRangeAnswersLaw_law_L1367
                          rw [w6]
                          exact z_loop hxl hx n (x3 + 6) s2 (InvR.mono q (by omega)) k1 k2 k3
                        · clear c
                          try dsimp +instances only
                          refine zO.ite (fun c => ?_) (fun c => ?_)
                          · clear c
                            try dsimp +instances only
                            refine zO.bind (qr_load kK I) (fun v s1 p => ?_)
                            try dsimp +instances only
                            refine zO.bind p (fun w s2 q => ?_)
                            try dsimp +instances only
                            unfold g_jRangeAnswersLaw_law_L1367
                            rw [w6]
                            exact z_loop hxl hx n (x3 + 6) s2 (InvR.mono q.1 (by omega)) k1 k2 k3
                          · clear c
                            try dsimp +instances only
                            refine zO.ite (fun c => ?_) (fun c => ?_)
                            · clear c
                              try dsimp +instances only
                              refine zO.gd g1 ?_
                              try dsimp +instances only
                              refine zO.gd g2 ?_
                              try dsimp +instances only
                              refine zO.gd g3 ?_
                              try dsimp +instances only
                              refine zO.gd g4 ?_
                              try dsimp +instances only
                              refine zO.bind (qr_explain I) (fun v s1 p => ?_)
                              try dsimp +instances only
                              refine zO.gd g1 ?_
                              try dsimp +instances only
                              refine zO.gd g2 ?_
                              try dsimp +instances only
                              refine zO.gd g3 ?_
                              try dsimp +instances only
                              refine zO.gd g4 ?_
                              try dsimp +instances only
                              refine zO.bind p (fun w s2 q => ?_)
                              try dsimp +instances only
                              unfold g_jRangeAnswersLaw_law_L1367
                              rw [w6]
                              exact z_loop hxl hx n (x3 + 6) s2 (InvR.mono q (by omega)) k1 k2 k3
                            · clear c
                              try dsimp +instances only
                              refine zO.ite (fun c => ?_) (fun c => ?_)
                              · clear c
                                try dsimp +instances only
                                refine zO.gd g1 ?_
                                try dsimp +instances only
                                refine zO.bind (qr_paper I) (fun v s1 p => ?_)
                                try dsimp +instances only
                                refine zO.gd g1 ?_
                                try dsimp +instances only
                                refine zO.bind p (fun w s2 q => ?_)
                                try dsimp +instances only
                                unfold g_jRangeAnswersLaw_law_L1367
                                rw [w6]
                                exact z_loop hxl hx n (x3 + 6) s2 (InvR.mono q (by omega)) k1 k2 k3
                              · clear c
                                try dsimp +instances only
                                refine zO.ite (fun c => ?_) (fun c => ?_)
                                · clear c
                                  try dsimp +instances only
                                  refine zO.gd g1 ?_
                                  try dsimp +instances only
                                  refine zO.gd g2 ?_
                                  try dsimp +instances only
                                  refine zO.gd g3 ?_
                                  try dsimp +instances only
                                  refine zO.gd g4 ?_
                                  try dsimp +instances only
                                  refine zO.gd g5 ?_
                                  try dsimp +instances only
                                  refine zO.bind (qr_query kK I) (fun v s1 p => ?_)
                                  try dsimp +instances only
                                  refine zO.gd g1 ?_
                                  try dsimp +instances only
                                  refine zO.gd g2 ?_
                                  try dsimp +instances only
                                  refine zO.gd g3 ?_
                                  try dsimp +instances only
                                  refine zO.gd g4 ?_
                                  try dsimp +instances only
                                  refine zO.gd g5 ?_
                                  try dsimp +instances only
                                  refine zO.bind p (fun w s2 q => ?_)
                                  try dsimp +instances only
                                  unfold g_jRangeAnswersLaw_law_L1367
                                  rw [w6]
                                  exact z_loop hxl hx n (x3 + 6) s2 (InvR.mono q.1 (by omega)) k1 k2 k3
                                · clear c
                                  try dsimp +instances only
                                  refine zO.ite (fun c => ?_) (fun c => ?_)
                                  · clear c
                                    try dsimp +instances only
                                    refine zO.gd g1 ?_
                                    try dsimp +instances only
                                    refine zO.bind (qr_find I) (fun v s1 p => ?_)
                                    try dsimp +instances only
                                    refine zO.gd g1 ?_
                                    try dsimp +instances only
                                    refine zO.bind p (fun w s2 q => ?_)
                                    try dsimp +instances only
                                    unfold g_jRangeAnswersLaw_law_L1367
                                    rw [w6]
                                    exact z_loop hxl hx n (x3 + 6) s2 (InvR.mono q (by omega)) k1 k2 k3
                                  · clear c
                                    try dsimp +instances only
                                    refine zO.ite (fun c => ?_) (fun c => ?_)
                                    · clear c
                                      try dsimp +instances only
                                      refine zO.gd g1 ?_
                                      try dsimp +instances only
                                      refine zO.gd g2 ?_
                                      try dsimp +instances only
                                      refine zO.gd g3 ?_
                                      try dsimp +instances only
                                      refine zO.gd g4 ?_
                                      try dsimp +instances only
                                      refine zO.bind (qu_probe I) (fun v s1 p => ?_)
                                      try dsimp +instances only
                                      refine zO.gd g1 ?_
                                      try dsimp +instances only
                                      refine zO.gd g2 ?_
                                      try dsimp +instances only
                                      refine zO.gd g3 ?_
                                      try dsimp +instances only
                                      refine zO.gd g4 ?_
                                      try dsimp +instances only
                                      refine zO.bind p (fun w s2 q => ?_)
                                      try dsimp +instances only
                                      unfold g_jRangeAnswersLaw_law_L1367
                                      rw [w6]
                                      exact z_loop hxl hx n (x3 + 6) s2 (InvR.mono q.1 (by omega)) k1 k2 k3
                                    · clear c
                                      try dsimp +instances only
                                      refine zO.ite (fun c => ?_) (fun c => ?_)
                                      · clear c
                                        try dsimp +instances only
                                        refine zO.gd g1 ?_
                                        try dsimp +instances only
                                        refine zO.gd g2 ?_
                                        try dsimp +instances only
                                        refine zO.bind (qr_piece I) (fun v s1 p => ?_)
                                        try dsimp +instances only
                                        refine zO.gd g1 ?_
                                        try dsimp +instances only
                                        refine zO.gd g2 ?_
                                        try dsimp +instances only
                                        refine zO.bind p (fun w s2 q => ?_)
                                        try dsimp +instances only
                                        unfold g_jRangeAnswersLaw_law_L1367
                                        rw [w6]
                                        exact z_loop hxl hx n (x3 + 6) s2 (InvR.mono q (by omega)) k1 k2 k3
                                      · clear c
                                        try dsimp +instances only
                                        refine zO.ite (fun c => ?_) (fun c => ?_)
                                        · clear c
                                          try dsimp +instances only
                                          refine zO.gd g1 ?_
                                          try dsimp +instances only
                                          refine zO.gd g2 ?_
                                          try dsimp +instances only
                                          refine zO.bind (qu_region I) (fun v s1 p => ?_)
                                          try dsimp +instances only
                                          refine zO.gd g1 ?_
                                          try dsimp +instances only
                                          refine zO.gd g2 ?_
                                          try dsimp +instances only
                                          refine zO.bind p (fun w s2 q => ?_)
                                          try dsimp +instances only
                                          unfold g_jRangeAnswersLaw_law_L1367
                                          rw [w6]
                                          exact z_loop hxl hx n (x3 + 6) s2 (InvR.mono q.1 (by omega)) k1 k2 k3
                                        · clear c
                                          try dsimp +instances only
                                          refine zO.ite (fun c => ?_) (fun c => ?_)
                                          · clear c
                                            try dsimp +instances only
                                            refine zO.gd g1 ?_
                                            try dsimp +instances only
                                            refine zO.bind (qu_weight I) (fun v s1 p => ?_)
                                            try dsimp +instances only
                                            refine zO.gd g1 ?_
                                            try dsimp +instances only
                                            refine zO.bind p (fun w s2 q => ?_)
                                            try dsimp +instances only
                                            unfold g_jRangeAnswersLaw_law_L1367
                                            rw [w6]
                                            exact z_loop hxl hx n (x3 + 6) s2 (InvR.mono q.1 (by omega)) k1 k2 k3
                                          · clear c
                                            try dsimp +instances only
                                            refine zO.ite (fun c => ?_) (fun c => ?_)
                                            · clear c
                                              try dsimp +instances only
                                              refine zO.gd g1 ?_
                                              try dsimp +instances only
                                              refine zO.bind (qr_told I) (fun v s1 p => ?_)
                                              try dsimp +instances only
                                              refine zO.gd g1 ?_
                                              try dsimp +instances only
                                              refine zO.bind p (fun w s2 q => ?_)
                                              try dsimp +instances only
                                              unfold g_jRangeAnswersLaw_law_L1367
                                              rw [w6]
                                              exact z_loop hxl hx n (x3 + 6) s2 (InvR.mono q (by omega)) k1 k2 k3
                                            · clear c
                                              try dsimp +instances only
                                              refine zO.ite (fun c => ?_) (fun c => ?_)
                                              · clear c
                                                try dsimp +instances only
                                                refine zO.bind (qr_flush I) (fun v s1 p => ?_)
                                                try dsimp +instances only
                                                refine zO.bind p (fun w s2 q => ?_)
                                                try dsimp +instances only
                                                unfold g_jRangeAnswersLaw_law_L1367
                                                rw [w6]
                                                exact z_loop hxl hx n (x3 + 6) s2 (InvR.mono q.1 (by omega)) k1 k2 k3
                                              · clear c
                                                try dsimp +instances only
                                                refine zO.ite (fun c => ?_) (fun c => ?_)
                                                · clear c
                                                  try dsimp +instances only
                                                  refine zO.gd g1 ?_
                                                  try dsimp +instances only
                                                  refine zO.bind (qu_keep I) (fun v s1 p => ?_)
                                                  try dsimp +instances only
                                                  refine zO.gd g1 ?_
                                                  try dsimp +instances only
                                                  refine zO.bind p (fun w s2 q => ?_)
                                                  try dsimp +instances only
                                                  refine zO.ite (fun _ => ?_) (fun c => absurd q.2 c)
                                                  try dsimp +instances only
                                                  unfold g_jRangeAnswersLaw_law_L1367
                                                  rw [w6]
                                                  exact z_loop hxl hx n (x3 + 6) s2 (InvR.mono q.1 (by omega)) k1 k2 k3
                                                · clear c
                                                  try dsimp +instances only
                                                  refine zO.ite (fun c => ?_) (fun c => ?_)
                                                  · clear c
                                                    try dsimp +instances only
                                                    refine zO.gd g1 ?_
                                                    try dsimp +instances only
                                                    refine zO.gd g2 ?_
                                                    try dsimp +instances only
                                                    refine zO.gd g3 ?_
                                                    try dsimp +instances only
                                                    refine zO.gd g4 ?_
                                                    try dsimp +instances only
                                                    refine zO.bind (qr_trace I) (fun v s1 p => ?_)
                                                    try dsimp +instances only
                                                    refine zO.gd g1 ?_
                                                    try dsimp +instances only
                                                    refine zO.gd g2 ?_
                                                    try dsimp +instances only
                                                    refine zO.gd g3 ?_
                                                    try dsimp +instances only
                                                    refine zO.gd g4 ?_
                                                    try dsimp +instances only
                                                    refine zO.bind p (fun w s2 q => ?_)
                                                    try dsimp +instances only
                                                    unfold g_jRangeAnswersLaw_law_L1367
                                                    rw [w6]
                                                    exact z_loop hxl hx n (x3 + 6) s2 (InvR.mono q.1 (by omega)) k1 k2 k3
                                                  · clear c
                                                    try dsimp +instances only
                                                    refine zO.ite (fun c => ?_) (fun c => ?_)
                                                    · clear c
                                                      try dsimp +instances only
                                                      refine zO.gd g1 ?_
                                                      try dsimp +instances only
                                                      refine zO.gd g2 ?_
                                                      try dsimp +instances only
                                                      refine zO.bind (qr_again I) (fun v s1 p => ?_)
                                                      try dsimp +instances only
                                                      refine zO.gd g1 ?_
                                                      try dsimp +instances only
                                                      refine zO.gd g2 ?_
                                                      try dsimp +instances only
                                                      refine zO.bind p (fun w s2 q => ?_)
                                                      try dsimp +instances only
                                                      unfold g_jRangeAnswersLaw_law_L1367
                                                      rw [w6]
                                                      exact z_loop hxl hx n (x3 + 6) s2 (InvR.mono q (by omega)) k1 k2 k3
                                                    · clear c
                                                      try dsimp +instances only
                                                      refine zO.ite (fun c => ?_) (fun c => ?_)
                                                      · clear c
                                                        try dsimp +instances only
                                                        refine zO.gd g1 ?_
                                                        try dsimp +instances only
                                                        refine zO.bind (qr_least I) (fun v s1 p => ?_)
                                                        try dsimp +instances only
                                                        refine zO.gd g1 ?_
                                                        try dsimp +instances only
                                                        refine zO.bind p (fun w s2 q => ?_)
                                                        try dsimp +instances only
                                                        unfold g_jRangeAnswersLaw_law_L1367
                                                        rw [w6]
                                                        exact z_loop hxl hx n (x3 + 6) s2 (InvR.mono q (by omega)) k1 k2 k3
                                                      · clear c
                                                        try dsimp +instances only
                                                        refine zO.ite (fun c => ?_) (fun c => ?_)
                                                        · clear c
                                                          try dsimp +instances only
                                                          refine zO.gd g1 ?_
                                                          try dsimp +instances only
                                                          refine zO.gd g2 ?_
                                                          try dsimp +instances only
                                                          refine zO.gd g3 ?_
                                                          try dsimp +instances only
                                                          refine zO.gd g4 ?_
                                                          try dsimp +instances only
                                                          refine zO.gd g5 ?_
                                                          try dsimp +instances only
                                                          refine zO.bind (qr_watch I) (fun v s1 p => ?_)
                                                          try dsimp +instances only
                                                          refine zO.gd g1 ?_
                                                          try dsimp +instances only
                                                          refine zO.gd g2 ?_
                                                          try dsimp +instances only
                                                          refine zO.gd g3 ?_
                                                          try dsimp +instances only
                                                          refine zO.gd g4 ?_
                                                          try dsimp +instances only
                                                          refine zO.gd g5 ?_
                                                          try dsimp +instances only
                                                          refine zO.bind p (fun w s2 q => ?_)
                                                          try dsimp +instances only
                                                          unfold g_jRangeAnswersLaw_law_L1367
                                                          rw [w6]
                                                          exact z_loop hxl hx n (x3 + 6) s2 (InvR.mono q.1 (by omega)) k1 k2 k3
                                                        · clear c
                                                          try dsimp +instances only
                                                          refine zO.ite (fun c => ?_) (fun c => ?_)
                                                          · clear c
                                                            try dsimp +instances only
                                                            refine zO.gd g1 ?_
                                                            try dsimp +instances only
                                                            refine zO.bind (qr_value I) (fun v s1 p => ?_)
                                                            try dsimp +instances only
                                                            refine zO.gd g1 ?_
                                                            try dsimp +instances only
                                                            refine zO.bind p (fun w s2 q => ?_)
                                                            try dsimp +instances only
                                                            unfold g_jRangeAnswersLaw_law_L1367
                                                            rw [w6]
                                                            exact z_loop hxl hx n (x3 + 6) s2 (InvR.mono q.1 (by omega)) k1 k2 k3
                                                          · clear c
                                                            try dsimp +instances only
                                                            refine zO.ite (fun c => ?_) (fun c => ?_)
                                                            · clear c
                                                              try dsimp +instances only
                                                              refine zO.gd g1 ?_
                                                              try dsimp +instances only
                                                              refine zO.bind (qr_changes I) (fun v s1 p => ?_)
                                                              try dsimp +instances only
                                                              refine zO.gd g1 ?_
                                                              try dsimp +instances only
                                                              refine zO.bind p (fun w s2 q => ?_)
                                                              try dsimp +instances only
                                                              unfold g_jRangeAnswersLaw_law_L1367
                                                              rw [w6]
                                                              exact z_loop hxl hx n (x3 + 6) s2 (InvR.mono q.1 (by omega)) k1 k2 k3
                                                            · clear c
                                                              try dsimp +instances only
                                                              refine zO.ite (fun c => ?_) (fun c => ?_)
                                                              · clear c
                                                                try dsimp +instances only
                                                                refine zO.gd g1 ?_
                                                                try dsimp +instances only
                                                                refine zO.gd g2 ?_
                                                                try dsimp +instances only
                                                                refine zO.bind (qr_list I) (fun v s1 p => ?_)
                                                                try dsimp +instances only
                                                                refine zO.gd g1 ?_
                                                                try dsimp +instances only
                                                                refine zO.gd g2 ?_
                                                                try dsimp +instances only
                                                                refine zO.bind p (fun w s2 q => ?_)
                                                                try dsimp +instances only
                                                                unfold g_jRangeAnswersLaw_law_L1367
                                                                rw [w6]
                                                                exact z_loop hxl hx n (x3 + 6) s2 (InvR.mono q.1 (by omega)) k1 k2 k3
                                                              · clear c
                                                                try dsimp +instances only
                                                                refine zO.ite (fun c => ?_) (fun c => ?_)
                                                                · clear c
                                                                  try dsimp +instances only
                                                                  refine zO.gd g1 ?_
                                                                  try dsimp +instances only
                                                                  refine zO.gd g2 ?_
                                                                  try dsimp +instances only
                                                                  refine zO.gd g3 ?_
                                                                  try dsimp +instances only
                                                                  refine zO.gd g4 ?_
                                                                  try dsimp +instances only
                                                                  refine zO.bind (qr_set I) (fun v s1 p => ?_)
                                                                  try dsimp +instances only
                                                                  refine zO.gd g1 ?_
                                                                  try dsimp +instances only
                                                                  refine zO.gd g2 ?_
                                                                  try dsimp +instances only
                                                                  refine zO.gd g3 ?_
                                                                  try dsimp +instances only
                                                                  refine zO.gd g4 ?_
                                                                  try dsimp +instances only
                                                                  refine zO.bind p (fun w s2 q => ?_)
                                                                  try dsimp +instances only
                                                                  unfold g_jRangeAnswersLaw_law_L1367
                                                                  rw [w6]
                                                                  exact z_loop hxl hx n (x3 + 6) s2 (InvR.mono q.1 (by omega)) k1 k2 k3
                                                                · clear c
                                                                  try dsimp +instances only
                                                                  refine zO.ite (fun c => ?_) (fun c => ?_)
                                                                  · clear c
                                                                    try dsimp +instances only
                                                                    refine zO.gd g1 ?_
                                                                    try dsimp +instances only
                                                                    refine zO.gd g2 ?_
                                                                    try dsimp +instances only
                                                                    refine zO.bind (qr_get I) (fun v s1 p => ?_)
                                                                    try dsimp +instances only
                                                                    refine zO.gd g1 ?_
                                                                    try dsimp +instances only
                                                                    refine zO.gd g2 ?_
                                                                    try dsimp +instances only
                                                                    refine zO.bind p (fun w s2 q => ?_)
                                                                    try dsimp +instances only
                                                                    unfold g_jRangeAnswersLaw_law_L1367
                                                                    rw [w6]
                                                                    exact z_loop hxl hx n (x3 + 6) s2 (InvR.mono q (by omega)) k1 k2 k3
                                                                  · clear c
                                                                    try dsimp +instances only
                                                                    refine zO.ite (fun c => ?_) (fun c => ?_)
                                                                    · clear c
                                                                      try dsimp +instances only
                                                                      refine zO.gd g1 ?_
                                                                      try dsimp +instances only
                                                                      refine zO.gd g2 ?_
                                                                      try dsimp +instances only
                                                                      refine zO.gd g3 ?_
                                                                      try dsimp +instances only
                                                                      refine zO.gd g4 ?_
                                                                      try dsimp +instances only
                                                                      refine zO.gd g5 ?_
                                                                      try dsimp +instances only
                                                                      refine zO.bind (qr_move (hx _).2 (hx _).2 I) (fun v s1 p => ?_)
                                                                      try dsimp +instances only
                                                                      refine zO.gd g1 ?_
                                                                      try dsimp +instances only
                                                                      refine zO.gd g2 ?_
                                                                      try dsimp +instances only
                                                                      refine zO.gd g3 ?_
                                                                      try dsimp +instances only
                                                                      refine zO.gd g4 ?_
                                                                      try dsimp +instances only
                                                                      refine zO.gd g5 ?_
                                                                      try dsimp +instances only
                                                                      refine zO.bind p (fun w s2 q => ?_)
                                                                      try dsimp +instances only
                                                                      unfold g_jRangeAnswersLaw_law_L1367
                                                                      rw [w6]
                                                                      exact z_loop hxl hx n (x3 + 6) s2 (InvR.mono q.1 (by omega)) k1 k2 k3
                                                                    · clear c
                                                                      try dsimp +instances only
                                                                      refine zO.ite (fun c => ?_) (fun c => ?_)
                                                                      · clear c
                                                                        try dsimp +instances only
                                                                        refine zO.gd g1 ?_
                                                                        try dsimp +instances only
                                                                        refine zO.gd g2 ?_
                                                                        try dsimp +instances only
                                                                        refine zO.bind (qr_lay (hx _) I) (fun v s1 p => ?_)
                                                                        try dsimp +instances only
                                                                        refine zO.gd g1 ?_
                                                                        try dsimp +instances only
                                                                        refine zO.gd g2 ?_
                                                                        try dsimp +instances only
                                                                        refine zO.bind p (fun w s2 q => ?_)
                                                                        try dsimp +instances only
                                                                        unfold g_jRangeAnswersLaw_law_L1367
                                                                        rw [w6]
                                                                        exact z_loop hxl hx n (x3 + 6) s2 (InvR.mono q (by omega)) k1 k2 k3
                                                                      · clear c
                                                                        try dsimp +instances only
                                                                        refine zO.ite (fun c => ?_) (fun c => ?_)
                                                                        · clear c
                                                                          try dsimp +instances only
                                                                          refine zO.gd g1 ?_
                                                                          try dsimp +instances only
                                                                          refine zO.gd g2 ?_
                                                                          try dsimp +instances only
                                                                          refine zO.bind (qr_judge (hx _) I) (fun v s1 p => ?_)
                                                                          try dsimp +instances only
                                                                          refine zO.gd g1 ?_
                                                                          try dsimp +instances only
                                                                          refine zO.gd g2 ?_
                                                                          try dsimp +instances only
                                                                          refine zO.bind p (fun w s2 q => ?_)
                                                                          try dsimp +instances only
                                                                          unfold g_jRangeAnswersLaw_law_L1367
                                                                          rw [w6]
                                                                          exact z_loop hxl hx n (x3 + 6) s2 (InvR.mono q (by omega)) k1 k2 k3
                                                                        · clear c
                                                                          try dsimp +instances only
                                                                          refine zO.ite (fun c => ?_) (fun c => ?_)
                                                                          · clear c
                                                                            try dsimp +instances only
                                                                            refine zO.bind (qr_image I) (fun v s1 p => ?_)
                                                                            try dsimp +instances only
                                                                            refine zO.bind p (fun w s2 q => ?_)
                                                                            try dsimp +instances only
                                                                            unfold g_jRangeAnswersLaw_law_L1367
                                                                            rw [w6]
                                                                            exact z_loop hxl hx n (x3 + 6) s2 (InvR.mono q.1 (by omega)) k1 k2 k3
                                                                          · clear c
                                                                            try dsimp +instances only
                                                                            refine zO.ite (fun c => ?_) (fun c => ?_)
                                                                            · clear c
                                                                              try dsimp +instances only
                                                                              refine zO.bind (qr_undo I) (fun v s1 p => ?_)
                                                                              try dsimp +instances only
                                                                              refine zO.bind p (fun w s2 q => ?_)
                                                                              try dsimp +instances only
                                                                              unfold g_jRangeAnswersLaw_law_L1367
                                                                              rw [w6]
                                                                              exact z_loop hxl hx n (x3 + 6) s2 (InvR.mono q.1 (by omega)) k1 k2 k3
                                                                            · clear c
                                                                              try dsimp +instances only
                                                                              unfold g_jRangeAnswersLaw_law_L1367
                                                                              rw [w6]
                                                                              exact z_loop hxl hx n (x3 + 6) σ (InvR.mono I (by omega)) k1 k2 k3
theorem z_main : z_goal 3072 := z_fin (by decide) (fun xl xs hxl => by
  obtain ⟨v, s, e, rfl⟩ := z_loop (xs := xs) hxl (fun X => ⟨Int32.le_toInt X, Int32.toInt_lt X⟩) zK 0 s0 (InvR_s0 (by decide)) (by omega) (by omega) (by show _ < (1000000 : Int); omega)
  exact ⟨s, e⟩)
end
