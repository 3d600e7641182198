/-! LOOPS of the class with bounds that are not known, as rules (by wip/px_loops.py) -/
section ZLP
variable {xl : Nat} {xs : Nat → Int32} {N S : Nat} {T : wT}
variable {q : z_R} {d k pc pc' : Nat} {L L' : zL} {st st' r : List Value} {μ : zM} {Q : Option Value → zM → Prop}
/-- a place told by a number that is not known -/
theorem w_asy {i : Instr} (H : w_ok xl xs N S T μ) {a t n : Nat} {y : Int32} {c : Int} {u w : Value} (hq : z_mth k = some q) (hi : z_at q pc i) (hr : (match i with | .return_ | .ireturn | .lreturn | .areturn | .invokevirtual _ => false | _ => true) = true) (hz : z_step q.2.2.2.2.1 q.2.2.1 (q.1.name == "<init>") i pc L (w :: .int y :: .ref a :: r) μ = z_sd μ t pc L a y u r) (hu : (t = 0 ∨ t = 2 → ∃ x : Int32, u = .int x) ∧ (t = 1 → ∃ x : Int64, u = .long x)) (hy : y.toInt = c) (h0 : 0 ≤ c) (h1 : c < n) (hrow : (w_row T a).map (fun r => (r.1, r.2.1)) = some (t, n)) (e1 : pc + 1 = pc') (e2 : z_can k pc' L = L') (kk : ∀ μ2, w_ok xl xs N S ((a, (t, n, [(c.toNat, u)], none)) :: T) μ2 → z_W d k pc' L' r μ2 Q) : z_W d k pc L (w :: .int y :: .ref a :: r) μ Q := by
  obtain ⟨rr, hrr, he⟩ := Option.map_eq_some_iff.mp hrow
  refine w_asm H (r0 := rr) (t, n, [], none) hq hi hr hz hu hy h0 h1 (by rw [hrr]; exact congrArg (fun z => some (rr, z)) he) ⟨rfl, rfl⟩ w_kn_n (Or.inl rfl) e1 e2 (fun g => kk _ ?_)
  refine ⟨g.1, g.2.1, g.2.2.1, g.2.2.2.1, fun b r2 hb => ?_⟩
  rw [w_row_cons] at hb
  by_cases hab : a = b
  · subst hab
    rw [if_pos rfl] at hb
    cases hb
    obtain ⟨k1, k2, k3, -⟩ := g.2.2.2.2 a (t, n, [], none) (by rw [w_row_cons, if_pos rfl])
    refine ⟨k1, k2, k3, fun j v hj hv => ?_⟩
    show (if a = a then (if j = c.toNat then u else μ.2 a j) else μ.2 a j) = v
    rw [if_pos rfl]
    unfold w_at at hv
    rw [List.find?_cons] at hv
    by_cases hjc : j = c.toNat
    · subst hjc
      rw [if_pos rfl]
      simpa using hv
    · have : (((c.toNat, u) : Nat × Value).1 == j) = false := by simpa using fun e => hjc e.symm
      rw [this] at hv
      cases hv
  · rw [if_neg hab] at hb
    exact g.2.2.2.2 b r2 (by rw [w_row_cons, if_neg hab]; exact hb)
theorem w_aly {i : Instr} (H : w_ok xl xs N S T μ) {a t n : Nat} {y : Int32} {c : Int} {u : Value} (hq : z_mth k = some q) (hi : z_at q pc i) (hr : (match i with | .return_ | .ireturn | .lreturn | .areturn | .invokevirtual _ => false | _ => true) = true) (hz : z_step q.2.2.2.2.1 q.2.2.1 (q.1.name == "<init>") i pc L (.int y :: .ref a :: r) μ = z_ld μ t pc L a y r) (hy : y.toInt = c) (h0 : 0 ≤ c) (h1 : c < n) (hrow : w_row T a = some (t, n, [(c.toNat, u)], none)) (e1 : pc + 1 = pc') (e2 : z_can k pc' L = L') (kk : z_W d k pc' L' (u :: r) μ Q) : z_W d k pc L (.int y :: .ref a :: r) μ Q := by
  refine w_al H (j := c.toNat) hq hi hr hz (by rw [hy]; omega) ?_ e1 e2 kk
  unfold w_g
  rw [hrow]
  dsimp only
  rw [if_pos rfl, if_pos (by omega)]
  unfold w_at
  dsimp only
  rw [List.find?_cons]
  simp
theorem w_mk {l n : Int32} (hF : w_g T 14 134 0 = some (.ref 135)) (hR : ∀ j, j < 6 → w_g T 3 135 j = some (.ref (136 + j))) (hZ : ∀ j, j < 6 → w_row T (136 + j) = some (1, 60, [], some (.long 0))) (hl : 0 ≤ l.toInt ∧ l.toInt ≤ 5) (hn : n.toInt ≤ 60) (hQ : ∀ m, w_ok xl xs N S T m → Q none m) : ∀ (f : Nat) (i : Int32) (m : zM), 0 ≤ i.toInt → n.toInt ≤ i.toInt + f → w_ok xl xs N S T m → z_W d 60 27 [(0, .ref 134), (1, .int l), (2, .int n), (3, .int i)] [] m Q
  | 0, i, m, hi, hf, H => by
    refine w_p h_m60 2 (pc' := 29) (L' := [(0, .ref 134), (1, .int l), (2, .int n), (3, .int i)]) (st' := [.int n, .int i]) rfl ?_
    refine w_t2 (pc' := 47) (L' := [(0, .ref 134), (1, .int l), (2, .int n), (3, .int i)]) h_m60 (z_at.mk 3 rfl rfl) rfl (zc (a := i.toInt) (b := n.toInt) rfl rfl (decide_eq_true (by omega))) rfl rfl ?_
    exact w_rv h_m60 (z_at.mk 1 rfl rfl) rfl (hQ m H)
  | f + 1, i, m, hi, hf, H => by
    refine w_p h_m60 2 (pc' := 29) (L' := [(0, .ref 134), (1, .int l), (2, .int n), (3, .int i)]) (st' := [.int n, .int i]) rfl ?_
    by_cases c : i.toInt < n.toInt
    · refine w_f2 (pc' := 32) (L' := [(0, .ref 134), (1, .int l), (2, .int n), (3, .int i)]) h_m60 (z_at.mk 3 rfl rfl) rfl (zc (a := i.toInt) (b := n.toInt) rfl rfl (decide_eq_false (by omega))) rfl rfl ?_
      have bi := zi_bd n
      refine w_p h_m60 1 (pc' := 33) (L' := [(0, .ref 134), (1, .int l), (2, .int n), (3, .int i)]) (st' := [.ref 134]) rfl ?_
      refine w_gf H (pc' := 36) (L' := [(0, .ref 134), (1, .int l), (2, .int n), (3, .int i)]) h_m60 (z_at.mk 3 rfl rfl) rfl hF rfl rfl ?_
      refine w_p h_m60 1 (pc' := 37) (L' := [(0, .ref 134), (1, .int l), (2, .int n), (3, .int i)]) (st' := [.int l, .ref 135]) rfl ?_
      refine w_al H (t := 3) (j := l.toInt.toNat) (pc' := 38) (L' := [(0, .ref 134), (1, .int l), (2, .int n), (3, .int i)]) h_m60 (z_at.mk 1 rfl rfl) rfl rfl (by omega) (hR _ (by omega)) rfl rfl ?_
      refine w_p h_m60 2 (pc' := 40) (L' := [(0, .ref 134), (1, .int l), (2, .int n), (3, .int i)]) (st' := [.long (0 : Int64), .int i, .ref (136 + l.toInt.toNat)]) rfl ?_
      refine w_asx H (t := 1) (n := 60) (c := i.toInt) (u := .long (0 : Int64)) (r0 := (1, 60, [], some (.long 0))) (1, 60, [], some (.long 0)) (pc' := 41) (L' := [(0, .ref 134), (1, .int l), (2, .int n), (3, .int i)]) h_m60 (z_at.mk 1 rfl rfl) rfl rfl (w_ul _) rfl (by omega) (by omega) (by rw [hZ _ (by omega)]; rfl) ⟨rfl, rfl⟩ w_kn_n (Or.inr ⟨rfl, rfl⟩) rfl rfl ?_
      intro m2 H2
      refine w_p h_m60 2 (pc' := 27) (L' := [(0, .ref 134), (1, .int l), (2, .int n), (3, .int (i + (1 : Int32)))]) (st' := []) rfl ?_
      have k1 : (i + (1 : Int32)).toInt = i.toInt + 1 := zi_add (a := i.toInt) (b := 1) (c := i.toInt + 1) rfl rfl (by omega) (by omega) rfl
      exact w_mk hF hR hZ hl hn hQ f (i + (1 : Int32)) m2 (by omega) (by omega) (H2.same (hZ _ (by omega)))
    · refine w_t2 (pc' := 47) (L' := [(0, .ref 134), (1, .int l), (2, .int n), (3, .int i)]) h_m60 (z_at.mk 3 rfl rfl) rfl (zc (a := i.toInt) (b := n.toInt) rfl rfl (decide_eq_true (by omega))) rfl rfl ?_
      exact w_rv h_m60 (z_at.mk 1 rfl rfl) rfl (hQ m H)
theorem w_fl1 {x1 : Int32} {bit : Int64} (hF : w_g T 18 41 5 = some (.ref 46)) (hr0 : w_row T 46 = some (1, 33, [], none)) (hQ : ∀ i m, w_ok xl xs N S T m → z_W d 86 41 [(0, .ref 41), (1, .int x1), (2, .long bit), (4, .int i)] [] m Q) : ∀ (f : Nat) (i : Int32) (m : zM), 0 ≤ i.toInt → 33 ≤ i.toInt + f → w_ok xl xs N S T m → z_W d 86 14 [(0, .ref 41), (1, .int x1), (2, .long bit), (4, .int i)] [] m Q
  | 0, i, m, hi, hf, H => by
    refine w_p h_m86 2 (pc' := 17) (L' := [(0, .ref 41), (1, .int x1), (2, .long bit), (4, .int i)]) (st' := [.ref 41, .int i]) rfl ?_
    refine w_gf H (pc' := 20) (L' := [(0, .ref 41), (1, .int x1), (2, .long bit), (4, .int i)]) h_m86 (z_at.mk 3 rfl rfl) rfl hF rfl rfl ?_
    refine w_len H (t := 1) (n := 33) (x := (33 : Int32)) (pc' := 21) (L' := [(0, .ref 41), (1, .int x1), (2, .long bit), (4, .int i)]) h_m86 (z_at.mk 1 rfl rfl) (by rw [hr0]; rfl) (by decide) rfl rfl rfl ?_
    refine w_t2 (pc' := 41) (L' := [(0, .ref 41), (1, .int x1), (2, .long bit), (4, .int i)]) h_m86 (z_at.mk 3 rfl rfl) rfl (zc (a := i.toInt) (b := 33) rfl rfl (decide_eq_true (by omega))) rfl rfl ?_
    exact hQ i m H
  | f + 1, i, m, hi, hf, H => by
    refine w_p h_m86 2 (pc' := 17) (L' := [(0, .ref 41), (1, .int x1), (2, .long bit), (4, .int i)]) (st' := [.ref 41, .int i]) rfl ?_
    refine w_gf H (pc' := 20) (L' := [(0, .ref 41), (1, .int x1), (2, .long bit), (4, .int i)]) h_m86 (z_at.mk 3 rfl rfl) rfl hF rfl rfl ?_
    refine w_len H (t := 1) (n := 33) (x := (33 : Int32)) (pc' := 21) (L' := [(0, .ref 41), (1, .int x1), (2, .long bit), (4, .int i)]) h_m86 (z_at.mk 1 rfl rfl) (by rw [hr0]; rfl) (by decide) rfl rfl rfl ?_
    by_cases c : i.toInt < 33
    · refine w_f2 (pc' := 24) (L' := [(0, .ref 41), (1, .int x1), (2, .long bit), (4, .int i)]) h_m86 (z_at.mk 3 rfl rfl) rfl (zc (a := i.toInt) (b := 33) rfl rfl (decide_eq_false (by omega))) rfl rfl ?_
      refine w_p h_m86 1 (pc' := 25) (L' := [(0, .ref 41), (1, .int x1), (2, .long bit), (4, .int i)]) (st' := [.ref 41]) rfl ?_
      refine w_gf H (pc' := 28) (L' := [(0, .ref 41), (1, .int x1), (2, .long bit), (4, .int i)]) h_m86 (z_at.mk 3 rfl rfl) rfl hF rfl rfl ?_
      refine w_p h_m86 2 (pc' := 31) (L' := [(0, .ref 41), (1, .int x1), (2, .long bit), (4, .int i)]) (st' := [.int i, .ref 46, .int i, .ref 46]) rfl ?_
      refine w_alul H (n := 33) (c := i.toInt) (pc' := 32) (L' := [(0, .ref 41), (1, .int x1), (2, .long bit), (4, .int i)]) h_m86 (z_at.mk 1 rfl rfl) rfl rfl rfl (by omega) (by omega) (by rw [hr0]; rfl) rfl rfl rfl ?_
      intro x
      refine w_p h_m86 2 (pc' := 34) (L' := [(0, .ref 41), (1, .int x1), (2, .long bit), (4, .int i)]) (st' := [.long (x ^^^ bit), .int i, .ref 46]) rfl ?_
      refine w_asx H (t := 1) (n := 33) (c := i.toInt) (u := .long (x ^^^ bit)) (r0 := (1, 33, [], none)) (1, 33, [], none) (pc' := 35) (L' := [(0, .ref 41), (1, .int x1), (2, .long bit), (4, .int i)]) h_m86 (z_at.mk 1 rfl rfl) rfl rfl (w_ul _) rfl (by omega) (by omega) (by rw [hr0]; rfl) ⟨rfl, rfl⟩ w_kn_n (Or.inl rfl) rfl rfl ?_
      intro m2 H2
      refine w_p h_m86 2 (pc' := 14) (L' := [(0, .ref 41), (1, .int x1), (2, .long bit), (4, .int (i + (1 : Int32)))]) (st' := []) rfl ?_
      have k1 : (i + (1 : Int32)).toInt = i.toInt + 1 := zi_add (a := i.toInt) (b := 1) (c := i.toInt + 1) rfl rfl (by omega) (by omega) rfl
      exact w_fl1 hF hr0 hQ f (i + (1 : Int32)) m2 (by omega) (by omega) (H2.same hr0)
    · refine w_t2 (pc' := 41) (L' := [(0, .ref 41), (1, .int x1), (2, .long bit), (4, .int i)]) h_m86 (z_at.mk 3 rfl rfl) rfl (zc (a := i.toInt) (b := 33) rfl rfl (decide_eq_true (by omega))) rfl rfl ?_
      exact hQ i m H
theorem w_fl2 {bit : Int64} (hF : w_g T 18 41 6 = some (.ref 47)) (hr0 : w_row T 47 = some (1, 33, [], none)) (hQ : ∀ i m, w_ok xl xs N S T m → z_W d 86 78 [(0, .ref 41), (2, .long bit), (4, .int i)] [] m Q) : ∀ (f : Nat) (i : Int32) (m : zM), 0 ≤ i.toInt → 33 ≤ i.toInt + f → w_ok xl xs N S T m → z_W d 86 51 [(0, .ref 41), (2, .long bit), (4, .int i)] [] m Q
  | 0, i, m, hi, hf, H => by
    refine w_p h_m86 2 (pc' := 54) (L' := [(0, .ref 41), (2, .long bit), (4, .int i)]) (st' := [.ref 41, .int i]) rfl ?_
    refine w_gf H (pc' := 57) (L' := [(0, .ref 41), (2, .long bit), (4, .int i)]) h_m86 (z_at.mk 3 rfl rfl) rfl hF rfl rfl ?_
    refine w_len H (t := 1) (n := 33) (x := (33 : Int32)) (pc' := 58) (L' := [(0, .ref 41), (2, .long bit), (4, .int i)]) h_m86 (z_at.mk 1 rfl rfl) (by rw [hr0]; rfl) (by decide) rfl rfl rfl ?_
    refine w_t2 (pc' := 78) (L' := [(0, .ref 41), (2, .long bit), (4, .int i)]) h_m86 (z_at.mk 3 rfl rfl) rfl (zc (a := i.toInt) (b := 33) rfl rfl (decide_eq_true (by omega))) rfl rfl ?_
    exact hQ i m H
  | f + 1, i, m, hi, hf, H => by
    refine w_p h_m86 2 (pc' := 54) (L' := [(0, .ref 41), (2, .long bit), (4, .int i)]) (st' := [.ref 41, .int i]) rfl ?_
    refine w_gf H (pc' := 57) (L' := [(0, .ref 41), (2, .long bit), (4, .int i)]) h_m86 (z_at.mk 3 rfl rfl) rfl hF rfl rfl ?_
    refine w_len H (t := 1) (n := 33) (x := (33 : Int32)) (pc' := 58) (L' := [(0, .ref 41), (2, .long bit), (4, .int i)]) h_m86 (z_at.mk 1 rfl rfl) (by rw [hr0]; rfl) (by decide) rfl rfl rfl ?_
    by_cases c : i.toInt < 33
    · refine w_f2 (pc' := 61) (L' := [(0, .ref 41), (2, .long bit), (4, .int i)]) h_m86 (z_at.mk 3 rfl rfl) rfl (zc (a := i.toInt) (b := 33) rfl rfl (decide_eq_false (by omega))) rfl rfl ?_
      refine w_p h_m86 1 (pc' := 62) (L' := [(0, .ref 41), (2, .long bit), (4, .int i)]) (st' := [.ref 41]) rfl ?_
      refine w_gf H (pc' := 65) (L' := [(0, .ref 41), (2, .long bit), (4, .int i)]) h_m86 (z_at.mk 3 rfl rfl) rfl hF rfl rfl ?_
      refine w_p h_m86 2 (pc' := 68) (L' := [(0, .ref 41), (2, .long bit), (4, .int i)]) (st' := [.int i, .ref 47, .int i, .ref 47]) rfl ?_
      refine w_alul H (n := 33) (c := i.toInt) (pc' := 69) (L' := [(0, .ref 41), (2, .long bit), (4, .int i)]) h_m86 (z_at.mk 1 rfl rfl) rfl rfl rfl (by omega) (by omega) (by rw [hr0]; rfl) rfl rfl rfl ?_
      intro x
      refine w_p h_m86 2 (pc' := 71) (L' := [(0, .ref 41), (2, .long bit), (4, .int i)]) (st' := [.long (x ^^^ bit), .int i, .ref 47]) rfl ?_
      refine w_asx H (t := 1) (n := 33) (c := i.toInt) (u := .long (x ^^^ bit)) (r0 := (1, 33, [], none)) (1, 33, [], none) (pc' := 72) (L' := [(0, .ref 41), (2, .long bit), (4, .int i)]) h_m86 (z_at.mk 1 rfl rfl) rfl rfl (w_ul _) rfl (by omega) (by omega) (by rw [hr0]; rfl) ⟨rfl, rfl⟩ w_kn_n (Or.inl rfl) rfl rfl ?_
      intro m2 H2
      refine w_p h_m86 2 (pc' := 51) (L' := [(0, .ref 41), (2, .long bit), (4, .int (i + (1 : Int32)))]) (st' := []) rfl ?_
      have k1 : (i + (1 : Int32)).toInt = i.toInt + 1 := zi_add (a := i.toInt) (b := 1) (c := i.toInt + 1) rfl rfl (by omega) (by omega) rfl
      exact w_fl2 hF hr0 hQ f (i + (1 : Int32)) m2 (by omega) (by omega) (H2.same hr0)
    · refine w_t2 (pc' := 78) (L' := [(0, .ref 41), (2, .long bit), (4, .int i)]) h_m86 (z_at.mk 3 rfl rfl) rfl (zc (a := i.toInt) (b := 33) rfl rfl (decide_eq_true (by omega))) rfl rfl ?_
      exact hQ i m H
end ZLP
