/-! RUNS OF THE MINI MACHINE, and rules for them -/
theorem z_exec_s (n d k pc : Nat) (L : zL) (st : List Value) (μ : zM) : z_exec (n + 1) d k pc L st μ = (match z_mth k with
    | none => none
    | some q => match z_act q pc L st μ with
      | none => none
      | some (.inl c) => z_exec n d k c.1 (z_can k c.1 c.2.1) c.2.2.1 c.2.2.2
      | some (.inr (.inl v)) => some (v, μ)
      | some (.inr (.inr c)) => match d with
        | 0 => none
        | d' + 1 => match z_exec n d' c.1 0 (z_can c.1 0 (lv_args 0 c.2.1)) [] μ with
          | none => none
          | some o => z_exec n (d' + 1) k (pc + 3) (z_can k (pc + 3) L) (o.1.toList ++ c.2.2) o.2) := rfl
theorem z_fuel : ∀ (n d k pc : Nat) (L : zL) (st : List Value) (μ : zM) (o : Option Value × zM), z_exec n d k pc L st μ = some o → z_exec (n + 1) d k pc L st μ = some o
  | 0, _, _, _, _, _, _, _, h => by cases h
  | n + 1, d, k, pc, L, st, μ, o, h => by
    rw [z_exec_s] at h ⊢
    cases hm : z_mth k with
    | none => rw [hm] at h; cases h
    | some q =>
      rw [hm] at h
      dsimp only at h ⊢
      cases ha : z_act q pc L st μ with
      | none => rw [ha] at h; cases h
      | some a =>
        rw [ha] at h
        rcases a with c | v | c
        · exact z_fuel n d k _ _ _ _ _ h
        · exact h
        · dsimp only at h ⊢
          cases d with
          | zero => cases h
          | succ d' =>
            dsimp only at h ⊢
            cases hc : z_exec n d' c.1 0 (z_can c.1 0 (lv_args 0 c.2.1)) [] μ with
            | none => rw [hc] at h; cases h
            | some o1 =>
              rw [hc] at h
              rw [z_fuel n d' _ _ _ _ _ _ hc]
              exact z_fuel n (d' + 1) k _ _ _ _ _ h
theorem z_depth : ∀ (n d k pc : Nat) (L : zL) (st : List Value) (μ : zM) (o : Option Value × zM), z_exec n d k pc L st μ = some o → z_exec n (d + 1) k pc L st μ = some o
  | 0, _, _, _, _, _, _, _, h => by cases h
  | n + 1, d, k, pc, L, st, μ, o, h => by
    rw [z_exec_s] at h ⊢
    cases hm : z_mth k with
    | none => rw [hm] at h; cases h
    | some q =>
      rw [hm] at h
      dsimp only at h ⊢
      cases ha : z_act q pc L st μ with
      | none => rw [ha] at h; cases h
      | some a =>
        rw [ha] at h
        rcases a with c | v | c
        · exact z_depth n d k _ _ _ _ _ h
        · exact h
        · dsimp only at h ⊢
          cases d with
          | zero => cases h
          | succ d' =>
            dsimp only at h ⊢
            cases hc : z_exec n d' c.1 0 (z_can c.1 0 (lv_args 0 c.2.1)) [] μ with
            | none => rw [hc] at h; cases h
            | some o1 =>
              rw [hc] at h
              rw [z_depth n d' _ _ _ _ _ _ hc]
              exact z_depth n (d' + 1) k _ _ _ _ _ h
def z_Ev (d k pc : Nat) (L : zL) (st : List Value) (μ : zM) (v : Option Value) (μ' : zM) : Prop := ∃ n, z_exec n d k pc L st μ = some (v, μ')
theorem z_fuel_le {n n' d k pc : Nat} {L : zL} {st : List Value} {μ : zM} {o : Option Value × zM} (h : n ≤ n') (hx : z_exec n d k pc L st μ = some o) : z_exec n' d k pc L st μ = some o := by
  obtain ⟨j, rfl⟩ := Nat.exists_eq_add_of_le h
  clear h
  induction j with
  | zero => exact hx
  | succ j ih => exact z_fuel _ _ _ _ _ _ _ _ ih
theorem z_Ev.up {d d' k pc : Nat} {L : zL} {st : List Value} {μ μ' : zM} {v : Option Value} (h : z_Ev d k pc L st μ v μ') (hd : d ≤ d') : z_Ev d' k pc L st μ v μ' := by
  obtain ⟨n, h⟩ := h
  obtain ⟨j, rfl⟩ := Nat.exists_eq_add_of_le hd
  clear hd
  refine ⟨n, ?_⟩
  induction j with
  | zero => exact h
  | succ j ih => exact z_depth _ _ _ _ _ _ _ _ ih
abbrev z_ia (q : z_R) (pc : Nat) : Option (Nat × Instr × Nat) := (q.2.2.2.2.2.2.2.2.getD (pc / 32) []).find? (fun r => r.1 == pc)
section ZEV
variable {q : z_R} {d k pc pc' : Nat} {L L' L0 : zL} {st st' r : List Value} {μ μ' μ2 : zM} {v : Option Value}
theorem ev_x (hq : z_mth k = some q) (ha : z_act q pc L st μ = some (.inl (pc', L0, st', μ2))) (kk : z_Ev d k pc' (z_can k pc' L0) st' μ2 v μ') : z_Ev d k pc L st μ v μ' := by
  obtain ⟨n, h⟩ := kk
  refine ⟨n + 1, ?_⟩
  rw [z_exec_s, hq]
  dsimp only
  rw [ha]
  exact h
def z_nx (q : z_R) (k : Nat) : zC → Option zC
  | (pc, L, st, μ) => match z_act q pc L st μ with
    | some (.inl (pc', L', r)) => some (pc', z_can k pc' L', r)
    | _ => none
def z_rn (q : z_R) (k : Nat) : Nat → zC → Option zC
  | 0, c => some c
  | n + 1, (pc, L, st, μ) => match z_nx q k (pc, L, st, μ) with
    | some c' => z_rn q k n c'
    | none => none
theorem ev_r (hq : z_mth k = some q) : ∀ (n : Nat) {pc : Nat} {L : zL} {st : List Value} {μ : zM}, z_rn q k n (pc, L, st, μ) = some (pc', L', st', μ2) → z_Ev d k pc' L' st' μ2 v μ' → z_Ev d k pc L st μ v μ'
  | 0, pc, L, st, μ, h, kk => by
    cases h
    exact kk
  | n + 1, pc, L, st, μ, h, kk => by
    have h : (match z_nx q k (pc, L, st, μ) with
      | some c' => z_rn q k n c'
      | none => none) = some (pc', L', st', μ2) := h
    cases hn : z_nx q k (pc, L, st, μ) with
    | none => rw [hn] at h; cases h
    | some c' =>
      rw [hn] at h
      unfold z_nx at hn
      dsimp only at hn
      cases ha : z_act q pc L st μ with
      | none => rw [ha] at hn; cases hn
      | some a =>
        rw [ha] at hn
        rcases a with c | w | c
        · cases hn
          exact ev_x hq ha (ev_r hq n h kk)
        · cases hn
        · cases hn
def z_gf (μ : zM) (tg a k : Nat) : Option Value := if z_tg μ a = tg then some (μ.2 a k) else none
def z_gI (μ : zM) (tg a k : Nat) : Option Int32 := match z_gf μ tg a k with
  | some (.int x) => some x
  | _ => none
def z_gL (μ : zM) (tg a k : Nat) : Option Int64 := match z_gf μ tg a k with
  | some (.long x) => some x
  | _ => none
def z_gR (μ : zM) (tg a k : Nat) : Option Nat := match z_gf μ tg a k with
  | some (.ref x) => some x
  | _ => none
def z_af (μ : zM) (t a : Nat) (i : Int32) : Option Value := if z_tg μ a = t then (if z_in i (z_n μ a) = true then some (μ.2 a i.toNatClampNeg) else none) else none
def z_aI (μ : zM) (t a : Nat) (i : Int32) : Option Int32 := match z_af μ t a i with
  | some (.int x) => some x
  | _ => none
def z_aL (μ : zM) (t a : Nat) (i : Int32) : Option Int64 := match z_af μ t a i with
  | some (.long x) => some x
  | _ => none
def z_aR (μ : zM) (t a : Nat) (i : Int32) : Option Nat := match z_af μ t a i with
  | some (.ref x) => some x
  | _ => none
def z_pf (μ : zM) (tg a k : Nat) (w : Value) : Option zM := if zE ≤ a ∧ z_tg μ a = tg then some (z_wr μ a k w) else none
def z_pb (μ : zM) (tg a k : Nat) (x : Int32) : Option zM := if zE ≤ a ∧ z_tg μ a = tg ∧ (x = 0 ∨ x = 1) then some (z_wr μ a k (.int x)) else none
def z_sa (μ : zM) (t a : Nat) (i : Int32) (w : Value) : Option zM := if zE ≤ a ∧ z_tg μ a = t ∧ z_in i (z_n μ a) = true then some (z_wr μ a i.toNatClampNeg w) else none
def z_le (μ : zM) (a : Nat) : Option Int32 := if z_tg μ a < 4 then some (Int32.ofNat (z_n μ a)) else none
def z_mk (μ : zM) (c : Nat) : Option (Nat × zM) := some (μ.1.length, z_al μ (10 + c) (z_cls.getD c ("", z_T0, 0)).2.2 (fun k => z_dv ((z_tys.getD c []).getD k .int)))
def z_ma (μ : zM) (t : Nat) (x : Int32) : Option (Nat × zM) := if 0 ≤ x.toInt ∧ x.toInt ≤ 60000000 then some (μ.1.length, z_al μ t x.toNatClampNeg (fun _ => z_dv (z_aty t))) else none
def z_mm (μ : zM) (x y : Int32) : Option (Nat × zM) := if 0 ≤ x.toInt ∧ x.toInt ≤ 60000 ∧ 0 ≤ y.toInt ∧ y.toInt ≤ 60000 then some (μ.1.length, z_als (z_al μ 3 x.toNatClampNeg (fun j => .ref (μ.1.length + 1 + j))) x.toNatClampNeg y.toNatClampNeg) else none
def z_cp (μ : zM) (a : Nat) (sp : Int32) (b : Nat) (dp n : Int32) : Option zM := if zE ≤ b ∧ z_tg μ a = z_tg μ b ∧ z_tg μ a < 3 ∧ 0 ≤ sp.toInt ∧ 0 ≤ dp.toInt ∧ 0 ≤ n.toInt ∧ sp.toNatClampNeg + n.toNatClampNeg ≤ z_n μ a ∧ dp.toNatClampNeg + n.toNatClampNeg ≤ z_n μ b then some (μ.1, z_nw μ.2 b (z_cpy (μ.2 a) (μ.2 b) sp.toNatClampNeg dp.toNatClampNeg n.toNatClampNeg)) else none
/-- an instruction at its place, of the length that it has -/
def z_at (q : z_R) (pc : Nat) (i : Instr) : Prop := ∃ len, z_ia q pc = some (pc, i, len) ∧ (len == z_ln i || z_ln i == 0) = true
theorem z_at.mk {i : Instr} (len : Nat) (h : z_ia q pc = some (pc, i, len)) (hl : (len == z_ln i || z_ln i == 0) = true) : z_at q pc i := ⟨len, h, hl⟩
theorem z_act_step {i : Instr} {c : zC} (hi : z_at q pc i) (hn : (match i with | .return_ | .ireturn | .lreturn | .areturn | .invokevirtual _ => false | _ => true) = true) (hs : z_step q.2.2.2.2.1 q.2.2.1 (q.1.name == "<init>") i pc L st μ = some c) : z_act q pc L st μ = some (.inl c) := by
  obtain ⟨len, h1, h2⟩ := hi
  unfold z_act
  unfold z_ia at h1
  rw [h1]
  dsimp only
  rw [if_pos h2]
  cases i <;> first
    | (simp at hn; done)
    | (rw [hs]; done) | (rw [hs]; rfl)
theorem ev_s {i : Instr} (hq : z_mth k = some q) (hi : z_at q pc i) (hn : (match i with | .return_ | .ireturn | .lreturn | .areturn | .invokevirtual _ => false | _ => true) = true) (hs : z_step q.2.2.2.2.1 q.2.2.1 (q.1.name == "<init>") i pc L st μ = some (pc', L0, st', μ2)) (e2 : z_can k pc' L0 = L') (kk : z_Ev d k pc' L' st' μ2 v μ') : z_Ev d k pc L st μ v μ' := by
  subst e2
  exact ev_x hq (z_act_step hi hn hs) kk
theorem z_gI_f {μ : zM} {tg a k : Nat} {x : Int32} (h : z_gI μ tg a k = some x) : z_tg μ a = tg ∧ μ.2 a k = .int x := by
  unfold z_gI z_gf at h
  split at h
  · rename_i hx
    split at hx
    · cases h
      exact ⟨by assumption, Option.some.inj hx⟩
    · cases hx
  · cases h
theorem z_gL_f {μ : zM} {tg a k : Nat} {x : Int64} (h : z_gL μ tg a k = some x) : z_tg μ a = tg ∧ μ.2 a k = .long x := by
  unfold z_gL z_gf at h
  split at h
  · rename_i hx
    split at hx
    · cases h
      exact ⟨by assumption, Option.some.inj hx⟩
    · cases hx
  · cases h
theorem z_gR_f {μ : zM} {tg a k x : Nat} (h : z_gR μ tg a k = some x) : z_tg μ a = tg ∧ μ.2 a k = .ref x := by
  unfold z_gR z_gf at h
  split at h
  · rename_i hx
    split at hx
    · cases h
      exact ⟨by assumption, Option.some.inj hx⟩
    · cases hx
  · cases h
theorem z_aI_f {μ : zM} {t a : Nat} {i x : Int32} (h : z_aI μ t a i = some x) : z_tg μ a = t ∧ z_in i (z_n μ a) = true ∧ μ.2 a i.toNatClampNeg = .int x := by
  unfold z_aI z_af at h
  split at h
  · rename_i hx
    split at hx
    · split at hx
      · cases h
        exact ⟨by assumption, by assumption, Option.some.inj hx⟩
      · cases hx
    · cases hx
  · cases h
theorem z_aL_f {μ : zM} {t a : Nat} {i : Int32} {x : Int64} (h : z_aL μ t a i = some x) : z_tg μ a = t ∧ z_in i (z_n μ a) = true ∧ μ.2 a i.toNatClampNeg = .long x := by
  unfold z_aL z_af at h
  split at h
  · rename_i hx
    split at hx
    · split at hx
      · cases h
        exact ⟨by assumption, by assumption, Option.some.inj hx⟩
      · cases hx
    · cases hx
  · cases h
theorem z_aR_f {μ : zM} {t a x : Nat} {i : Int32} (h : z_aR μ t a i = some x) : z_tg μ a = t ∧ z_in i (z_n μ a) = true ∧ μ.2 a i.toNatClampNeg = .ref x := by
  unfold z_aR z_af at h
  split at h
  · rename_i hx
    split at hx
    · split at hx
      · cases h
        exact ⟨by assumption, by assumption, Option.some.inj hx⟩
      · cases hx
    · cases hx
  · cases h
theorem z_getf_step {w nL idx a tg f wp : Nat} {isI : Bool} {u : Value} (hl : z_lk z_FL w idx = some (tg, f, wp)) (h1 : z_tg μ a = tg) (h2 : μ.2 a f = u) : z_step w nL isI (.getfield idx) pc L (.ref a :: r) μ = some (pc + 3, L, u :: r, μ) := by
  show (match z_lk z_FL w idx with
    | some (tg, k, _) => if z_tg μ a = tg then some (pc + 3, L, μ.2 a k :: r, μ) else none
    | none => none) = _
  rw [hl]
  dsimp only
  rw [if_pos h1, h2]
theorem ev_gI {idx a tg f wp : Nat} {x : Int32} (hq : z_mth k = some q) (hi : z_at q pc (.getfield idx)) (hl : z_lk z_FL q.2.2.2.2.1 idx = some (tg, f, wp)) (h : z_gI μ tg a f = some x) (e1 : pc + 3 = pc') (e2 : z_can k pc' L = L') (kk : z_Ev d k pc' L' (.int x :: r) μ v μ') : z_Ev d k pc L (.ref a :: r) μ v μ' := by
  subst e1
  exact ev_s hq hi rfl (z_getf_step hl (z_gI_f h).1 (z_gI_f h).2) e2 kk
theorem ev_gL {idx a tg f wp : Nat} {x : Int64} (hq : z_mth k = some q) (hi : z_at q pc (.getfield idx)) (hl : z_lk z_FL q.2.2.2.2.1 idx = some (tg, f, wp)) (h : z_gL μ tg a f = some x) (e1 : pc + 3 = pc') (e2 : z_can k pc' L = L') (kk : z_Ev d k pc' L' (.long x :: r) μ v μ') : z_Ev d k pc L (.ref a :: r) μ v μ' := by
  subst e1
  exact ev_s hq hi rfl (z_getf_step hl (z_gL_f h).1 (z_gL_f h).2) e2 kk
theorem ev_gR {idx a tg f wp x : Nat} (hq : z_mth k = some q) (hi : z_at q pc (.getfield idx)) (hl : z_lk z_FL q.2.2.2.2.1 idx = some (tg, f, wp)) (h : z_gR μ tg a f = some x) (e1 : pc + 3 = pc') (e2 : z_can k pc' L = L') (kk : z_Ev d k pc' L' (.ref x :: r) μ v μ') : z_Ev d k pc L (.ref a :: r) μ v μ' := by
  subst e1
  exact ev_s hq hi rfl (z_getf_step hl (z_gR_f h).1 (z_gR_f h).2) e2 kk
theorem z_putf_step {w nL idx a tg f wp : Nat} {isI : Bool} {u : Value} (hl : z_lk z_FL w idx = some (tg, f, wp)) (hc : zE ≤ a ∧ 10 ≤ tg ∧ z_tg μ a = tg ∧ z_fit ((z_tys.getD (tg - 10) []).getD f .int) u = true ∧ (((z_cls.getD (tg - 10) ("", z_T0, 0)).2.1 f).2.2.2 = false ∨ (isI = true ∧ tg - 10 = w ∧ w < 13))) : z_step w nL isI (.putfield idx) pc L (u :: .ref a :: r) μ = some (pc + 3, L, r, z_wr μ a f u) := by
  show (match z_lk z_FL w idx with
    | some (tg, k, _) => if zE ≤ a ∧ 10 ≤ tg ∧ z_tg μ a = tg ∧ z_fit ((z_tys.getD (tg - 10) []).getD k .int) u = true ∧ (((z_cls.getD (tg - 10) ("", z_T0, 0)).2.1 k).2.2.2 = false ∨ (isI = true ∧ tg - 10 = w ∧ w < 13)) then some (pc + 3, L, r, z_wr μ a k u) else none
    | none => none) = _
  rw [hl]
  dsimp only
  rw [if_pos hc]
theorem ev_pf {idx a tg f wp : Nat} {u : Value} (hq : z_mth k = some q) (hi : z_at q pc (.putfield idx)) (hl : z_lk z_FL q.2.2.2.2.1 idx = some (tg, f, wp)) (h10 : 10 ≤ tg) (hf : z_fit ((z_tys.getD (tg - 10) []).getD f .int) u = true) (hn : ((z_cls.getD (tg - 10) ("", z_T0, 0)).2.1 f).2.2.2 = false ∨ ((q.1.name == "<init>") = true ∧ tg - 10 = q.2.2.2.2.1 ∧ q.2.2.2.2.1 < 13)) (h : z_pf μ tg a f u = some μ2) (e1 : pc + 3 = pc') (e2 : z_can k pc' L = L') (kk : z_Ev d k pc' L' r μ2 v μ') : z_Ev d k pc L (u :: .ref a :: r) μ v μ' := by
  subst e1
  unfold z_pf at h
  obtain ⟨⟨g1, g2⟩, rfl⟩ := z_if_some h
  exact ev_s hq hi rfl (z_putf_step hl ⟨g1, h10, g2, hf, hn⟩) e2 kk
theorem z_fit_b {x : Int32} (h : x = 0 ∨ x = 1) (ty : FieldType) (ht : ty = .boolean ∨ ty = .byte) : z_fit ty (.int x) = true := by
  rcases ht with rfl | rfl <;> rcases h with rfl | rfl <;> rfl
theorem ev_pb {idx a tg f wp : Nat} {x : Int32} (hq : z_mth k = some q) (hi : z_at q pc (.putfield idx)) (hl : z_lk z_FL q.2.2.2.2.1 idx = some (tg, f, wp)) (h10 : 10 ≤ tg) (hf : (z_tys.getD (tg - 10) []).getD f .int = .boolean ∨ (z_tys.getD (tg - 10) []).getD f .int = .byte) (hn : ((z_cls.getD (tg - 10) ("", z_T0, 0)).2.1 f).2.2.2 = false ∨ ((q.1.name == "<init>") = true ∧ tg - 10 = q.2.2.2.2.1 ∧ q.2.2.2.2.1 < 13)) (h : z_pb μ tg a f x = some μ2) (e1 : pc + 3 = pc') (e2 : z_can k pc' L = L') (kk : z_Ev d k pc' L' r μ2 v μ') : z_Ev d k pc L (.int x :: .ref a :: r) μ v μ' := by
  subst e1
  unfold z_pb at h
  obtain ⟨⟨g1, g2, g3⟩, rfl⟩ := z_if_some h
  exact ev_s hq hi rfl (z_putf_step hl ⟨g1, h10, g2, z_fit_b g3 _ hf, hn⟩) e2 kk
theorem z_ld_ok {t a : Nat} {i : Int32} {u : Value} (h1 : z_tg μ a = t) (h2 : z_in i (z_n μ a) = true) (h3 : μ.2 a i.toNatClampNeg = u) : z_ld μ t pc L a i r = some (pc + 1, L, u :: r, μ) := by
  unfold z_ld
  rw [if_pos h1, if_pos h2, h3]
theorem ev_ia {a : Nat} {i x : Int32} (hq : z_mth k = some q) (hi : z_at q pc .iaload) (h : z_aI μ 0 a i = some x) (e1 : pc + 1 = pc') (e2 : z_can k pc' L = L') (kk : z_Ev d k pc' L' (.int x :: r) μ v μ') : z_Ev d k pc L (.int i :: .ref a :: r) μ v μ' := by
  subst e1
  obtain ⟨g1, g2, g3⟩ := z_aI_f h
  exact ev_s hq hi rfl (show z_ld μ 0 pc L a i r = _ from z_ld_ok g1 g2 g3) e2 kk
theorem ev_ba {a : Nat} {i x : Int32} (hq : z_mth k = some q) (hi : z_at q pc .baload) (h : z_aI μ 2 a i = some x) (e1 : pc + 1 = pc') (e2 : z_can k pc' L = L') (kk : z_Ev d k pc' L' (.int x :: r) μ v μ') : z_Ev d k pc L (.int i :: .ref a :: r) μ v μ' := by
  subst e1
  obtain ⟨g1, g2, g3⟩ := z_aI_f h
  exact ev_s hq hi rfl (show z_ld μ 2 pc L a i r = _ from z_ld_ok g1 g2 g3) e2 kk
theorem ev_la {a : Nat} {i : Int32} {x : Int64} (hq : z_mth k = some q) (hi : z_at q pc .laload) (h : z_aL μ 1 a i = some x) (e1 : pc + 1 = pc') (e2 : z_can k pc' L = L') (kk : z_Ev d k pc' L' (.long x :: r) μ v μ') : z_Ev d k pc L (.int i :: .ref a :: r) μ v μ' := by
  subst e1
  obtain ⟨g1, g2, g3⟩ := z_aL_f h
  exact ev_s hq hi rfl (show z_ld μ 1 pc L a i r = _ from z_ld_ok g1 g2 g3) e2 kk
theorem ev_aa {a x : Nat} {i : Int32} (hq : z_mth k = some q) (hi : z_at q pc .aaload) (h : z_aR μ 3 a i = some x) (e1 : pc + 1 = pc') (e2 : z_can k pc' L = L') (kk : z_Ev d k pc' L' (.ref x :: r) μ v μ') : z_Ev d k pc L (.int i :: .ref a :: r) μ v μ' := by
  subst e1
  obtain ⟨g1, g2, g3⟩ := z_aR_f h
  exact ev_s hq hi rfl (show z_ld μ 3 pc L a i r = _ from z_ld_ok g1 g2 g3) e2 kk
theorem z_sd_ok {t a : Nat} {i : Int32} {u : Value} (h : z_sa μ t a i u = some μ2) : z_sd μ t pc L a i u r = some (pc + 1, L, r, μ2) := by
  unfold z_sa at h
  obtain ⟨⟨g1, g2, g3⟩, rfl⟩ := z_if_some h
  unfold z_sd
  rw [if_pos g1, if_pos g2, if_pos g3]
theorem ev_is {a : Nat} {i x : Int32} (hq : z_mth k = some q) (hi : z_at q pc .iastore) (h : z_sa μ 0 a i (.int x) = some μ2) (e1 : pc + 1 = pc') (e2 : z_can k pc' L = L') (kk : z_Ev d k pc' L' r μ2 v μ') : z_Ev d k pc L (.int x :: .int i :: .ref a :: r) μ v μ' := by
  subst e1
  exact ev_s hq hi rfl (show z_sd μ 0 pc L a i (.int x) r = _ from z_sd_ok h) e2 kk
theorem ev_ls {a : Nat} {i : Int32} {x : Int64} (hq : z_mth k = some q) (hi : z_at q pc .lastore) (h : z_sa μ 1 a i (.long x) = some μ2) (e1 : pc + 1 = pc') (e2 : z_can k pc' L = L') (kk : z_Ev d k pc' L' r μ2 v μ') : z_Ev d k pc L (.long x :: .int i :: .ref a :: r) μ v μ' := by
  subst e1
  exact ev_s hq hi rfl (show z_sd μ 1 pc L a i (.long x) r = _ from z_sd_ok h) e2 kk
theorem ev_bs {a : Nat} {i x : Int32} (hq : z_mth k = some q) (hi : z_at q pc .bastore) (h : z_sa μ 2 a i (.int x.toInt8.toInt32) = some μ2) (e1 : pc + 1 = pc') (e2 : z_can k pc' L = L') (kk : z_Ev d k pc' L' r μ2 v μ') : z_Ev d k pc L (.int x :: .int i :: .ref a :: r) μ v μ' := by
  subst e1
  exact ev_s hq hi rfl (show z_sd μ 2 pc L a i (.int x.toInt8.toInt32) r = _ from z_sd_ok h) e2 kk
theorem ev_le {a : Nat} {x : Int32} (hq : z_mth k = some q) (hi : z_at q pc .arraylength) (h : z_le μ a = some x) (e1 : pc + 1 = pc') (e2 : z_can k pc' L = L') (kk : z_Ev d k pc' L' (.int x :: r) μ v μ') : z_Ev d k pc L (.ref a :: r) μ v μ' := by
  subst e1
  unfold z_le at h
  obtain ⟨g1, rfl⟩ := z_if_some h
  exact ev_s hq hi rfl (show (if z_tg μ a < 4 then some (pc + 1, L, Value.int (Int32.ofNat (z_n μ a)) :: r, μ) else none) = _ from if_pos g1) e2 kk
theorem ev_new {idx c : Nat} {o : Nat × zM} {w3 : Nat × Nat × Nat} (hq : z_mth k = some q) (hi : z_at q pc (.new idx)) (hl : z_lk z_CL q.2.2.2.2.1 idx = some (c, w3)) (h : z_mk μ c = some o) (e1 : pc + 3 = pc') (e2 : z_can k pc' L = L') (kk : z_Ev d k pc' L' (.ref o.1 :: r) o.2 v μ') : z_Ev d k pc L r μ v μ' := by
  subst e1
  cases h
  refine ev_s hq hi rfl ?_ e2 kk
  show (match z_lk z_CL q.2.2.2.2.1 idx with
    | some (c, _) => some (pc + 3, L, Value.ref μ.1.length :: r, z_al μ (10 + c) (z_cls.getD c ("", z_T0, 0)).2.2 (fun k => z_dv ((z_tys.getD c []).getD k .int)))
    | none => none) = _
  rw [hl]
theorem ev_ma {t : ArrayType} {ti : Nat} {x : Int32} {o : Nat × zM} (hq : z_mth k = some q) (hi : z_at q pc (.newarray t)) (ht : z_ati t = some ti) (h : z_ma μ ti x = some o) (e1 : pc + 2 = pc') (e2 : z_can k pc' L = L') (kk : z_Ev d k pc' L' (.ref o.1 :: r) o.2 v μ') : z_Ev d k pc L (.int x :: r) μ v μ' := by
  subst e1
  unfold z_ma at h
  obtain ⟨g1, rfl⟩ := z_if_some h
  refine ev_s hq hi rfl ?_ e2 kk
  show (match z_ati t with
    | some ti => if 0 ≤ x.toInt ∧ x.toInt ≤ 60000000 then some (pc + 2, L, Value.ref μ.1.length :: r, z_al μ ti x.toNatClampNeg (fun _ => z_dv (z_aty ti))) else none
    | none => none) = _
  rw [ht]
  dsimp only
  rw [if_pos g1]
theorem ev_mm {x y : Int32} {o : Nat × zM} (hq : z_mth k = some q) (hi : z_at q pc (.multianewarray 11 2)) (hw : q.2.2.2.2.1 = 4) (h : z_mm μ x y = some o) (e1 : pc + 4 = pc') (e2 : z_can k pc' L = L') (kk : z_Ev d k pc' L' (.ref o.1 :: r) o.2 v μ') : z_Ev d k pc L (.int y :: .int x :: r) μ v μ' := by
  subst e1
  unfold z_mm at h
  obtain ⟨⟨g1, g2, g3, g4⟩, rfl⟩ := z_if_some h
  refine ev_s hq hi rfl ?_ e2 kk
  show (if q.2.2.2.2.1 = 4 ∧ 11 = 11 ∧ 2 = 2 ∧ 0 ≤ x.toInt ∧ x.toInt ≤ 60000 ∧ 0 ≤ y.toInt ∧ y.toInt ≤ 60000 then some (pc + 4, L, .ref μ.1.length :: r, z_als (z_al μ 3 x.toNatClampNeg (fun j => .ref (μ.1.length + 1 + j))) x.toNatClampNeg y.toNatClampNeg) else none) = _
  rw [if_pos ⟨hw, rfl, rfl, g1, g2, g3, g4⟩]
theorem ev_cp {idx a b : Nat} {sp dp n : Int32} {r3 : Nat × Nat × List Nat} (hq : z_mth k = some q) (hi : z_at q pc (.invokestatic idx)) (hl : z_lk z_ML q.2.2.2.2.1 idx = some (8, r3)) (hcat : z_cat r ≤ 8) (h : z_cp μ a sp b dp n = some μ2) (e1 : pc + 3 = pc') (e2 : z_can k pc' L = L') (kk : z_Ev d k pc' L' r μ2 v μ') : z_Ev d k pc L (.int n :: .int dp :: .ref b :: .int sp :: .ref a :: r) μ v μ' := by
  subst e1
  unfold z_cp at h
  obtain ⟨⟨g1, g2, g3, g4, g5, g6, g7, g8⟩, rfl⟩ := z_if_some h
  refine ev_s hq hi rfl ?_ e2 kk
  show (match z_lk z_ML q.2.2.2.2.1 idx with
    | some (8, _) => z_ac μ pc L (.int n :: .int dp :: .ref b :: .int sp :: .ref a :: r)
    | some (7, _) => z_i2 (.int n :: .int dp :: .ref b :: .int sp :: .ref a :: r) fun x y r => if 0 ≤ x.toInt ∧ x.toInt < y.toInt ∧ z_cat r ≤ 8 then some (pc + 3, L, r, μ) else none
    | _ => none) = _
  rw [hl]
  show z_ac μ pc L _ = _
  unfold z_ac
  dsimp only
  rw [if_pos g1, if_pos g2, if_pos g3, if_pos ⟨g4, g5, g6, g7, g8, hcat⟩]
theorem ev_ci {idx : Nat} {x y : Int32} {r3 : Nat × Nat × List Nat} (hq : z_mth k = some q) (hi : z_at q pc (.invokestatic idx)) (hl : z_lk z_ML q.2.2.2.2.1 idx = some (7, r3)) (hcat : z_cat r ≤ 8) (h : 0 ≤ x.toInt ∧ x.toInt < y.toInt) (e1 : pc + 3 = pc') (e2 : z_can k pc' L = L') (kk : z_Ev d k pc' L' r μ v μ') : z_Ev d k pc L (.int y :: .int x :: r) μ v μ' := by
  subst e1
  refine ev_s hq hi rfl ?_ e2 kk
  show (match z_lk z_ML q.2.2.2.2.1 idx with
    | some (8, _) => z_ac μ pc L (.int y :: .int x :: r)
    | some (7, _) => z_i2 (.int y :: .int x :: r) fun x y r => if 0 ≤ x.toInt ∧ x.toInt < y.toInt ∧ z_cat r ≤ 8 then some (pc + 3, L, r, μ) else none
    | _ => none) = _
  rw [hl]
  show (if 0 ≤ x.toInt ∧ x.toInt < y.toInt ∧ z_cat r ≤ 8 then some (pc + 3, L, r, μ) else none) = _
  rw [if_pos ⟨h.1, h.2, hcat⟩]
theorem ev_idiv {x y : Int32} (hq : z_mth k = some q) (hi : z_at q pc .idiv) (h : ¬ y = 0) (e1 : pc + 1 = pc') (e2 : z_can k pc' L = L') (kk : z_Ev d k pc' L' (.int (x / y) :: r) μ v μ') : z_Ev d k pc L (.int y :: .int x :: r) μ v μ' := by
  subst e1
  exact ev_s hq hi rfl (show (if y = 0 then none else some (pc + 1, L, Value.int (x / y) :: r, μ)) = _ from if_neg h) e2 kk
theorem ev_irem {x y : Int32} (hq : z_mth k = some q) (hi : z_at q pc .irem) (h : ¬ y = 0) (e1 : pc + 1 = pc') (e2 : z_can k pc' L = L') (kk : z_Ev d k pc' L' (.int (x - x / y * y) :: r) μ v μ') : z_Ev d k pc L (.int y :: .int x :: r) μ v μ' := by
  subst e1
  exact ev_s hq hi rfl (show (if y = 0 then none else some (pc + 1, L, Value.int (x - x / y * y) :: r, μ)) = _ from if_neg h) e2 kk
theorem ev_ldiv {x y : Int64} (hq : z_mth k = some q) (hi : z_at q pc .ldiv) (h : ¬ y = 0) (e1 : pc + 1 = pc') (e2 : z_can k pc' L = L') (kk : z_Ev d k pc' L' (.long (x / y) :: r) μ v μ') : z_Ev d k pc L (.long y :: .long x :: r) μ v μ' := by
  subst e1
  exact ev_s hq hi rfl (show (if y = 0 then none else some (pc + 1, L, Value.long (x / y) :: r, μ)) = _ from if_neg h) e2 kk
theorem ev_lrem {x y : Int64} (hq : z_mth k = some q) (hi : z_at q pc .lrem) (h : ¬ y = 0) (e1 : pc + 1 = pc') (e2 : z_can k pc' L = L') (kk : z_Ev d k pc' L' (.long (x - x / y * y) :: r) μ v μ') : z_Ev d k pc L (.long y :: .long x :: r) μ v μ' := by
  subst e1
  exact ev_s hq hi rfl (show (if y = 0 then none else some (pc + 1, L, Value.long (x - x / y * y) :: r, μ)) = _ from if_neg h) e2 kk
theorem ev_t1 {o : ClassFile.Cond} {off : Int} {x : Int32} (hq : z_mth k = some q) (hi : z_at q pc (.ifCond o off)) (hf : z_fw pc off = true) (hc : z_c o x 0 = true) (e1 : z_to pc off = pc') (e2 : z_can k pc' L = L') (kk : z_Ev d k pc' L' r μ v μ') : z_Ev d k pc L (.int x :: r) μ v μ' := by
  subst e1
  refine ev_s hq hi rfl ?_ e2 kk
  show (if z_fw pc off = true then some (if z_c o x 0 = true then z_to pc off else pc + 3, L, r, μ) else none) = _
  rw [if_pos hf, if_pos hc]
theorem ev_f1 {o : ClassFile.Cond} {off : Int} {x : Int32} (hq : z_mth k = some q) (hi : z_at q pc (.ifCond o off)) (hf : z_fw pc off = true) (hc : z_c o x 0 = false) (e1 : pc + 3 = pc') (e2 : z_can k pc' L = L') (kk : z_Ev d k pc' L' r μ v μ') : z_Ev d k pc L (.int x :: r) μ v μ' := by
  subst e1
  refine ev_s hq hi rfl ?_ e2 kk
  show (if z_fw pc off = true then some (if z_c o x 0 = true then z_to pc off else pc + 3, L, r, μ) else none) = _
  rw [if_pos hf, if_neg (by rw [hc]; exact Bool.false_ne_true)]
theorem ev_t2 {o : ClassFile.Cond} {off : Int} {x y : Int32} (hq : z_mth k = some q) (hi : z_at q pc (.if_icmp o off)) (hf : z_fw pc off = true) (hc : z_c o x y = true) (e1 : z_to pc off = pc') (e2 : z_can k pc' L = L') (kk : z_Ev d k pc' L' r μ v μ') : z_Ev d k pc L (.int y :: .int x :: r) μ v μ' := by
  subst e1
  refine ev_s hq hi rfl ?_ e2 kk
  show (if z_fw pc off = true then some (if z_c o x y = true then z_to pc off else pc + 3, L, r, μ) else none) = _
  rw [if_pos hf, if_pos hc]
theorem ev_f2 {o : ClassFile.Cond} {off : Int} {x y : Int32} (hq : z_mth k = some q) (hi : z_at q pc (.if_icmp o off)) (hf : z_fw pc off = true) (hc : z_c o x y = false) (e1 : pc + 3 = pc') (e2 : z_can k pc' L = L') (kk : z_Ev d k pc' L' r μ v μ') : z_Ev d k pc L (.int y :: .int x :: r) μ v μ' := by
  subst e1
  refine ev_s hq hi rfl ?_ e2 kk
  show (if z_fw pc off = true then some (if z_c o x y = true then z_to pc off else pc + 3, L, r, μ) else none) = _
  rw [if_pos hf, if_neg (by rw [hc]; exact Bool.false_ne_true)]
theorem ev_sw {dflt lo up off : Int} {offs : Array Int} {x : Int32} (hq : z_mth k = some q) (hi : z_at q pc (.tableswitch dflt lo up offs)) (ho : z_off lo up dflt offs x = some off) (hf : z_fw pc off = true) (e1 : z_to pc off = pc') (e2 : z_can k pc' L = L') (kk : z_Ev d k pc' L' r μ v μ') : z_Ev d k pc L (.int x :: r) μ v μ' := by
  subst e1
  refine ev_s hq hi rfl ?_ e2 kk
  show (match z_off lo up dflt offs x with
    | some o => if z_fw pc o = true then some (z_to pc o, L, r, μ) else none
    | none => none) = _
  rw [ho]
  dsimp only
  rw [if_pos hf]
theorem z_ex_ret (hq : z_mth k = some q) (ha : z_act q pc L st μ = some (.inr (.inl v))) : z_Ev d k pc L st μ v μ := by
  refine ⟨1, ?_⟩
  rw [z_exec_s, hq]
  dsimp only
  rw [ha]
theorem ev_rv (hq : z_mth k = some q) (hi : z_at q pc .return_) (hr : q.2.2.2.1 = none) : z_Ev d k pc L [] μ none μ := by
  refine z_ex_ret hq ?_
  obtain ⟨len, h1, h2⟩ := hi
  unfold z_act
  unfold z_ia at h1
  rw [h1]
  dsimp only
  rw [if_pos h2, hr]
theorem ev_ri {x : Int32} {ty : FieldType} (hq : z_mth k = some q) (hi : z_at q pc .ireturn) (hr : q.2.2.2.1 = some ty) (ht : z_rty ty x = true) : z_Ev d k pc L [.int x] μ (some (.int x)) μ := by
  refine z_ex_ret hq ?_
  obtain ⟨len, h1, h2⟩ := hi
  unfold z_act
  unfold z_ia at h1
  rw [h1]
  dsimp only
  rw [if_pos h2, hr]
  dsimp only
  rw [if_pos ht]
theorem z_rty_b {x : Int32} (h : x = 0 ∨ x = 1) : z_rty .boolean x = true ∧ z_rty .byte x = true := by
  rcases h with rfl | rfl <;> exact ⟨rfl, rfl⟩
theorem z_rty_c {x : Int32} (h : 0 ≤ x.toInt ∧ x.toInt < 65536) : z_rty .char x = true := by
  show (decide (0 ≤ x.toInt) && decide (x.toInt < 65536)) = true
  rw [decide_eq_true h.1, decide_eq_true h.2]
  rfl
theorem ev_rl {x : Int64} (hq : z_mth k = some q) (hi : z_at q pc .lreturn) (hr : q.2.2.2.1 = some .long) : z_Ev d k pc L [.long x] μ (some (.long x)) μ := by
  refine z_ex_ret hq ?_
  obtain ⟨len, h1, h2⟩ := hi
  unfold z_act
  unfold z_ia at h1
  rw [h1]
  dsimp only
  rw [if_pos h2, hr]
theorem ev_ra {x : Nat} (hq : z_mth k = some q) (hi : z_at q pc .areturn) (hr : (match q.2.2.2.1 with | some (.object _) => true | some (.array _) => true | _ => false) = true) : z_Ev d k pc L [.ref x] μ (some (.ref x)) μ := by
  refine z_ex_ret hq ?_
  obtain ⟨len, h1, h2⟩ := hi
  unfold z_act
  unfold z_ia at h1
  rw [h1]
  dsimp only
  rw [if_pos h2]
  cases hq2 : q.2.2.2.1 with
  | none => rw [hq2] at hr; cases hr
  | some t =>
    rw [hq2] at hr
    cases t <;> first
      | rfl
      | cases hr
theorem z_ex_call {j : Nat} {As rest : List Value} {dc : Nat} {u : Option Value} (hq : z_mth k = some q) (ha : z_act q pc L st μ = some (.inr (.inr (j, As, rest)))) (hd : dc + 1 ≤ d) (hc : z_Ev dc j 0 (z_can j 0 (lv_args 0 As)) [] μ u μ2) (kk : z_Ev d k (pc + 3) (z_can k (pc + 3) L) (u.toList ++ rest) μ2 v μ') : z_Ev d k pc L st μ v μ' := by
  obtain ⟨d', rfl⟩ : ∃ d', d = d' + 1 := ⟨d - 1, by omega⟩
  obtain ⟨n1, h1⟩ := hc.up (show dc ≤ d' by omega)
  obtain ⟨n2, h2⟩ := kk
  refine ⟨n1 + n2 + 1, ?_⟩
  rw [z_exec_s, hq]
  dsimp only
  rw [ha]
  dsimp only
  rw [z_fuel_le (show n1 ≤ n1 + n2 by omega) h1]
  exact z_fuel_le (show n2 ≤ n1 + n2 by omega) h2
/-- a call that asks nothing of the memory: static methods, constructors -/
theorem ev_cs {idx j dc : Nat} {i : Instr} {ks : List Nat} {As rest : List Value} {u : Option Value} (hq : z_mth k = some q) (hi : z_at q pc i) (hk : (i = .invokestatic idx ∧ ks = [0]) ∨ (i = .invokespecial idx ∧ ks = [2, 3, 4])) (hs : z_step q.2.2.2.2.1 q.2.2.1 (q.1.name == "<init>") i pc L st μ = none) (hv : z_inv q.2.2.2.2.1 idx ks st μ = some (.inr (.inr (j, As, rest)))) (hd : dc + 1 ≤ d) (hc : z_Ev dc j 0 (z_can j 0 (lv_args 0 As)) [] μ u μ2) (e1 : pc + 3 = pc') (e2 : z_can k pc' L = L') (e3 : u.toList ++ rest = st') (kk : z_Ev d k pc' L' st' μ2 v μ') : z_Ev d k pc L st μ v μ' := by
  subst e1 e2 e3
  refine z_ex_call hq ?_ hd hc kk
  obtain ⟨len, h1, h2⟩ := hi
  unfold z_act
  unfold z_ia at h1
  rw [h1]
  dsimp only
  rw [if_pos h2]
  rcases hk with ⟨rfl, rfl⟩ | ⟨rfl, rfl⟩
  · dsimp only
    rw [hs]
    exact hv
  · dsimp only
    rw [hs]
    exact hv
/-- a call on a receiver: its tag is asked -/
theorem ev_cv {idx j dc kd tg a : Nat} {i : Instr} {ks ps : List Nat} {qc : z_R} {Ps rest : List Value} {u : Option Value} (hq : z_mth k = some q) (hi : z_at q pc i) (hk : (i = .invokevirtual idx ∧ ks = [1, 5]) ∨ (i = .invokespecial idx ∧ ks = [2, 3, 4] ∧ kd = 4)) (hl : z_lk z_ML q.2.2.2.2.1 idx = some (kd, j, tg, ps)) (hks : ks.contains kd = true) (hk0 : kd ≠ 0) (hk9 : kd ≠ 9) (hr : z_r j = some qc) (h1 : ¬ st.length < qc.2.2.2.2.2.1) (h2 : st.drop qc.2.2.2.2.2.1 = .ref a :: rest) (h3 : (st.take qc.2.2.2.2.2.1).reverse = Ps) (h4 : z_cat rest ≤ 8) (h5 : (lg_sl (.ref a :: Ps)).length ≤ qc.2.2.1) (h6 : qc.2.2.1 ≤ 41) (htg : z_tg μ a = tg)
    (hd : dc + 1 ≤ d) (hc : z_Ev dc j 0 (z_can j 0 (lv_args 0 (.ref a :: Ps))) [] μ u μ2) (e1 : pc + 3 = pc') (e2 : z_can k pc' L = L') (e3 : u.toList ++ rest = st') (kk : z_Ev d k pc' L' st' μ2 v μ') : z_Ev d k pc L st μ v μ' := by
  subst e1 e2 e3
  refine z_ex_call hq ?_ hd hc kk
  obtain ⟨len, g1, g2⟩ := hi
  have hinv : z_inv q.2.2.2.2.1 idx ks st μ = some (.inr (.inr (j, .ref a :: Ps, rest))) := by
    unfold z_inv
    rw [hl]
    dsimp only
    rw [if_pos hks, hr]
    dsimp only
    rw [if_neg h1, if_neg hk0, h2]
    dsimp only
    rw [h3, if_pos ⟨h4, h5, h6, Or.inr htg⟩]
  unfold z_act
  unfold z_ia at g1
  rw [g1]
  dsimp only
  rw [if_pos g2]
  rcases hk with ⟨rfl, rfl⟩ | ⟨rfl, rfl, rfl⟩
  · exact hinv
  · dsimp only
    have hs : z_step q.2.2.2.2.1 q.2.2.1 (q.1.name == "<init>") (.invokespecial idx) pc L st μ = none := by
      show (match z_lk z_ML q.2.2.2.2.1 idx with
        | some (9, _) => z_q1 st fun _ r => if z_cat r ≤ 8 then some (pc + 3, L, r, μ) else none
        | _ => none) = none
      rw [hl]
      rfl
    rw [hs]
    exact hinv
theorem z_tg_of {a tg : Nat} {α : Type} {x : Option α} {o : α} (h : (if z_tg μ a = tg then x else none) = some o) : z_tg μ a = tg ∧ x = some o := z_ifo_some h
end ZEV
theorem z_ifno_some {α : Type} {P : Prop} [Decidable P] {a : Option α} {o : α} (h : (if P then none else a) = some o) : ¬ P ∧ a = some o := by
  by_cases hp : P
  · rw [if_pos hp] at h; cases h
  · rw [if_neg hp] at h; exact ⟨hp, h⟩
theorem z_ne_i {x y : Int32} {k : Int} (h : ¬ x = y) (hk : y.toInt = k) : x.toInt ≠ k := fun e => h (Int32.toInt_inj.mp (e.trans hk.symm))
theorem z_off_out {lo hi dflt : Int} {offs : Array Int} {x : Int32} (h : x.toInt < lo ∨ hi < x.toInt) : z_off lo hi dflt offs x = some dflt := by
  unfold z_off
  rcases h with h | h
  · rw [if_pos h]
  · by_cases h2 : x.toInt < lo
    · rw [if_pos h2]
    · rw [if_neg h2, if_pos h]
theorem z_off_df {lo hi dflt : Int} {offs : Array Int} {x : Int32} (vs : List Nat) (h1 : ∀ z ∈ vs, x.toInt ≠ lo + (z : Int)) (h2 : ∀ j, j < (hi - lo).toNat + 1 → j ∉ vs → offs[j]? = some dflt) : z_off lo hi dflt offs x = some dflt := by
  by_cases h : x.toInt < lo ∨ hi < x.toInt
  · exact z_off_out h
  · unfold z_off
    rw [if_neg (by omega), if_neg (by omega)]
    exact h2 _ (by omega) (fun hm => h1 _ hm (by omega))
theorem z_cat_le {st : List Value} (n : Nat) (h : z_cat st = n) (hn : n ≤ 8) : z_cat st ≤ 8 := h ▸ hn
theorem z_lgl_le {st : List Value} {N : Nat} (n : Nat) (h : (lg_sl st).length = n) (hn : n ≤ N) : (lg_sl st).length ≤ N := h ▸ hn
def zK : Nat := 1000000
def zR : Nat := 500
