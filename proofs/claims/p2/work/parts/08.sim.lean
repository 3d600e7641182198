/-! THE MINI MACHINE'S RUNS ARE THE MACHINE'S -/
theorem z_als_mono (μ : zM) (k : Nat) : ∀ n, μ.1.length ≤ (z_als μ n k).1.length ∧ z_slt μ ≤ z_slt (z_als μ n k)
  | 0 => ⟨Nat.le_refl _, Nat.le_refl _⟩
  | n + 1 => by
    have h := z_als_mono μ k n
    have h1 := z_len_al (z_als μ n k) 1 k (fun _ => .long 0)
    have h2 := z_slt_al (z_als μ n k) 1 k (fun _ => .long 0)
    show μ.1.length ≤ (z_al (z_als μ n k) 1 k (fun _ => .long 0)).1.length ∧ z_slt μ ≤ z_slt (z_al (z_als μ n k) 1 k (fun _ => .long 0))
    omega
set_option maxHeartbeats 4000000 in
theorem z_step_mono {w nL pc : Nat} {isI : Bool} {i : Instr} {L : zL} {st : List Value} {μ : zM} {o : zC} (hs : z_step w nL isI i pc L st μ = some o) : μ.1.length ≤ o.2.2.2.1.length ∧ z_slt μ ≤ z_slt o.2.2.2 := by
  have same : ∀ {a : Nat} {b : zL} {d : List Value}, some (a, b, d, μ) = some o → μ.1.length ≤ o.2.2.2.1.length ∧ z_slt μ ≤ z_slt o.2.2.2 := by
    intro a b d h
    cases h
    exact ⟨Nat.le_refl _, Nat.le_refl _⟩
  have shp : ∀ {a : Nat} {b : zL} {d : List Value} {m' : Nat → Nat → Value}, some (a, b, d, (μ.1, m')) = some o → μ.1.length ≤ o.2.2.2.1.length ∧ z_slt μ ≤ z_slt o.2.2.2 := by
    intro a b d m' h
    cases h
    exact ⟨Nat.le_refl _, Nat.le_refl _⟩
  cases i
  all_goals first
    | exact absurd (show (none : Option zC) = some o from hs) (by simp)
    | exact same hs
    | (obtain ⟨_, _, hs⟩ := z_gi_some hs; first | exact same hs | (obtain ⟨_, hs⟩ := z_ifo_some hs; exact same hs))
    | (obtain ⟨_, _, hs⟩ := z_gl_some hs; exact same hs)
    | (obtain ⟨_, _, hs⟩ := z_gr_some hs; exact same hs)
    | (obtain ⟨_, _, _, hs⟩ := z_i1_some hs; first | exact same hs | (obtain ⟨_, hs⟩ := z_ifo_some hs; exact same hs))
    | (obtain ⟨_, _, _, hs⟩ := z_l1_some hs; first | exact same hs | (obtain ⟨_, hs⟩ := z_ifo_some hs; exact same hs))
    | (obtain ⟨_, _, _, hs⟩ := z_q1_some hs; first | exact same hs | (obtain ⟨_, hs⟩ := z_ifo_some hs; exact same hs))
    | (obtain ⟨_, _, _, _, hs⟩ := z_i2_some hs; first | exact same hs | (obtain ⟨_, hs⟩ := z_ifo_some hs; exact same hs) | (obtain ⟨_, hs⟩ := z_ifn_some hs; exact same (congrArg some hs)))
    | (obtain ⟨_, _, _, _, hs⟩ := z_l2_some hs; first | exact same hs | (obtain ⟨_, hs⟩ := z_ifo_some hs; exact same hs) | (obtain ⟨_, hs⟩ := z_ifn_some hs; exact same (congrArg some hs)))
    | (obtain ⟨_, _, _, _, hs⟩ := z_li_some hs; exact same hs)
    | (obtain ⟨_, _, _, _, hs⟩ := z_ri_some hs; unfold z_ld at hs; obtain ⟨_, hs⟩ := z_ifo_some hs; obtain ⟨_, hs⟩ := z_ifo_some hs; exact same hs)
    | (obtain ⟨_, hs⟩ := z_ifo_some hs; exact same hs)
    | skip
  case iastore =>
    obtain ⟨_, _, _, _, -, hs⟩ := z_ias hs
    unfold z_sd at hs
    obtain ⟨_, hs⟩ := z_ifo_some hs
    obtain ⟨_, hs⟩ := z_ifo_some hs
    obtain ⟨_, hs⟩ := z_ifo_some hs
    exact shp hs
  case lastore =>
    obtain ⟨_, _, _, _, -, hs⟩ := z_las hs
    unfold z_sd at hs
    obtain ⟨_, hs⟩ := z_ifo_some hs
    obtain ⟨_, hs⟩ := z_ifo_some hs
    obtain ⟨_, hs⟩ := z_ifo_some hs
    exact shp hs
  case bastore =>
    obtain ⟨_, _, _, _, -, hs⟩ := z_bas hs
    unfold z_sd at hs
    obtain ⟨_, hs⟩ := z_ifo_some hs
    obtain ⟨_, hs⟩ := z_ifo_some hs
    obtain ⟨_, hs⟩ := z_ifo_some hs
    exact shp hs
  case invokestatic =>
    rcases z_nat_some hs with ⟨_, _, _, _, hs⟩ | ⟨_, _, _, _, hs⟩
    · obtain ⟨_, _, _, _, _, _, -, hs⟩ := z_ac_some hs
      obtain ⟨_, hs⟩ := z_ifo_some hs
      obtain ⟨_, hs⟩ := z_ifo_some hs
      obtain ⟨_, hs⟩ := z_ifo_some hs
      obtain ⟨_, hs⟩ := z_ifo_some hs
      exact shp hs
    · obtain ⟨_, _, _, -, hs⟩ := z_i2_some hs
      obtain ⟨_, hs⟩ := z_ifo_some hs
      exact same hs
  case invokespecial =>
    obtain ⟨_, _, _, _, hs⟩ := z_obj_some hs
    obtain ⟨_, _, _, hs⟩ := z_q1_some hs
    obtain ⟨_, hs⟩ := z_ifo_some hs
    exact same hs
  case newarray t =>
    obtain ⟨x, r, -, hs⟩ := z_i1_some hs
    cases hti : z_ati t with
    | none => rw [hti] at hs; cases hs
    | some ti =>
      rw [hti] at hs
      obtain ⟨-, hs⟩ := z_if_some hs
      subst hs
      dsimp only
      rw [z_len_al, z_slt_al]
      omega
  case multianewarray idx dm =>
    obtain ⟨x, y, r, -, hs⟩ := z_i2_some hs
    obtain ⟨-, hs⟩ := z_if_some hs
    subst hs
    dsimp only
    have h := z_als_mono (z_al μ 3 x.toNatClampNeg (fun j => .ref (μ.1.length + 1 + j))) y.toNatClampNeg x.toNatClampNeg
    rw [z_len_al, z_slt_al] at h
    omega
  case getfield idx =>
    obtain ⟨_, _, -, hs⟩ := z_q1_some hs
    split at hs
    · obtain ⟨_, hs⟩ := z_ifo_some hs
      exact same hs
    · cases hs
  case tableswitch =>
    obtain ⟨_, _, -, hs⟩ := z_i1_some hs
    split at hs
    · obtain ⟨_, hs⟩ := z_ifo_some hs
      exact same hs
    · cases hs
  all_goals
    simp only [z_step] at hs
    repeat' split at hs
  all_goals first
    | exact same hs
    | exact shp hs
    | (cases hs; done)
    | (cases hs; dsimp only; rw [z_len_al, z_slt_al]; omega)
/-- what a z_act is -/
theorem z_act_some {q : z_R} {pc : Nat} {L : zL} {st : List Value} {μ : zM} {o : zA} (h : z_act q pc L st μ = some o) : ∃ i len, (pc, i, len) ∈ (q.2.2.2.2.2.2.2.2.getD (pc / 32) []) ∧ (len == z_ln i || z_ln i == 0) = true ∧
    ((∃ cf, o = .inl cf ∧ z_step q.2.2.2.2.1 q.2.2.1 (q.1.name == "<init>") i pc L st μ = some cf) ∨
     (∃ v, o = .inr (.inl v) ∧ ((i = .return_ ∧ st = [] ∧ q.2.2.2.1 = none ∧ v = none) ∨ (∃ x ty, i = .ireturn ∧ st = [.int x] ∧ q.2.2.2.1 = some ty ∧ z_rty ty x = true ∧ v = some (.int x)) ∨ (∃ x, i = .lreturn ∧ st = [.long x] ∧ q.2.2.2.1 = some .long ∧ v = some (.long x)) ∨ ∃ a, i = .areturn ∧ st = [.ref a] ∧ ((∃ nm, q.2.2.2.1 = some (.object nm)) ∨ ∃ t, q.2.2.2.1 = some (.array t)) ∧ v = some (.ref a))) ∨
     (∃ idx, (i = .invokevirtual idx ∧ z_inv q.2.2.2.2.1 idx [1, 5] st μ = some o) ∨ (i = .invokestatic idx ∧ z_inv q.2.2.2.2.1 idx [0] st μ = some o) ∨ (i = .invokespecial idx ∧ z_inv q.2.2.2.2.1 idx [2, 3, 4] st μ = some o))) := by
  unfold z_act at h
  cases hf : (q.2.2.2.2.2.2.2.2.getD (pc / 32) []).find? (fun r => r.1 == pc) with
  | none => rw [hf] at h; cases h
  | some r =>
    obtain ⟨pc', i, len⟩ := r
    rw [hf] at h
    have h1 := List.mem_of_find?_eq_some hf
    have h2 := List.find?_some hf
    have h3 : pc' = pc := by simpa using h2
    subst h3
    have h4 := (z_ifo_some h).1
    replace h := (z_ifo_some h).2
    refine ⟨i, len, h1, h4, ?_⟩
    clear hf h1 h2 h4
    cases i
    case return_ =>
      dsimp only at h
      split at h
      · cases h
        exact Or.inr (Or.inl ⟨_, rfl, Or.inl ⟨rfl, rfl, by assumption, rfl⟩⟩)
      · cases h
    case ireturn =>
      dsimp only at h
      split at h
      · obtain ⟨h5, h⟩ := z_if_some h
        exact Or.inr (Or.inl ⟨_, h.symm, Or.inr (Or.inl ⟨_, _, rfl, rfl, by assumption, h5, rfl⟩)⟩)
      · cases h
    case lreturn =>
      dsimp only at h
      split at h
      · cases h
        exact Or.inr (Or.inl ⟨_, rfl, Or.inr (Or.inr (Or.inl ⟨_, rfl, rfl, by assumption, rfl⟩))⟩)
      · cases h
    case areturn =>
      dsimp only at h
      split at h
      · cases h
        exact Or.inr (Or.inl ⟨_, rfl, Or.inr (Or.inr (Or.inr ⟨_, rfl, rfl, Or.inl ⟨_, by assumption⟩, rfl⟩))⟩)
      · cases h
        exact Or.inr (Or.inl ⟨_, rfl, Or.inr (Or.inr (Or.inr ⟨_, rfl, rfl, Or.inr ⟨_, by assumption⟩, rfl⟩))⟩)
      · cases h
    case invokevirtual idx => exact Or.inr (Or.inr ⟨idx, Or.inl ⟨rfl, h⟩⟩)
    case invokestatic idx =>
      dsimp only at h
      split at h
      · cases h
        exact Or.inl ⟨_, rfl, by assumption⟩
      · exact Or.inr (Or.inr ⟨idx, Or.inr (Or.inl ⟨rfl, h⟩)⟩)
    case invokespecial idx =>
      dsimp only at h
      split at h
      · cases h
        exact Or.inl ⟨_, rfl, by assumption⟩
      · exact Or.inr (Or.inr ⟨idx, Or.inr (Or.inr ⟨rfl, h⟩)⟩)
    all_goals
      obtain ⟨cf, hcf, rfl⟩ := Option.map_eq_some_iff.mp h
      exact Or.inl ⟨cf, rfl, hcf⟩
theorem z_inv_some {w idx : Nat} {ks : List Nat} {st : List Value} {μ : zM} {o : zA} (h : z_inv w idx ks st μ = some o) : ∃ k j tg ps q As rest, z_lk z_ML w idx = some (k, j, tg, ps) ∧ k ∈ ks ∧ z_r j = some q ∧ o = .inr (.inr (j, As, rest)) ∧ z_cat rest ≤ 8 ∧ (lg_sl As).length ≤ q.2.2.1 ∧ q.2.2.1 ≤ 41 ∧
    ((k = 0 ∧ As.length = q.2.2.2.2.2.1 ∧ st = As.reverse ++ rest) ∨ (k ≠ 0 ∧ ∃ a Ps, As = .ref a :: Ps ∧ Ps.length = q.2.2.2.2.2.1 ∧ st = Ps.reverse ++ .ref a :: rest ∧ (tg = 0 ∨ z_tg μ a = tg))) := by
  unfold z_inv at h
  cases hl : z_lk z_ML w idx with
  | none => rw [hl] at h; cases h
  | some r =>
    obtain ⟨k, j, tg, ps⟩ := r
    rw [hl] at h
    obtain ⟨hk, h⟩ := z_ifo_some h
    cases hr : z_r j with
    | none => rw [hr] at h; cases h
    | some q =>
      rw [hr] at h
      dsimp only at h
      by_cases hlt : st.length < q.2.2.2.2.2.1
      · rw [if_pos hlt] at h; cases h
      · rw [if_neg hlt] at h
        have hle : (st.take q.2.2.2.2.2.1).length = q.2.2.2.2.2.1 := by rw [List.length_take]; omega
        by_cases hk0 : k = 0
        · rw [if_pos hk0] at h
          obtain ⟨⟨h1, h2, h3⟩, h⟩ := z_if_some h
          refine ⟨k, j, tg, ps, q, _, _, rfl, by simpa using hk, hr, h.symm, h1, h2, h3, Or.inl ⟨hk0, by rw [List.length_reverse]; exact hle, ?_⟩⟩
          rw [List.reverse_reverse, List.take_append_drop]
        · rw [if_neg hk0] at h
          cases hd : st.drop q.2.2.2.2.2.1 with
          | nil => rw [hd] at h; cases h
          | cons u r =>
            rw [hd] at h
            cases u with
            | ref a =>
              obtain ⟨⟨h1, h2, h3, h4⟩, h⟩ := z_if_some h
              refine ⟨k, j, tg, ps, q, _, _, rfl, by simpa using hk, hr, h.symm, h1, h2, h3, Or.inr ⟨hk0, a, _, rfl, by rw [List.length_reverse]; exact hle, ?_, h4⟩⟩
              rw [List.reverse_reverse, ← hd, List.take_append_drop]
            | _ => cases h
theorem z_exec_mono : ∀ (n d k pc : Nat) (L : zL) (st : List Value) (μ : zM) (o : Option Value × zM), z_exec n d k pc L st μ = some o → μ.1.length ≤ o.2.1.length ∧ z_slt μ ≤ z_slt o.2
  | 0, _, _, _, _, _, _, _, h => by cases h
  | n + 1, d, k, pc, L, st, μ, o, h => by
    unfold z_exec at h
    cases hm : z_mth k with
    | none => rw [hm] at h; cases h
    | some q =>
      rw [hm] at h
      dsimp only at h
      cases ha : z_act q pc L st μ with
      | none => rw [ha] at h; cases h
      | some a =>
        rw [ha] at h
        obtain ⟨i, len, -, -, hh⟩ := z_act_some ha
        rcases a with cf | v | cl
        · dsimp only at h
          rcases hh with ⟨cf', hcf, hs⟩ | ⟨v, hv, -⟩ | ⟨idx, hi⟩
          · cases hcf
            have h1 := z_step_mono hs
            have h2 := z_exec_mono n d k _ _ _ _ _ h
            omega
          · cases hv
          · rcases hi with ⟨-, hi⟩ | ⟨-, hi⟩ | ⟨-, hi⟩ <;> obtain ⟨_, _, _, _, _, _, _, -, -, -, ho, -⟩ := z_inv_some hi <;> cases ho
        · cases h
          exact ⟨Nat.le_refl _, Nat.le_refl _⟩
        · dsimp only at h
          cases d with
          | zero => cases h
          | succ d' =>
            dsimp only at h
            cases hc : z_exec n d' cl.1 0 (z_can cl.1 0 (lv_args 0 cl.2.1)) [] μ with
            | none => rw [hc] at h; cases h
            | some o1 =>
              rw [hc] at h
              have h1 := z_exec_mono n d' _ _ _ _ _ _ hc
              have h2 := z_exec_mono n (d' + 1) k _ _ _ _ _ h
              omega
theorem z_ML_m1 : ∀ w, w < z_nW → ∀ r ∈ z_ML.getD w [], (r.2.1 = 2 ∨ r.2.1 = 3) → (z_r r.2.2.1).any (fun q => decide (q.1.name = "<init>") && q.2.2.2.1.isNone) = true := by decide +kernel
theorem z_ML_m2 : ∀ w, w < z_nW → ∀ r ∈ z_ML.getD w [], r.2.1 = 1 → (decide (r.2.2.2.1 ≠ 0) && ((decide (r.2.2.2.1 = 9) && (z_r r.2.2.1).any (fun q => decide (q.1.cls = "java/lang/String"))) || (decide (10 ≤ r.2.2.2.1) && (decide (r.2.2.2.1 < 24) && (z_r r.2.2.1).any (fun q => decide (q.1.cls = (z_cl (r.2.2.2.1 - 10)).1)))))) = true := by decide +kernel
theorem z_ML_m3 : ∀ w, w < z_nW → ∀ r ∈ z_ML.getD w [], (r.2.1 = 4 ∨ r.2.1 = 5) → r.2.2.2.1 = 23 ∧ (z_r r.2.2.1).map (fun q => decide (q.1.name ≠ "<init>")) = some true := by decide +kernel
theorem z_cl13 : (z_cl 13).1 = "java/lang/StringBuilde\x72" := rfl
section ZCALL
variable {p : Program} {l : Launch} {e : Env} {R : Room} {s : State} {m : MethodId} {args : Array Value} {below : List Frame} {meth : Method} {c : Code} {H : Heap} {locs : List Loc} {cells slots : Nat} {Q : State → Prop}
variable {ls : Array Slot} {s0 : State} {D : va_G} {aT : Nat → ClassId} {ex : Nat → Nat} {q : z_R} {μ μ1 : zM}
abbrev z_Pc (s0 : State) (D : va_G) (ex : Nat → Nat) (As : List Value) (μ : zM) : Array Value → State → Prop := va_Pc (As.map (z_tr (z_f s0.heap.size ex))) (fun U => z_rep s0 D ex μ U.heap ∧ z_K s0 ex U)
abbrev z_Qc (s0 : State) (D : va_G) (ex : Nat → Nat) (v : Option Value) (μ : zM) : Array Value → State → Outcome → State → Prop := fun _ _ o t => o = .returned (v.map (z_tr (z_f s0.heap.size ex))) ∧ z_rep s0 D ex μ t.heap
abbrev z_rm (d : Nat) (μ μ' : zM) : Room := { frames := d + 2, cells := μ'.1.length - μ.1.length, slots := z_slt μ' - z_slt μ, locals := 60 * (d + 2) }
def z_Met (l : Launch) (s0 : State) (D : va_G) (ex : Nat → Nat) (d : Nat) (q : z_R) (As : List Value) (μ : zM) (v : Option Value) (μ' : zM) : Prop :=
  Met l q.1 (z_ws q) (z_rm d μ μ') (z_Pc s0 D ex As μ) (z_Qc s0 D ex v μ') (μ'.1.length - μ.1.length) (z_slt μ' - z_slt μ) (z_old s0)
theorem z_blind (As : List Value) : FrameBlind (z_Pc s0 D ex As μ) := fun a U g mk h => ⟨h.1, h.2.1, z_K.same (u := U) rfl h.2.2⟩
theorem z_recv (hB : z_B p s0 s ex m args meth c q) (hG : z_G s0 D aT ex) (hM : z_rep s0 D ex μ H) {a tg : Nat} {C : String} (ha : z_tg μ a = tg) (hC : (tg = 9 ∧ C = "java/lang/String") ∨ (10 ≤ tg ∧ tg < 24 ∧ C = (z_cl (tg - 10)).1)) : ∃ cellB : Cell, H[z_f s0.heap.size ex a]? = some cellB ∧ cellB.vm.isStatics = false ∧ s.vm.findClass C = some cellB.cls := by
  have hK := z_known hB hG
  have hal := hB.2.2.2.2.2.2.2.1.1
  rcases hC with ⟨rfl, rfl⟩ | ⟨h1, h2, rfl⟩
  · obtain ⟨-, -, cellB, g1, g2, g3⟩ := (hM.2.2.2 a _ _ (z_tgn ha (by omega))).2.2.1 rfl
    exact ⟨cellB, by rw [hM.2.2.1 _ (Array.getElem?_eq_some_iff.mp g1).1]; exact g1, g2, by rw [hal.findClass]; exact g3⟩
  · obtain ⟨-, cellB, g1, g2, g3, -⟩ := (hM.2.2.2 a _ _ (z_tgn ha (by omega))).2.2.2 h1
    obtain ⟨-, hfc, -⟩ := hK.1 (tg - 10) _ (z_cl_in (by omega))
    exact ⟨cellB, g1, by rw [g3]; rfl, by rw [g2]; exact hfc⟩
set_option maxHeartbeats 4000000 in
/-- a call: the callee's contract, and what goes on -/
theorem z_call_ok (hB : z_B p s0 s ex m args meth c q) (hG : z_G s0 D aT ex) (hM : z_rep s0 D ex μ H) (hlo : ∀ x ∈ locs, s0.heap.size ≤ x.base) {pc d idx : Nat} {i : Instr} {ks : List Nat} {st : List Value} {j : Nat} {As rest : List Value} {v : Option Value} (hsz : ls.size = q.2.2.1)
    (hi : (i = .invokevirtual idx ∧ ks = [1, 5]) ∨ (i = .invokestatic idx ∧ ks = [0]) ∨ (i = .invokespecial idx ∧ ks = [2, 3, 4])) (hd : decode q.2.1 pc = .ok (i, 3)) (hinv : z_inv q.2.2.2.2.1 idx ks st μ = some (.inr (.inr (j, As, rest))))
    (hMet : ∀ q', z_r j = some q' → z_Met l s0 D ex d q' As μ v μ1) (hfr : d + 3 ≤ R.frames) (hlc : 60 * (d + 3) ≤ R.locals) (hc1 : cells + (μ1.1.length - μ.1.length) ≤ R.cells) (hc2 : slots + (z_slt μ1 - z_slt μ) ≤ R.slots)
    (kk : ∀ (H' : Heap) (locs' : List Loc), z_rep s0 D ex μ1 H' → (∀ x ∈ locs', s0.heap.size ≤ x.base) → W p l e R s m args below meth c H' locs' (cells + (μ1.1.length - μ.1.length)) (slots + (z_slt μ1 - z_slt μ)) Q (F0 m (pc + 3) ls ((v.toList ++ rest).map (z_tr (z_f s0.heap.size ex))))) :
    W p l e R s m args below meth c H locs cells slots Q (F0 m pc ls (st.map (z_tr (z_f s0.heap.size ex)))) := by
  obtain ⟨hw, hwo⟩ := z_own_lt hB.2.2.2.2.2.2.2.2.2.2
  obtain ⟨k, j', tg, ps, q', As', rest', hlk, hks, hr, ho, hcat, hlg, hml41, hcase⟩ := z_inv_some hinv
  simp only [Sum.inr.injEq, Prod.mk.injEq] at ho
  obtain ⟨rfl, rfl, rfl⟩ := ho
  have hM1 := hMet q' hr
  have hok := z_okr hr
  obtain ⟨hcw, hiw⟩ := z_code_in hr
  have hgi := z_goodIn hr
  obtain ⟨-, -, -, ⟨hn1, hn2, hn3⟩, -, -⟩ := hok
  have m1 := z_ML_m1 _ hw _ (z_lk_some hlk)
  have m2 := z_ML_m2 _ hw _ (z_lk_some hlk)
  have m3 := z_ML_m3 _ hw _ (z_lk_some hlk)
  have g1 := z_ML_ok _ hw _ (z_lk_some hlk)
  dsimp only at m1 m2 m3
  rw [hr] at m1 m2 m3
  simp only [Option.map_some, Option.some.injEq, Option.any_some, Bool.and_eq_true, Bool.or_eq_true, decide_eq_true_eq, Option.isNone_iff_eq_none] at m1 m2 m3
  have hB0 := hB
  obtain ⟨hx, hb, hml, -, -, hown, hts, hZ, -⟩ := hB
  have S : CallFix p m c q.2.1 q.2.2.1 s args zBIG q.1.cls := ⟨hx, hb, hml, hown, hts⟩
  have hlen : ∀ sig, parseMethodDescriptor q'.1.desc = some sig → q'.2.2.2.2.2.1 = sig.parameters.length := by
    intro sig h
    rw [h] at hn3
    exact (Option.some.inj hn3).symm
  have pay := pay_in hts hgi
  have hcm : Cond.code q'.1 q'.2.1 q'.2.2.1 q'.2.2.2.1 ∈ z_ws q' := List.mem_cons_self
  have hU : ∀ U : State, U.heap = H → s.WarmedH U.vm → z_rep s0 D ex μ U.heap ∧ z_K s0 ex U := fun U hU hW => ⟨by rw [hU]; exact hM, hZ.warm hW⟩
  have hcs : ((rest.map (z_tr (z_f s0.heap.size ex))).map fun v => v.category).sum ≤ 8 := by rw [z_trsum]; exact hcat
  have hWr : 2 * (F0 m pc ls (st.map (z_tr (z_f s0.heap.size ex)))).monitorRoom + ((rest.map (z_tr (z_f s0.heap.size ex))).map fun v => v.category).sum ≤ 8 := by
    show 2 * 0 + _ ≤ 8
    omega
  have go : ∀ {a : Array Value}, va_Run p l e R s m args below meth c H locs cells slots (μ1.1.length - μ.1.length) (z_slt μ1 - z_slt μ) (F0 m pc ls (st.map (z_tr (z_f s0.heap.size ex)))) (rest.map (z_tr (z_f s0.heap.size ex))) (z_Qc s0 D ex v μ1 a) (z_old s0) → W p l e R s m args below meth c H locs cells slots Q (F0 m pc ls (st.map (z_tr (z_f s0.heap.size ex)))) := by
    intro a hrun
    refine z_callk hrun (fun v' u t H1 L _ hq ht hL => ?_)
    obtain ⟨h1, h2⟩ := hq
    cases h1
    rw [ht] at h2
    have := kk H1 (locs ++ L) h2 (fun x hx => by
      rcases List.mem_append.mp hx with h | h
      · exact hlo x h
      · exact hL x h)
    cases v with
    | none => exact this
    | some v => exact this
  have hfit : (z_rm d μ μ1).frames + 1 ≤ R.frames ∧ 8 + (q'.2.2.1 + 11) + (z_rm d μ μ1).locals ≤ R.locals := by
    refine ⟨hfr, ?_⟩
    show 8 + (q'.2.2.1 + 11) + 60 * (d + 2) ≤ R.locals
    omega
  rcases hcase with ⟨hk0, hAl, hst⟩ | ⟨hk0, a, Ps, rfl, hPl, hst, htg⟩
  · subst hk0
    rcases hi with ⟨rfl, rfl⟩ | ⟨rfl, rfl⟩ | ⟨rfl, rfl⟩
    · simp at hks
    · have g2 : z_MLw q.2.2.2.2.1 (idx, 0, j, tg, ps) = [.methodLink q.1.cls idx q'.1, .static q'.1] := by
        unfold z_MLw
        dsimp only
        rw [hr, hwo]
        rfl
      rw [g2] at g1
      have g3 := z_words g1 (by intro w hw; simp at hw; rcases hw with rfl | rfl <;> rfl)
      refine go (a := (As.map (z_tr (z_f s0.heap.size ex))).toArray) (va_runS (n := q'.2.2.2.2.2.1) S hM1 ⟨⟨rfl, rfl, hfit.1, hfit.2, pay, hcm, hts _ hcw, hts _ hiw, ⟨hn1, hn2⟩, hlen, hts _ (g3 _ (by simp))⟩, hts _ (g3 _ (by simp))⟩ ⟨z_blind As, fun U hU' hW => ⟨rfl, hU U hU' hW⟩⟩ rfl (by rw [List.length_map]; exact hAl) hsz ?_ hWr hd ⟨hc1, hc2⟩)
      show st.map _ = _
      rw [hst, List.map_append, List.map_reverse]
    · simp at hks
  · have hst' : (F0 m pc ls (st.map (z_tr (z_f s0.heap.size ex)))).stack = (Ps.map (z_tr (z_f s0.heap.size ex))).reverse ++ .ref (z_f s0.heap.size ex a) :: rest.map (z_tr (z_f s0.heap.size ex)) := by
      show st.map _ = _
      rw [hst, List.map_append, List.map_reverse]
      rfl
    have hPl' : (Ps.map (z_tr (z_f s0.heap.size ex))).length = q'.2.2.2.2.2.1 := by rw [List.length_map]; exact hPl
    rcases hi with ⟨rfl, rfl⟩ | ⟨rfl, rfl⟩ | ⟨rfl, rfl⟩
    · simp only [List.mem_cons, List.not_mem_nil, or_false] at hks
      rcases hks with rfl | rfl
      · have g2 : z_MLw q.2.2.2.2.1 (idx, 1, j, tg, ps) = [.methodLink q.1.cls idx q'.1, .selects q'.1.cls q'.1 q'.1, .instanceMethod q'.1] := by
          unfold z_MLw
          dsimp only
          rw [hr, hwo]
          rfl
        rw [g2] at g1
        have g3 := z_words g1 (by intro w hw; simp at hw; rcases hw with rfl | rfl | rfl <;> rfl)
        obtain ⟨n1, n2⟩ := m2 rfl
        have hrc := z_recv hB0 hG hM (C := q'.1.cls) (htg.resolve_left n1) n2
        exact go (a := (Value.ref (z_f s0.heap.size ex a) :: Ps.map (z_tr (z_f s0.heap.size ex))).toArray) (va_runV (C := q'.1.cls) (n := q'.2.2.2.2.2.1) S hM1 ⟨⟨rfl, rfl, hfit.1, hfit.2, pay, hcm, hts _ hcw, hts _ hiw, ⟨hn1, hn2⟩, hlen, hts _ (g3 _ (by simp))⟩, hts _ (g3 _ (by simp)), hts _ (g3 _ (by simp))⟩ ⟨z_blind _, hrc, fun U hU' hW => ⟨rfl, hU U hU' hW⟩⟩ rfl hPl' hsz hst' hWr hd ⟨hc1, hc2⟩)
      · have g2 : z_MLw q.2.2.2.2.1 (idx, 5, j, tg, ps) = [.methodLink q.1.cls idx q'.1, .sameMethod q'.1.cls q'.1.cls q'.1.name q'.1.desc, .selects "java/lang/StringBuilde\x72" q'.1 q'.1, .instanceMethod q'.1] := by
          unfold z_MLw
          dsimp only
          rw [hr, hwo]
          rfl
        rw [g2] at g1
        have g3 := z_words g1 (by intro w hw; simp at hw; rcases hw with rfl | rfl | rfl | rfl <;> rfl)
        obtain ⟨n1, n2⟩ := m3 (Or.inr rfl)
        have hrc := z_recv hB0 hG hM (C := "java/lang/StringBuilde\x72") (htg.resolve_left (by omega)) (Or.inr ⟨by omega, by omega, by rw [n1]; exact z_cl13.symm⟩)
        exact go (a := (Value.ref (z_f s0.heap.size ex a) :: Ps.map (z_tr (z_f s0.heap.size ex))).toArray) (va_runU (C := "java/lang/StringBuilde\x72") (owner := q'.1.cls) (x := q'.1) (n := q'.2.2.2.2.2.1) S hM1 ⟨⟨rfl, rfl, hfit.1, hfit.2, pay, hcm⟩, hts _ hcw, hts _ hiw, ⟨hn1, hn2⟩, hlen, hts _ (g3 _ (by simp)), hts _ (g3 _ (by simp)), va_Decl.of (hts _ (g3 (.instanceMethod q'.1) (by simp))) (hts _ hcw), hts _ (g3 _ (by simp)), hts _ (g3 _ (by simp))⟩ ⟨z_blind _, hrc, fun U hU' hW => ⟨rfl, hU U hU' hW⟩⟩ rfl hPl' hsz hst' hWr hd ⟨hc1, hc2⟩)
    · simp only [List.mem_cons, List.not_mem_nil, or_false] at hks
      exact absurd hks hk0
    · simp only [List.mem_cons, List.not_mem_nil, or_false] at hks
      rcases hks with rfl | rfl | rfl
      · have g2 : z_MLw q.2.2.2.2.1 (idx, 2, j, tg, ps) = [.methodLink q.1.cls idx q'.1, .instanceMethod q'.1] := by
          unfold z_MLw
          dsimp only
          rw [hr, hwo]
          rfl
        rw [g2] at g1
        have g3 := z_words g1 (by intro w hw; simp at hw; rcases hw with rfl | rfl <;> rfl)
        obtain ⟨n1, n2⟩ := m1 (Or.inl rfl)
        rw [n2] at hcm hcw
        exact go (a := (Value.ref (z_f s0.heap.size ex a) :: Ps.map (z_tr (z_f s0.heap.size ex))).toArray) (va_runI (n := q'.2.2.2.2.2.1) S hM1 ⟨⟨rfl, rfl, hfit.1, hfit.2, pay, hcm, hts _ hcw, hts _ hiw, ⟨hn1, hn2⟩, hlen, hts _ (g3 _ (by simp))⟩, n1, hts _ (g3 _ (by simp))⟩ ⟨z_blind _, fun U hU' hW => ⟨rfl, hU U hU' hW⟩⟩ rfl hPl' hsz hst' hWr hd ⟨hc1, hc2⟩)
      · have g2 : z_MLw q.2.2.2.2.1 (idx, 3, j, tg, ps) = [.methodLinkNest q.1.cls idx q'.1 "RangeAnswers", .instanceMethod q'.1] := by
          unfold z_MLw
          dsimp only
          rw [hr, hwo]
          rfl
        rw [g2] at g1
        obtain ⟨n1, n2⟩ := m1 (Or.inr rfl)
        rw [n2] at hcm hcw
        obtain ⟨w1, w2, rfl⟩ : ∃ w1 w2, ps = [w1, w2] := by
          have := congrArg List.length g1
          match ps, this with
          | [a, b], _ => exact ⟨a, b, rfl⟩
        simp only [List.map_cons, List.map_nil, List.cons.injEq, and_true] at g1
        have hnest : Cond.methodLinkNest q.1.cls idx q'.1 "RangeAnswers" ∈ lw_tbl := by
          rcases List.mem_append.mp (z_w_tbl g1.1) with h | h
          · exact h
          · obtain ⟨y, -, hy⟩ := List.mem_map.mp h
            cases hy
        have hi2 := hts _ (z_w_in g1.2 rfl)
        exact go (a := (Value.ref (z_f s0.heap.size ex a) :: Ps.map (z_tr (z_f s0.heap.size ex))).toArray) (va_runIN (host := "RangeAnswers") (n := q'.2.2.2.2.2.1) S hM1 ⟨⟨⟨rfl, rfl, hfit.1, hfit.2, pay, hcm⟩, hts _ hcw, hts _ hiw, ⟨hn1, hn2⟩, hlen, va_Nw.use rfl (hZ.2.2 _ _ _ _ hnest)⟩, n1, hi2⟩ ⟨z_blind _, fun U hU' hW => ⟨rfl, hU U hU' hW⟩⟩ rfl hPl' hsz hst' hWr hd ⟨hc1, hc2⟩)
      · have g2 : z_MLw q.2.2.2.2.1 (idx, 4, j, tg, ps) = [.methodLink q.1.cls idx q'.1, .sameMethod q'.1.cls q'.1.cls q'.1.name q'.1.desc, .superclass q.1.cls q'.1.cls, .instanceMethod q'.1] := by
          unfold z_MLw
          dsimp only
          rw [hr, hwo]
          rfl
        rw [g2] at g1
        have g3 := z_words g1 (by intro w hw; simp at hw; rcases hw with rfl | rfl | rfl | rfl <;> rfl)
        obtain ⟨n1, n2⟩ := m3 (Or.inl rfl)
        have hrc := z_recv hB0 hG hM (C := "java/lang/StringBuilde\x72") (htg.resolve_left (by omega)) (Or.inr ⟨by omega, by omega, by rw [n1]; exact z_cl13.symm⟩)
        have hat := (z_known hB0 hG).1 13 _ (z_cl_in (by omega))
        exact go (a := (Value.ref (z_f s0.heap.size ex a) :: Ps.map (z_tr (z_f s0.heap.size ex))).toArray) (va_runSU (C := "java/lang/StringBuilde\x72") (n := q'.2.2.2.2.2.1) hat.2 S hM1 ⟨⟨rfl, rfl, hfit.1, hfit.2, pay, hcm⟩, hts _ (g3 _ (by simp)), hts _ (g3 _ (by simp)), hts _ (g3 _ (by simp)), hts _ (g3 _ (by simp)), hts _ hiw, hts _ hcw, by simpa using n2, hlen⟩ ⟨z_blind _, hrc, fun U hU' hW => ⟨rfl, hU U hU' hW⟩⟩ rfl hPl' hsz hst' hWr hd ⟨hc1, hc2⟩)
end ZCALL
