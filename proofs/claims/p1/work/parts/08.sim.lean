/-! THE MINI MACHINE'S RUNS ARE THE MACHINE'S -/
theorem z_als_mono (μ : zM) (k : Nat) : ∀ n, μ.1.length ≤ (z_als μ n k).1.length ∧ z_slt μ ≤ z_slt (z_als μ n k)
  | 0 => ⟨Nat.le_refl _, Nat.le_refl _⟩
  | n + 1 => by
    have h := z_als_mono μ k n
    have h1 := z_len_al (z_als μ n k) 1 k (fun _ => .long 0)
    have h2 := z_slt_al (z_als μ n k) 1 k (fun _ => .long 0)
    show μ.1.length ≤ (z_al (z_als μ n k) 1 k (fun _ => .long 0)).1.length ∧ z_slt μ ≤ z_slt (z_al (z_als μ n k) 1 k (fun _ => .long 0))
    omega
set_option maxHeartbeats 4000000 in
theorem z_step_mono {w nL pc : Nat} {isI : Bool} {i : Instr} {L : zL} {st : List Value} {μ : zM} {o : zC} (hs : z_step w nL isI i pc L st μ = some o) : μ.1.length ≤ o.2.2.2.1.length ∧ z_slt μ ≤ z_slt o.2.2.2 := by
  have same : ∀ {a : Nat} {b : zL} {d : List Value}, some (a, b, d, μ) = some o → μ.1.length ≤ o.2.2.2.1.length ∧ z_slt μ ≤ z_slt o.2.2.2 := by
    intro a b d h
    cases h
    exact ⟨Nat.le_refl _, Nat.le_refl _⟩
  have shp : ∀ {a : Nat} {b : zL} {d : List Value} {m' : Nat → Nat → Value}, some (a, b, d, (μ.1, m')) = some o → μ.1.length ≤ o.2.2.2.1.length ∧ z_slt μ ≤ z_slt o.2.2.2 := by
    intro a b d m' h
    cases h
    exact ⟨Nat.le_refl _, Nat.le_refl _⟩
  cases i
  all_goals first
    | exact absurd (show (none : Option zC) = some o from hs) (by simp)
    | exact same hs
    | (obtain ⟨_, _, hs⟩ := z_gi_some hs; first | exact same hs | (obtain ⟨_, hs⟩ := z_ifo_some hs; exact same hs))
    | (obtain ⟨_, _, hs⟩ := z_gl_some hs; exact same hs)
    | (obtain ⟨_, _, hs⟩ := z_gr_some hs; exact same hs)
    | (obtain ⟨_, _, _, hs⟩ := z_i1_some hs; first | exact same hs | (obtain ⟨_, hs⟩ := z_ifo_some hs; exact same hs))
    | (obtain ⟨_, _, _, hs⟩ := z_l1_some hs; first | exact same hs | (obtain ⟨_, hs⟩ := z_ifo_some hs; exact same hs))
    | (obtain ⟨_, _, _, hs⟩ := z_q1_some hs; first | exact same hs | (obtain ⟨_, hs⟩ := z_ifo_some hs; exact same hs))
    | (obtain ⟨_, _, _, _, hs⟩ := z_i2_some hs; first | exact same hs | (obtain ⟨_, hs⟩ := z_ifo_some hs; exact same hs) | (obtain ⟨_, hs⟩ := z_ifn_some hs; exact same (congrArg some hs)))
    | (obtain ⟨_, _, _, _, hs⟩ := z_l2_some hs; first | exact same hs | (obtain ⟨_, hs⟩ := z_ifo_some hs; exact same hs) | (obtain ⟨_, hs⟩ := z_ifn_some hs; exact same (congrArg some hs)))
    | (obtain ⟨_, _, _, _, hs⟩ := z_li_some hs; exact same hs)
    | (obtain ⟨_, _, _, _, hs⟩ := z_ri_some hs; unfold z_ld at hs; obtain ⟨_, hs⟩ := z_ifo_some hs; obtain ⟨_, hs⟩ := z_ifo_some hs; exact same hs)
    | (obtain ⟨_, hs⟩ := z_ifo_some hs; exact same hs)
    | skip
  case iastore =>
    obtain ⟨_, _, _, _, rfl, hs⟩ := z_ias hs
    unfold z_sd at hs
    obtain ⟨_, hs⟩ := z_ifo_some hs
    obtain ⟨_, hs⟩ := z_ifo_some hs
    obtain ⟨_, hs⟩ := z_ifo_some hs
    exact shp hs
  case lastore =>
    obtain ⟨_, _, _, _, rfl, hs⟩ := z_las hs
    unfold z_sd at hs
    obtain ⟨_, hs⟩ := z_ifo_some hs
    obtain ⟨_, hs⟩ := z_ifo_some hs
    obtain ⟨_, hs⟩ := z_ifo_some hs
    exact shp hs
  case bastore =>
    obtain ⟨_, _, _, _, rfl, hs⟩ := z_bas hs
    unfold z_sd at hs
    obtain ⟨_, hs⟩ := z_ifo_some hs
    obtain ⟨_, hs⟩ := z_ifo_some hs
    obtain ⟨_, hs⟩ := z_ifo_some hs
    exact shp hs
  case invokestatic =>
    obtain ⟨_, _, _, _, hs⟩ := z_nat_some hs
    obtain ⟨_, _, _, _, _, _, rfl, hs⟩ := z_ac_some hs
    obtain ⟨_, hs⟩ := z_ifo_some hs
    obtain ⟨_, hs⟩ := z_ifo_some hs
    obtain ⟨_, hs⟩ := z_ifo_some hs
    obtain ⟨_, hs⟩ := z_ifo_some hs
    exact shp hs
  case invokespecial =>
    obtain ⟨_, _, _, _, hs⟩ := z_obj_some hs
    obtain ⟨_, _, _, hs⟩ := z_q1_some hs
    obtain ⟨_, hs⟩ := z_ifo_some hs
    exact same hs
  case newarray t =>
    obtain ⟨x, r, rfl, hs⟩ := z_i1_some hs
    cases hti : z_ati t with
    | none => rw [hti] at hs; cases hs
    | some ti =>
      rw [hti] at hs
      obtain ⟨-, hs⟩ := z_if_some hs
      subst hs
      dsimp only
      rw [z_len_al, z_slt_al]
      omega
  case multianewarray idx dm =>
    obtain ⟨x, y, r, rfl, hs⟩ := z_i2_some hs
    obtain ⟨-, hs⟩ := z_if_some hs
    subst hs
    dsimp only
    have h := z_als_mono (z_al μ 3 x.toNatClampNeg (fun j => .ref (μ.1.length + 1 + j))) y.toNatClampNeg x.toNatClampNeg
    rw [z_len_al, z_slt_al] at h
    omega
  all_goals
    simp only [z_step] at hs
    repeat' split at hs
  all_goals first
    | exact same hs
    | exact shp hs
    | (exact absurd hs (by simp))
    | (cases hs; dsimp only; rw [z_len_al, z_slt_al]; omega)
    | (obtain ⟨_, _, _, hs⟩ := z_i1_some hs; repeat' split at hs)
    | (obtain ⟨_, _, _, hs⟩ := z_q1_some hs; repeat' split at hs)
  all_goals first
    | exact same hs
    | (exact absurd hs (by simp))
/-- what a z_act is -/
theorem z_act_some {q : z_R} {pc : Nat} {L : zL} {st : List Value} {μ : zM} {o : zA} (h : z_act q pc L st μ = some o) : ∃ i len, (pc, i, len) ∈ (q.2.2.2.2.2.2.2.2.getD (pc / 32) []) ∧ (len == z_ln i || z_ln i == 0) = true ∧
    ((∃ cf, o = .inl cf ∧ z_step q.2.2.2.2.1 q.2.2.1 (q.1.name == "<init>") i pc L st μ = some cf) ∨
     (∃ v, o = .inr (.inl v) ∧ ((i = .return_ ∧ st = [] ∧ q.2.2.2.1 = none ∧ v = none) ∨ (∃ x ty, i = .ireturn ∧ st = [.int x] ∧ q.2.2.2.1 = some ty ∧ z_rty ty x = true ∧ v = some (.int x)) ∨ (∃ x, i = .lreturn ∧ st = [.long x] ∧ q.2.2.2.1 = some .long ∧ v = some (.long x)) ∨ ∃ a, i = .areturn ∧ st = [.ref a] ∧ ((∃ nm, q.2.2.2.1 = some (.object nm)) ∨ ∃ t, q.2.2.2.1 = some (.array t)) ∧ v = some (.ref a))) ∨
     (∃ idx, (i = .invokevirtual idx ∧ z_inv q.2.2.2.2.1 idx [1, 5] st μ = some o) ∨ (i = .invokestatic idx ∧ z_inv q.2.2.2.2.1 idx [0] st μ = some o) ∨ (i = .invokespecial idx ∧ z_inv q.2.2.2.2.1 idx [2, 3, 4] st μ = some o))) := by
  unfold z_act at h
  cases hf : (q.2.2.2.2.2.2.2.2.getD (pc / 32) []).find? (fun r => r.1 == pc) with
  | none => rw [hf] at h; cases h
  | some r =>
    obtain ⟨pc', i, len⟩ := r
    rw [hf] at h
    have h1 := List.mem_of_find?_eq_some hf
    have h2 := List.find?_some hf
    have h3 : pc' = pc := by simpa using h2
    subst h3
    obtain ⟨h4, h⟩ := z_ifo_some h
    refine ⟨i, len, h1, h4, ?_⟩
    clear hf h1 h2 h4
    cases i
    case return_ =>
      dsimp only at h
      split at h
      · cases h
        exact Or.inr (Or.inl ⟨_, rfl, Or.inl ⟨rfl, rfl, by assumption, rfl⟩⟩)
      · cases h
    case ireturn =>
      dsimp only at h
      split at h
      · obtain ⟨h5, h⟩ := z_if_some h
        exact Or.inr (Or.inl ⟨_, h.symm, Or.inr (Or.inl ⟨_, _, rfl, rfl, by assumption, h5, rfl⟩)⟩)
      · cases h
    case lreturn =>
      dsimp only at h
      split at h
      · cases h
        exact Or.inr (Or.inl ⟨_, rfl, Or.inr (Or.inr (Or.inl ⟨_, rfl, rfl, by assumption, rfl⟩))⟩)
      · cases h
    case areturn =>
      dsimp only at h
      split at h
      · cases h
        exact Or.inr (Or.inl ⟨_, rfl, Or.inr (Or.inr (Or.inr ⟨_, rfl, rfl, Or.inl ⟨_, by assumption⟩, rfl⟩))⟩)
      · cases h
        exact Or.inr (Or.inl ⟨_, rfl, Or.inr (Or.inr (Or.inr ⟨_, rfl, rfl, Or.inr ⟨_, by assumption⟩, rfl⟩))⟩)
      · cases h
    case invokevirtual idx => exact Or.inr (Or.inr ⟨idx, Or.inl ⟨rfl, h⟩⟩)
    case invokestatic idx =>
      dsimp only at h
      split at h
      · cases h
        exact Or.inl ⟨_, rfl, by assumption⟩
      · exact Or.inr (Or.inr ⟨idx, Or.inr (Or.inl ⟨rfl, h⟩)⟩)
    case invokespecial idx =>
      dsimp only at h
      split at h
      · cases h
        exact Or.inl ⟨_, rfl, by assumption⟩
      · exact Or.inr (Or.inr ⟨idx, Or.inr (Or.inr ⟨rfl, h⟩)⟩)
    all_goals
      obtain ⟨cf, hcf, rfl⟩ := Option.map_eq_some_iff.mp h
      exact Or.inl ⟨cf, rfl, hcf⟩
theorem z_inv_some {w idx : Nat} {ks : List Nat} {st : List Value} {μ : zM} {o : zA} (h : z_inv w idx ks st μ = some o) : ∃ k j tg ps q As rest, z_lk z_ML w idx = some (k, j, tg, ps) ∧ k ∈ ks ∧ z_r j = some q ∧ o = .inr (.inr (j, As, rest)) ∧ z_cat rest ≤ 8 ∧ (lg_sl As).length ≤ q.2.2.1 ∧ q.2.2.1 ≤ 41 ∧
    ((k = 0 ∧ As.length = q.2.2.2.2.2.1 ∧ st = As.reverse ++ rest) ∨ (k ≠ 0 ∧ ∃ a Ps, As = .ref a :: Ps ∧ Ps.length = q.2.2.2.2.2.1 ∧ st = Ps.reverse ++ .ref a :: rest ∧ (tg = 0 ∨ z_tg μ a = tg))) := by
  unfold z_inv at h
  cases hl : z_lk z_ML w idx with
  | none => rw [hl] at h; cases h
  | some r =>
    obtain ⟨k, j, tg, ps⟩ := r
    rw [hl] at h
    obtain ⟨hk, h⟩ := z_ifo_some h
    cases hr : z_r j with
    | none => rw [hr] at h; cases h
    | some q =>
      rw [hr] at h
      dsimp only at h
      by_cases hlt : st.length < q.2.2.2.2.2.1
      · rw [if_pos hlt] at h; cases h
      · rw [if_neg hlt] at h
        have hle : (st.take q.2.2.2.2.2.1).length = q.2.2.2.2.2.1 := by rw [List.length_take]; omega
        by_cases hk0 : k = 0
        · rw [if_pos hk0] at h
          obtain ⟨⟨h1, h2, h3⟩, h⟩ := z_if_some h
          refine ⟨k, j, tg, ps, q, _, _, rfl, by simpa using hk, rfl, h.symm, h1, h2, h3, Or.inl ⟨hk0, by rw [List.length_reverse]; exact hle, ?_⟩⟩
          rw [List.reverse_reverse, List.take_append_drop]
        · rw [if_neg hk0] at h
          cases hd : st.drop q.2.2.2.2.2.1 with
          | nil => rw [hd] at h; cases h
          | cons u r =>
            rw [hd] at h
            cases u with
            | ref a =>
              obtain ⟨⟨h1, h2, h3, h4⟩, h⟩ := z_if_some h
              refine ⟨k, j, tg, ps, q, _, _, rfl, by simpa using hk, rfl, h.symm, h1, h2, h3, Or.inr ⟨hk0, a, _, rfl, by rw [List.length_reverse]; exact hle, ?_, h4⟩⟩
              rw [List.reverse_reverse, ← hd, List.take_append_drop]
            | _ => cases h
theorem z_exec_mono : ∀ (n d k pc : Nat) (L : zL) (st : List Value) (μ : zM) (o : Option Value × zM), z_exec n d k pc L st μ = some o → μ.1.length ≤ o.2.1.length ∧ z_slt μ ≤ z_slt o.2
  | 0, _, _, _, _, _, _, _, h => by cases h
  | n + 1, d, k, pc, L, st, μ, o, h => by
    unfold z_exec at h
    cases hm : z_mth k with
    | none => rw [hm] at h; cases h
    | some q =>
      rw [hm] at h
      dsimp only at h
      cases ha : z_act q pc L st μ with
      | none => rw [ha] at h; cases h
      | some a =>
        rw [ha] at h
        obtain ⟨i, len, -, -, hh⟩ := z_act_some ha
        rcases a with cf | v | cl
        · dsimp only at h
          rcases hh with ⟨cf', hcf, hs⟩ | ⟨v, hv, -⟩ | ⟨idx, hi⟩
          · cases hcf
            have h1 := z_step_mono hs
            have h2 := z_exec_mono n d k _ _ _ _ _ h
            omega
          · cases hv
          · rcases hi with ⟨-, hi⟩ | ⟨-, hi⟩ | ⟨-, hi⟩ <;> obtain ⟨_, _, _, _, _, _, _, -, -, -, ho, -⟩ := z_inv_some hi <;> cases ho
        · cases h
          exact ⟨Nat.le_refl _, Nat.le_refl _⟩
        · dsimp only at h
          cases d with
          | zero => cases h
          | succ d' =>
            dsimp only at h
            cases hc : z_exec n d' cl.1 0 (lv_args 0 cl.2.1) [] μ with
            | none => rw [hc] at h; cases h
            | some o1 =>
              rw [hc] at h
              have h1 := z_exec_mono n d' _ _ _ _ _ _ hc
              have h2 := z_exec_mono n (d' + 1) k _ _ _ _ _ h
              omega
