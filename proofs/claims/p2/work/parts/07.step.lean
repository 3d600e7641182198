/-! ONE STEP of the mini machine is one step of the machine -/
theorem z_to_ok {pc : Nat} {off : Int} (h : z_fw pc off = true) : (pc : Int) + off = (z_to pc off : Int) := by
  unfold z_fw at h
  unfold z_to
  have := of_decide_eq_true h
  omega
theorem z_dec_ok : ∀ w, w < 13 → ∀ k, k < (z_cl w).2.2 → ((z_cl w).2.1 k).1 = z_own.getD w "" := by decide +kernel
theorem z_SL_ok : ∀ w, w < z_nW → ∀ r ∈ z_SL.getD w [], 1 ≤ r.2 ∧ r.2 < 19 ∧ (z_strs[r.2 - 1]?).map (fun q => (q.1, q.2.1)) = some (z_own.getD w "", r.1) := by decide +kernel
theorem z_FL9 : ∀ w, w < z_nW → ∀ r ∈ z_FL.getD w [], r.2.1 = 9 → r.2.2.1 < 2 := by decide +kernel
theorem z_ias {st : List Value} {k : Int32 → Int32 → Nat → List Value → Option zC} {o : zC} (h : (match st with
    | .int x :: .int i :: .ref a :: r => k x i a r
    | _ => none) = some o) : ∃ x j a r, st = .int x :: .int j :: .ref a :: r ∧ k x j a r = some o := by
  split at h
  · exact ⟨_, _, _, _, rfl, h⟩
  · cases h
theorem z_bas {st : List Value} {k : Int32 → Int32 → Nat → List Value → Option zC} {o : zC} (h : (match st with
    | .int x :: .int i :: .ref a :: r => k x i a r
    | _ => none) = some o) : ∃ x j a r, st = .int x :: .int j :: .ref a :: r ∧ k x j a r = some o := z_ias h
theorem z_las {st : List Value} {k : Int64 → Int32 → Nat → List Value → Option zC} {o : zC} (h : (match st with
    | .long x :: .int i :: .ref a :: r => k x i a r
    | _ => none) = some o) : ∃ x j a r, st = .long x :: .int j :: .ref a :: r ∧ k x j a r = some o := by
  split at h
  · exact ⟨_, _, _, _, rfl, h⟩
  · cases h
theorem z_ac_some {μ : zM} {pc : Nat} {L : zL} {st : List Value} {o : zC} (h : z_ac μ pc L st = some o) : ∃ (n dp : Int32) (b : Nat) (sp : Int32) (a : Nat) (r : List Value), st = .int n :: .int dp :: .ref b :: .int sp :: .ref a :: r ∧
    (if zE ≤ b then (if z_tg μ a = z_tg μ b then (if z_tg μ a < 3 then (if 0 ≤ sp.toInt ∧ 0 ≤ dp.toInt ∧ 0 ≤ n.toInt ∧ sp.toNatClampNeg + n.toNatClampNeg ≤ z_n μ a ∧ dp.toNatClampNeg + n.toNatClampNeg ≤ z_n μ b ∧ z_cat r ≤ 8 then
      some (pc + 3, L, r, (μ.1, z_nw μ.2 b (z_cpy (μ.2 a) (μ.2 b) sp.toNatClampNeg dp.toNatClampNeg n.toNatClampNeg))) else none) else none) else none) else none) = some o := by
  unfold z_ac at h
  split at h
  · exact ⟨_, _, _, _, _, _, rfl, h⟩
  · cases h
theorem z_nat_some {w nL idx pc : Nat} {isI : Bool} {L : zL} {st : List Value} {μ : zM} {o : zC} (h : z_step w nL isI (.invokestatic idx) pc L st μ = some o) : (∃ j tg ps, z_lk z_ML w idx = some (8, j, tg, ps) ∧ z_ac μ pc L st = some o) ∨ ∃ j tg ps, z_lk z_ML w idx = some (7, j, tg, ps) ∧ z_i2 st (fun x y r => if 0 ≤ x.toInt ∧ x.toInt < y.toInt ∧ z_cat r ≤ 8 then some (pc + 3, L, r, μ) else none) = some o := by
  have h : (match z_lk z_ML w idx with
    | some (8, _) => z_ac μ pc L st
    | some (7, _) => z_i2 st fun x y r => if 0 ≤ x.toInt ∧ x.toInt < y.toInt ∧ z_cat r ≤ 8 then some (pc + 3, L, r, μ) else none
    | _ => none) = some o := h
  split at h
  · rename_i r hr
    obtain ⟨j, tg, ps⟩ := r
    exact Or.inl ⟨j, tg, ps, hr, h⟩
  · rename_i r hr
    obtain ⟨j, tg, ps⟩ := r
    exact Or.inr ⟨j, tg, ps, hr, h⟩
  · cases h
theorem z_ML7 : ∀ w, w < z_nW → ∀ r ∈ z_ML.getD w [], r.2.1 = 7 → r.2.2.1 = 300 := by decide +kernel
theorem z_obj_some {w nL idx pc : Nat} {isI : Bool} {L : zL} {st : List Value} {μ : zM} {o : zC} (h : z_step w nL isI (.invokespecial idx) pc L st μ = some o) : ∃ j tg ps, z_lk z_ML w idx = some (9, j, tg, ps) ∧ z_q1 st (fun _ r => if z_cat r ≤ 8 then some (pc + 3, L, r, μ) else none) = some o := by
  have h : (match z_lk z_ML w idx with
    | some (9, _) => z_q1 st fun _ r => if z_cat r ≤ 8 then some (pc + 3, L, r, μ) else none
    | _ => none) = some o := h
  split at h
  · rename_i r hr
    obtain ⟨j, tg, ps⟩ := r
    exact ⟨j, tg, ps, hr, h⟩
  · cases h
/-- ldc and ldc_w of a text or an int -/
theorem z_ldc_ok {s0 : State} {ex : Nat → Nat} {p : Program} {s : State} {m : MethodId} {args : Array Value} {meth : Method} {c : Code} {q : z_R} {μ : zM} {idx pc n : Nat} {L : zL} {st : List Value} {o : zC} {Gp : Nat → List Value → Prop} (hB : z_B p s0 s ex m args meth c q) (hw : q.2.2.2.2.1 < z_nW) (hwo : z_own.getD q.2.2.2.2.1 "" = q.1.cls)
    (kt : ∀ (i : Nat) (hi : i < 18) (t : String), z_strs[i]? = some (q.1.cls, idx, t) → Gp (pc + n) (.ref (ex (1 + i)) :: st.map (z_tr (z_f s0.heap.size ex))) → Gp pc (st.map (z_tr (z_f s0.heap.size ex))))
    (kc : ∀ v : Int32, Cond.constant q.1.cls idx v ∈ zBIG → Gp (pc + n) (.int v :: st.map (z_tr (z_f s0.heap.size ex))) → Gp pc (st.map (z_tr (z_f s0.heap.size ex))))
    (hs : (match z_lk z_SL q.2.2.2.2.1 idx with
      | some a => some (pc + n, L, Value.ref a :: st, μ)
      | none => match z_lk z_IC q.2.2.2.2.1 idx with
        | some (v, _) => some (pc + n, L, Value.int v :: st, μ)
        | none => none) = some o) (kk : ∀ {st' : List Value}, (pc + n, L, st', μ) = o → Gp (pc + n) (st'.map (z_tr (z_f s0.heap.size ex)))) : Gp pc (st.map (z_tr (z_f s0.heap.size ex))) := by
  cases h1 : z_lk z_SL q.2.2.2.2.1 idx with
  | some a =>
    rw [h1] at hs
    obtain ⟨g1, g2, g3⟩ := z_SL_ok _ hw _ (z_lk_some h1)
    rw [hwo] at g3
    cases h3 : z_strs[a - 1]? with
    | none => rw [h3] at g3; cases g3
    | some r =>
      obtain ⟨r1, r2, r3⟩ := r
      rw [h3] at g3
      simp only [Option.map_some, Option.some.injEq, Prod.mk.injEq] at g3
      obtain ⟨rfl, rfl⟩ := g3
      have := kk (Option.some.inj hs)
      refine kt (a - 1) (by dsimp only at g2; omega) r3 h3 ?_
      have e1 : 1 + (a - 1) = a := by dsimp only at g1; omega
      rw [e1]
      have e2 : z_tr (z_f s0.heap.size ex) (.ref a) = .ref (ex a) := by
        show Value.ref (z_f s0.heap.size ex a) = _
        rw [z_f_ext (by dsimp only at g2; unfold zE; omega)]
      rw [List.map_cons, e2] at this
      exact this
  | none =>
    rw [h1] at hs
    cases h2 : z_lk z_IC q.2.2.2.2.1 idx with
    | some v =>
      obtain ⟨v, wp⟩ := v
      rw [h2] at hs
      have g1 := z_IC_ok _ hw _ (z_lk_some h2)
      rw [hwo] at g1
      exact kc v (z_w_in g1 rfl) (kk (Option.some.inj hs))
    | none => rw [h2] at hs; cases hs
section ZSTEP
variable {p : Program} {l : Launch} {e : Env} {R : Room} {s : State} {m : MethodId} {args : Array Value} {below : List Frame} {meth : Method} {c : Code} {H : Heap} {locs : List Loc} {cells slots : Nat} {Q : State → Prop}
variable {ls : Array Slot} {s0 : State} {D : va_G} {aT : Nat → ClassId} {ex : Nat → Nat} {q : z_R} {μ : zM}
set_option maxHeartbeats 4000000 in
set_option maxRecDepth 20000 in
theorem z_step_ok (hB : z_B p s0 s ex m args meth c q) (hG : z_G s0 D aT ex) (hM : z_rep s0 D ex μ H) {pc len : Nat} {i : Instr} {L : zL} {st : List Value} {o : zC} (hl : lv_has ls q.2.2.1 (L.map (z_trp (z_f s0.heap.size ex)))) (hlo : ∀ x ∈ locs, s0.heap.size ≤ x.base) (hd : decode q.2.1 pc = .ok (i, len)) (hln : (len == z_ln i || z_ln i == 0) = true) (hR1 : 2 ≤ R.frames) (hR2 : 120 ≤ R.locals)
    (hs : z_step q.2.2.2.2.1 q.2.2.1 (q.1.name == "<init>") i pc L st μ = some o) (hc1 : cells + (o.2.2.2.1.length - μ.1.length) ≤ R.cells) (hc2 : slots + (z_slt o.2.2.2 - z_slt μ) ≤ R.slots)
    (kk : ∀ (H' : Heap) (ls' : Array Slot) (locs' : List Loc), z_rep s0 D ex o.2.2.2 H' → lv_has ls' q.2.2.1 (o.2.1.map (z_trp (z_f s0.heap.size ex))) → (∀ x ∈ locs', s0.heap.size ≤ x.base) → W p l e R s m args below meth c H' locs' (cells + (o.2.2.2.1.length - μ.1.length)) (slots + (z_slt o.2.2.2 - z_slt μ)) Q (F0 m o.1 ls' (o.2.2.1.map (z_tr (z_f s0.heap.size ex))))) :
    W p l e R s m args below meth c H locs cells slots Q (F0 m pc ls (st.map (z_tr (z_f s0.heap.size ex)))) := by
  have hx := hB.1
  have hb := hB.2.1
  have hml := hB.2.2.1
  have hown := hB.2.2.2.2.2.1
  have hts := hB.2.2.2.2.2.2.1
  obtain ⟨hw, hwo⟩ := z_own_lt hB.2.2.2.2.2.2.2.2.2.2
  have hd' : z_ln i ≠ 0 → decode q.2.1 pc = .ok (i, z_ln i) := by
    intro h
    have h1 : len = z_ln i := by simpa [h] using hln
    rw [← h1]
    exact hd
  have hd1 : z_ln i = 1 → decode q.2.1 pc = .ok (i, 1) := fun h => by have := hd' (by omega); rwa [h] at this
  have hd2 : z_ln i = 2 → decode q.2.1 pc = .ok (i, 2) := fun h => by have := hd' (by omega); rwa [h] at this
  have hd3 : z_ln i = 3 → decode q.2.1 pc = .ok (i, 3) := fun h => by have := hd' (by omega); rwa [h] at this
  have hd4 : z_ln i = 4 → decode q.2.1 pc = .ok (i, 4) := fun h => by have := hd' (by omega); rwa [h] at this
  -- the memory stays
  have kS : ∀ {pc' : Nat} {L' : zL} {st' : List Value} {ls' : Array Slot}, (pc', L', st', μ) = o → lv_has ls' q.2.2.1 (L'.map (z_trp (z_f s0.heap.size ex))) → W p l e R s m args below meth c H locs cells slots Q (F0 m pc' ls' (st'.map (z_tr (z_f s0.heap.size ex)))) := by
    intro pc' L' st' ls' ho hl'
    subst ho
    have := kk H ls' locs hM hl' hlo
    simpa using this
  -- the shapes stay
  have kM : ∀ {pc' : Nat} {L' : zL} {st' : List Value} {m' : Nat → Nat → Value} {H' : Heap} {ls' : Array Slot} {locs' : List Loc}, (pc', L', st', (μ.1, m')) = o → z_rep s0 D ex (μ.1, m') H' → (∀ x ∈ locs', s0.heap.size ≤ x.base) → lv_has ls' q.2.2.1 (L'.map (z_trp (z_f s0.heap.size ex))) → W p l e R s m args below meth c H' locs' cells slots Q (F0 m pc' ls' (st'.map (z_tr (z_f s0.heap.size ex)))) := by
    intro pc' L' st' m' H' ls' locs' ho hM' hlo' hl'
    subst ho
    have := kk H' ls' locs' hM' hl' hlo'
    simpa [z_slt] using this
  have kJ : ∀ {P : Prop} [Decidable P] {a b : Nat} {L' : zL} {st' : List Value}, (if P then a else b, L', st', μ) = o → lv_has ls q.2.2.1 (L'.map (z_trp (z_f s0.heap.size ex))) → (P → W p l e R s m args below meth c H locs cells slots Q (F0 m a ls (st'.map (z_tr (z_f s0.heap.size ex))))) ∧ (¬ P → W p l e R s m args below meth c H locs cells slots Q (F0 m b ls (st'.map (z_tr (z_f s0.heap.size ex))))) := by
    intro P _ a b L' st' ho hl'
    exact ⟨fun h => kS (by rw [← ho, if_pos h]) hl', fun h => kS (by rw [← ho, if_neg h]) hl'⟩
  have ld : ∀ {t : Nat} {a : Nat} {j : Int32} {r : List Value} {ins : Instr}, t < 4 → (t = 0 ∧ ins = .iaload) ∨ (t = 1 ∧ ins = .laload) ∨ (t = 2 ∧ ins = .baload) ∨ (t = 3 ∧ ins = .aaload) → decode q.2.1 pc = .ok (ins, 1) → z_ld μ t pc L a j r = some o → W p l e R s m args below meth c H locs cells slots Q (F0 m pc ls (.int j :: .ref (z_f s0.heap.size ex a) :: r.map (z_tr (z_f s0.heap.size ex)))) := by
    intro t a j r ins ht hi hdd h
    unfold z_ld at h
    obtain ⟨h1, h⟩ := z_ifo_some h
    obtain ⟨h2, h⟩ := z_if_some h
    exact zr_ld hB hM ht h1 h2 hi hdd (kS (st' := μ.2 a j.toNatClampNeg :: r) h hl)
  have sd : ∀ {t : Nat} {a : Nat} {j : Int32} {r : List Value} {v w : Value} {ins : Instr}, t < 3 → ((∃ x, t = 0 ∧ ins = .iastore ∧ w = .int x ∧ v = .int x) ∨ (∃ x, t = 1 ∧ ins = .lastore ∧ w = .long x ∧ v = .long x) ∨ ∃ x : Int32, t = 2 ∧ ins = .bastore ∧ w = .int x ∧ v = .int x.toInt8.toInt32) → decode q.2.1 pc = .ok (ins, 1) → z_sd μ t pc L a j v r = some o → W p l e R s m args below meth c H locs cells slots Q (F0 m pc ls (w :: .int j :: .ref (z_f s0.heap.size ex a) :: r.map (z_tr (z_f s0.heap.size ex)))) := by
    intro t a j r v w ins ht hi hdd h
    unfold z_sd at h
    obtain ⟨h0, h⟩ := z_ifo_some h
    obtain ⟨h1, h⟩ := z_ifo_some h
    obtain ⟨h2, h⟩ := z_if_some h
    exact zr_sd hB hG hM hlo h0 ht h1 h2 hi hdd (fun H' locs' hM' hlo' => kM h hM' hlo' hl)
  cases i with
  | iconst n => exact lv_iconst hx hb (hd1 rfl) rfl (kS (Option.some.inj hs) hl)
  | bipush n => exact lv_bipush hx hb (hd2 rfl) rfl (kS (Option.some.inj hs) hl)
  | sipush n => exact lv_sipush hx hb (hd3 rfl) rfl (kS (Option.some.inj hs) hl)
  | lconst n => exact lv_lconst hx hb (hd1 rfl) rfl (kS (Option.some.inj hs) hl)
  | iload_n k =>
    obtain ⟨x, h1, hs⟩ := z_gi_some hs
    exact lv_iload_n hx hb (hd1 rfl) rfl (z_loc hl h1) (kS (Option.some.inj hs) hl)
  | iload k =>
    obtain ⟨x, h1, hs⟩ := z_gi_some hs
    exact lv_iload hx hb (hd2 rfl) (z_loc hl h1) (kS (Option.some.inj hs) hl)
  | lload_n k =>
    obtain ⟨x, h1, hs⟩ := z_gl_some hs
    exact lv_lload_n hx hb (hd1 rfl) rfl (z_loc hl h1) (kS (Option.some.inj hs) hl)
  | lload k =>
    obtain ⟨x, h1, hs⟩ := z_gl_some hs
    exact lv_lload hx hb (hd2 rfl) (z_loc hl h1) (kS (Option.some.inj hs) hl)
  | aload_n k =>
    obtain ⟨x, h1, hs⟩ := z_gr_some hs
    exact lv_aload_n hx hb (hd1 rfl) rfl (z_loc hl h1) (kS (Option.some.inj hs) hl)
  | aload k =>
    obtain ⟨x, h1, hs⟩ := z_gr_some hs
    exact lv_aload hx hb (hd2 rfl) (z_loc hl h1) (kS (Option.some.inj hs) hl)
  | istore_n k =>
    obtain ⟨x, r, rfl, hs⟩ := z_i1_some hs
    obtain ⟨h1, hs⟩ := z_if_some hs
    exact lv_istore_n hx hb (hd1 rfl) rfl hl h1 (z_s1_tr _ L k (.int x)) (fun ls' hl' => kS hs hl')
  | istore k =>
    obtain ⟨x, r, rfl, hs⟩ := z_i1_some hs
    obtain ⟨h1, hs⟩ := z_if_some hs
    exact lv_istore hx hb (hd2 rfl) hl h1 (z_s1_tr _ L k (.int x)) (fun ls' hl' => kS hs hl')
  | lstore_n k =>
    obtain ⟨x, r, rfl, hs⟩ := z_l1_some hs
    obtain ⟨h1, hs⟩ := z_if_some hs
    exact lv_lstore_n hx hb (hd1 rfl) rfl hl h1 (z_s2_tr _ L k (.long x)) (fun ls' hl' => kS hs hl')
  | lstore k =>
    obtain ⟨x, r, rfl, hs⟩ := z_l1_some hs
    obtain ⟨h1, hs⟩ := z_if_some hs
    exact lv_lstore hx hb (hd2 rfl) hl h1 (z_s2_tr _ L k (.long x)) (fun ls' hl' => kS hs hl')
  | astore_n k =>
    obtain ⟨x, r, rfl, hs⟩ := z_q1_some hs
    obtain ⟨h1, hs⟩ := z_if_some hs
    exact lv_astore_n hx hb (hd1 rfl) rfl hl h1 (z_s1_tr _ L k (.ref x)) (fun ls' hl' => kS hs hl')
  | astore k =>
    obtain ⟨x, r, rfl, hs⟩ := z_q1_some hs
    obtain ⟨h1, hs⟩ := z_if_some hs
    exact lv_astore hx hb (hd2 rfl) hl h1 (z_s1_tr _ L k (.ref x)) (fun ls' hl' => kS hs hl')
  | iinc k n =>
    obtain ⟨x, h1, hs⟩ := z_gi_some hs
    obtain ⟨h2, hs⟩ := z_if_some hs
    have hmem : (k, Value.int x) ∈ L.map (z_trp (z_f s0.heap.size ex)) := List.mem_map.mpr ⟨(k, .int x), z_get_mem h1, rfl⟩
    obtain ⟨j, hj⟩ := List.getElem?_of_mem hmem
    exact lv_iinc hx hb (hd3 rfl) hl hj rfl h2 (z_s1_tr _ L k (.int (x + Int32.ofInt n))) (fun ls' hl' => kS hs hl')
  | iadd => obtain ⟨x, y, r, rfl, hs⟩ := z_i2_some hs; exact lv_iadd hx hb (hd1 rfl) (kS (Option.some.inj hs) hl)
  | isub => obtain ⟨x, y, r, rfl, hs⟩ := z_i2_some hs; exact lv_isub hx hb (hd1 rfl) (kS (Option.some.inj hs) hl)
  | imul => obtain ⟨x, y, r, rfl, hs⟩ := z_i2_some hs; exact lv_imul hx hb (hd1 rfl) (kS (Option.some.inj hs) hl)
  | iand => obtain ⟨x, y, r, rfl, hs⟩ := z_i2_some hs; exact lv_iand hx hb (hd1 rfl) (kS (Option.some.inj hs) hl)
  | ior => obtain ⟨x, y, r, rfl, hs⟩ := z_i2_some hs; exact lv_ior hx hb (hd1 rfl) (kS (Option.some.inj hs) hl)
  | ixor => obtain ⟨x, y, r, rfl, hs⟩ := z_i2_some hs; exact lv_ixor hx hb (hd1 rfl) (kS (Option.some.inj hs) hl)
  | idiv => obtain ⟨x, y, r, rfl, hs⟩ := z_i2_some hs; obtain ⟨h1, hs⟩ := z_ifn_some hs; exact lv_idiv hx hb (hd1 rfl) h1 (kS hs hl)
  | irem => obtain ⟨x, y, r, rfl, hs⟩ := z_i2_some hs; obtain ⟨h1, hs⟩ := z_ifn_some hs; exact lv_irem hx hb (hd1 rfl) h1 (kS hs hl)
  | ineg => obtain ⟨x, r, rfl, hs⟩ := z_i1_some hs; exact lv_ineg hx hb (hd1 rfl) (kS (Option.some.inj hs) hl)
  | ishl => obtain ⟨x, y, r, rfl, hs⟩ := z_i2_some hs; exact lv_ishl hx hb (hd1 rfl) (kS (Option.some.inj hs) hl)
  | ishr => obtain ⟨x, y, r, rfl, hs⟩ := z_i2_some hs; exact lv_ishr hx hb (hd1 rfl) (kS (Option.some.inj hs) hl)
  | ladd => obtain ⟨x, y, r, rfl, hs⟩ := z_l2_some hs; exact lv_ladd hx hb (hd1 rfl) (kS (Option.some.inj hs) hl)
  | lsub => obtain ⟨x, y, r, rfl, hs⟩ := z_l2_some hs; exact lv_lsub hx hb (hd1 rfl) (kS (Option.some.inj hs) hl)
  | lmul => obtain ⟨x, y, r, rfl, hs⟩ := z_l2_some hs; exact lv_lmul hx hb (hd1 rfl) (kS (Option.some.inj hs) hl)
  | land => obtain ⟨x, y, r, rfl, hs⟩ := z_l2_some hs; exact lv_land hx hb (hd1 rfl) (kS (Option.some.inj hs) hl)
  | lor => obtain ⟨x, y, r, rfl, hs⟩ := z_l2_some hs; exact lv_lor hx hb (hd1 rfl) (kS (Option.some.inj hs) hl)
  | lxor => obtain ⟨x, y, r, rfl, hs⟩ := z_l2_some hs; exact lv_lxor hx hb (hd1 rfl) (kS (Option.some.inj hs) hl)
  | ldiv => obtain ⟨x, y, r, rfl, hs⟩ := z_l2_some hs; obtain ⟨h1, hs⟩ := z_ifn_some hs; exact lv_ldiv hx hb (hd1 rfl) h1 (kS hs hl)
  | lrem => obtain ⟨x, y, r, rfl, hs⟩ := z_l2_some hs; obtain ⟨h1, hs⟩ := z_ifn_some hs; exact lv_lrem hx hb (hd1 rfl) h1 (kS hs hl)
  | lshl => obtain ⟨x, y, r, rfl, hs⟩ := z_li_some hs; exact lv_lshl hx hb (hd1 rfl) rfl (kS (Option.some.inj hs) hl)
  | lshr => obtain ⟨x, y, r, rfl, hs⟩ := z_li_some hs; exact lv_lshr hx hb (hd1 rfl) rfl (kS (Option.some.inj hs) hl)
  | lushr => obtain ⟨x, y, r, rfl, hs⟩ := z_li_some hs; exact lv_lushr hx hb (hd1 rfl) rfl (kS (Option.some.inj hs) hl)
  | lcmp => obtain ⟨x, y, r, rfl, hs⟩ := z_l2_some hs; exact W.lcmp hx hb (hd1 rfl) (kS (Option.some.inj hs) hl)
  | i2l => obtain ⟨x, r, rfl, hs⟩ := z_i1_some hs; exact lv_i2l hx hb (hd1 rfl) rfl (kS (Option.some.inj hs) hl)
  | l2i => obtain ⟨x, r, rfl, hs⟩ := z_l1_some hs; exact lv_l2i hx hb (hd1 rfl) rfl (kS (Option.some.inj hs) hl)
  | i2b => obtain ⟨x, r, rfl, hs⟩ := z_i1_some hs; exact lv_i2b hx hb (hd1 rfl) rfl (kS (Option.some.inj hs) hl)
  | i2c => obtain ⟨x, r, rfl, hs⟩ := z_i1_some hs; exact lv_i2c hx hb (hd1 rfl) rfl (kS (Option.some.inj hs) hl)
  | dup =>
    cases st with
    | nil => cases hs
    | cons v r =>
      obtain ⟨h1, hs⟩ := z_if_some hs
      exact lv_dup hx hb (hd1 rfl) (by rw [z_trcat]; exact h1) (kS (st' := v :: v :: r) hs hl)
  | pop =>
    cases st with
    | nil => cases hs
    | cons v r =>
      obtain ⟨h1, hs⟩ := z_if_some hs
      exact lv_pop hx hb (hd1 rfl) (by rw [z_trcat]; exact h1) (kS hs hl)
  | pop2 =>
    cases st with
    | nil => cases hs
    | cons v r =>
      obtain ⟨h1, hs⟩ := z_if_some hs
      exact lv_pop2_2 hx hb (hd1 rfl) (by rw [z_trcat]; exact h1) (kS hs hl)
  | dup2 =>
    cases st with
    | nil => cases hs
    | cons v r =>
      by_cases h2 : v.category = 2
      · have hs : some (pc + 1, L, v :: v :: r, μ) = some o := by rw [← hs]; exact (if_pos h2).symm
        exact lv_dup2_2 hx hb (hd1 rfl) (by rw [z_trcat]; exact h2) (kS (st' := v :: v :: r) (Option.some.inj hs) hl)
      · cases r with
        | nil =>
          have hs : (none : Option zC) = some o := by rw [← hs]; exact (if_neg h2).symm
          cases hs
        | cons u r' =>
          have hs : (if v.category = 1 ∧ u.category = 1 then some (pc + 1, L, v :: u :: v :: u :: r', μ) else none) = some o := by rw [← hs]; exact (if_neg h2).symm
          obtain ⟨h1, hs⟩ := z_if_some hs
          exact lv_dup2_11 hx hb (hd1 rfl) (by rw [z_trcat]; exact h1.1) (by rw [z_trcat]; exact h1.2) (kS (st' := v :: u :: v :: u :: r') hs hl)
  | dup_x1 =>
    cases st with
    | nil => cases hs
    | cons v r =>
      cases r with
      | nil => cases hs
      | cons u r =>
        obtain ⟨h1, hs⟩ := z_if_some hs
        exact lv_dup_x1 hx hb (hd1 rfl) (by rw [z_trcat]; exact h1.1) (by rw [z_trcat]; exact h1.2) (kS (st' := v :: u :: v :: r) hs hl)
  | ifCond k off =>
    obtain ⟨x, r, rfl, hs⟩ := z_i1_some hs
    obtain ⟨h1, hs⟩ := z_if_some hs
    obtain ⟨kt, kf⟩ := kJ hs hl
    have ht := z_to_ok h1
    cases k with
    | eq => exact lv_if_eq hx hb (hd3 rfl) ht (fun h => kt (by simpa [z_c] using h)) (fun h => kf (by simpa [z_c] using h))
    | ne => exact lv_if_ne hx hb (hd3 rfl) ht (fun h => kt (by simpa [z_c] using h)) (fun h => kf (by simpa [z_c] using h))
    | lt => exact lv_if_lt hx hb (hd3 rfl) ht (fun h => kt (by simpa [z_c] using h)) (fun h => kf (by simpa [z_c] using h))
    | ge => exact lv_if_ge hx hb (hd3 rfl) ht (fun h => kt (by simpa [z_c] using h)) (fun h => kf (by simpa [z_c] using h))
    | gt => exact lv_if_gt hx hb (hd3 rfl) ht (fun h => kt (by simpa [z_c] using h)) (fun h => kf (by simpa [z_c] using h))
    | le => exact lv_if_le hx hb (hd3 rfl) ht (fun h => kt (by simpa [z_c] using h)) (fun h => kf (by simpa [z_c] using h))
  | if_icmp k off =>
    obtain ⟨x, y, r, rfl, hs⟩ := z_i2_some hs
    obtain ⟨h1, hs⟩ := z_if_some hs
    obtain ⟨kt, kf⟩ := kJ hs hl
    have ht := z_to_ok h1
    cases k with
    | eq => exact lv_icmp_eq hx hb (hd3 rfl) ht (fun h => kt (by simpa [z_c] using h)) (fun h => kf (by simpa [z_c] using h))
    | ne => exact lv_icmp_ne hx hb (hd3 rfl) ht (fun h => kt (by simpa [z_c] using h)) (fun h => kf (by simpa [z_c] using h))
    | lt => exact lv_icmp_lt hx hb (hd3 rfl) ht (fun h => kt (by simpa [z_c] using h)) (fun h => kf (by simpa [z_c] using h))
    | ge => exact lv_icmp_ge hx hb (hd3 rfl) ht (fun h => kt (by simpa [z_c] using h)) (fun h => kf (by simpa [z_c] using h))
    | gt => exact lv_icmp_gt hx hb (hd3 rfl) ht (fun h => kt (by simpa [z_c] using h)) (fun h => kf (by simpa [z_c] using h))
    | le => exact lv_icmp_le hx hb (hd3 rfl) ht (fun h => kt (by simpa [z_c] using h)) (fun h => kf (by simpa [z_c] using h))
  | ifnonnull off =>
    obtain ⟨a, r, rfl, hs⟩ := z_q1_some hs
    obtain ⟨h1, hs⟩ := z_if_some hs
    exact lv_ifnonnull hx hb (hd3 rfl) (z_to_ok h1) (kS hs hl)
  | ifnull off =>
    obtain ⟨a, r, rfl, hs⟩ := z_q1_some hs
    exact lv_ifnull hx hb (hd3 rfl) (kS (Option.some.inj hs) hl)
  | goto off =>
    obtain ⟨h1, hs⟩ := z_if_some hs
    exact lv_goto hx hb (hd3 rfl) (z_to_ok h1) (kS hs hl)
  | tableswitch dflt lo hi offs =>
    obtain ⟨x, r, rfl, hs2⟩ := z_i1_some hs
    clear hs
    have hs := hs2
    cases ho : z_off lo hi dflt offs x with
    | none => rw [ho] at hs; cases hs
    | some f =>
      rw [ho] at hs
      obtain ⟨h1, hs⟩ := z_if_some hs
      unfold z_off at ho
      by_cases g1 : x.toInt < lo
      · rw [if_pos g1] at ho
        cases ho
        exact lv_tableOut hx hb hd (Or.inl g1) (z_to_ok h1) (kS hs hl)
      · rw [if_neg g1] at ho
        by_cases g2 : hi < x.toInt
        · rw [if_pos g2] at ho
          cases ho
          exact lv_tableOut hx hb hd (Or.inr g2) (z_to_ok h1) (kS hs hl)
        · rw [if_neg g2] at ho
          exact lv_tableIn hx hb hd g1 g2 ho (z_to_ok h1) (kS hs hl)
  | getfield idx =>
    obtain ⟨a, r, rfl, hs2⟩ := z_q1_some hs
    clear hs
    have hs := hs2
    cases hlk : z_lk z_FL q.2.2.2.2.1 idx with
    | none => rw [hlk] at hs; cases hs
    | some f =>
      obtain ⟨tg, k, wp⟩ := f
      rw [hlk] at hs
      obtain ⟨h1, hs3⟩ := z_if_some hs
      clear hs hs2
      obtain ⟨g1, g2⟩ := z_FL_ok _ hw _ (z_lk_some hlk)
      have gw := z_w_in g1 (by unfold z_FLw; split <;> rfl)
      unfold z_FLw at gw
      rw [hwo] at gw
      dsimp only at gw g2
      rcases g2 with rfl | ⟨g2, g3, g4⟩
      · rw [if_pos rfl] at gw
        have ha := z_tgn h1 (by omega)
        by_cases hk : k < 2
        · exact zr_gets hB hM hk ha gw (hd3 rfl) (kS (st' := μ.2 a k :: r) hs3 hl)
        · exact absurd hk (by have := z_FL9 _ hw _ (z_lk_some hlk) rfl; simpa using this)
      · rw [if_neg (by omega)] at gw
        obtain ⟨ci, rfl⟩ : ∃ ci, tg = 10 + ci := ⟨tg - 10, by omega⟩
        rw [Nat.add_sub_cancel_left] at gw g4
        exact zr_getf hB hG hM (by omega) g4 (z_tgn h1 (by omega)) gw (hd3 rfl) (kS (st' := μ.2 a k :: r) hs3 hl)
  | putfield idx =>
    cases st with
    | nil => cases hs
    | cons v r =>
      cases r with
      | nil => cases hs
      | cons u r =>
        cases u with
        | ref a =>
          cases hlk : z_lk z_FL q.2.2.2.2.1 idx with
          | none =>
            have hs : (match z_lk z_FL q.2.2.2.2.1 idx with
              | some (tg, k, _) => if zE ≤ a ∧ 10 ≤ tg ∧ z_tg μ a = tg ∧ z_fit ((z_tys.getD (tg - 10) []).getD k .int) v = true ∧ (((z_cls.getD (tg - 10) ("", z_T0, 0)).2.1 k).2.2.2 = false ∨ ((q.1.name == "<init>") = true ∧ tg - 10 = q.2.2.2.2.1 ∧ q.2.2.2.2.1 < 13)) then some (pc + 3, L, r, z_wr μ a k v) else none
              | none => none) = some o := hs
            rw [hlk] at hs
            cases hs
          | some f =>
            obtain ⟨tg, k, wp⟩ := f
            have hs : (match z_lk z_FL q.2.2.2.2.1 idx with
              | some (tg, k, _) => if zE ≤ a ∧ 10 ≤ tg ∧ z_tg μ a = tg ∧ z_fit ((z_tys.getD (tg - 10) []).getD k .int) v = true ∧ (((z_cls.getD (tg - 10) ("", z_T0, 0)).2.1 k).2.2.2 = false ∨ ((q.1.name == "<init>") = true ∧ tg - 10 = q.2.2.2.2.1 ∧ q.2.2.2.2.1 < 13)) then some (pc + 3, L, r, z_wr μ a k v) else none
              | none => none) = some o := hs
            rw [hlk] at hs
            obtain ⟨⟨hE, h10, h1, h2, h3⟩, hs3⟩ := z_if_some hs
            clear hs
            obtain ⟨g1, g2⟩ := z_FL_ok _ hw _ (z_lk_some hlk)
            have gw := z_w_in g1 (by unfold z_FLw; split <;> rfl)
            unfold z_FLw at gw
            rw [hwo] at gw
            dsimp only at gw g2
            rcases g2 with rfl | ⟨g2, g3, g4⟩
            · omega
            · rw [if_neg (by omega)] at gw
              obtain ⟨ci, rfl⟩ : ∃ ci, tg = 10 + ci := ⟨tg - 10, by omega⟩
              rw [Nat.add_sub_cancel_left] at gw g4 h2 h3
              refine zr_putf hB hG hM hlo hE (by omega) g4 (z_tgn h1 (by omega)) gw h2 ?_ (hd3 rfl) (fun H' locs' hM' hlo' => kM hs3 hM' hlo' hl)
              rcases h3 with h3 | ⟨h3, h4, h5⟩
              · exact Or.inl h3
              · refine Or.inr ⟨hB.2.2.2.2.2.2.2.2.1 (by simpa using h3), ?_⟩
                rw [z_dec_ok ci (by rw [h4]; exact h5) k g4, h4, hwo]
        | _ => cases hs
  | getstatic idx =>
    cases hlk : z_lk z_GS q.2.2.2.2.1 idx with
    | none =>
      have hs : (match z_lk z_GS q.2.2.2.2.1 idx with
        | some (k, _) => if k < 3 then some (pc + 3, L, z_sv k :: st, μ) else none
        | none => none) = some o := hs
      rw [hlk] at hs; cases hs
    | some f =>
      obtain ⟨k, wp⟩ := f
      have hs : (match z_lk z_GS q.2.2.2.2.1 idx with
        | some (k, _) => if k < 3 then some (pc + 3, L, z_sv k :: st, μ) else none
        | none => none) = some o := hs
      rw [hlk] at hs
      obtain ⟨h3, hs⟩ := z_if_some hs
      obtain ⟨g1, g2⟩ := z_GS_ok _ hw _ (z_lk_some hlk)
      have gw := z_w_in g1 rfl
      rw [hwo] at gw
      exact zr_stat hB hG hM h3 gw (hd3 rfl) (kS (st' := z_sv k :: st) hs hl)
  | new idx =>
    cases hlk : z_lk z_CL q.2.2.2.2.1 idx with
    | none =>
      have hs : (match z_lk z_CL q.2.2.2.2.1 idx with
        | some (c, _) => some (pc + 3, L, .ref μ.1.length :: st, z_al μ (10 + c) (z_cls.getD c ("", z_T0, 0)).2.2 (fun k => z_dv ((z_tys.getD c []).getD k .int)))
        | none => none) = some o := hs
      rw [hlk] at hs; cases hs
    | some f =>
      obtain ⟨ci, w1, w2, w3⟩ := f
      have hs : (match z_lk z_CL q.2.2.2.2.1 idx with
        | some (c, _) => some (pc + 3, L, .ref μ.1.length :: st, z_al μ (10 + c) (z_cls.getD c ("", z_T0, 0)).2.2 (fun k => z_dv ((z_tys.getD c []).getD k .int)))
        | none => none) = some o := hs
      rw [hlk] at hs
      obtain ⟨g1, g2, g3, g4⟩ := z_CL_ok _ hw _ (z_lk_some hlk)
      have gw := z_w_in g1 rfl
      rw [hwo] at gw
      have ho := Option.some.inj hs
      subst ho
      dsimp only at hc1 hc2 kk
      rw [z_len_al, Nat.add_sub_cancel_left] at hc1
      rw [z_slt_al, Nat.add_sub_cancel_left] at hc2
      refine zr_new hB hG hM g4 gw (z_w_in g2 rfl) (z_w_in g3 rfl) hc1 hc2 (hd3 rfl) (fun H' hM' => ?_)
      have := kk H' ls locs hM' hl hlo
      rw [z_len_al, Nat.add_sub_cancel_left, z_slt_al, Nat.add_sub_cancel_left] at this
      exact this
  | newarray t =>
    obtain ⟨x, r, rfl, hs2⟩ := z_i1_some hs
    clear hs
    have hs := hs2
    cases hti : z_ati t with
    | none => rw [hti] at hs; cases hs
    | some ti =>
      rw [hti] at hs
      obtain ⟨⟨g1, g2⟩, ho⟩ := z_if_some hs
      subst ho
      dsimp only at hc1 hc2 kk
      rw [z_len_al, Nat.add_sub_cancel_left] at hc1
      rw [z_slt_al, Nat.add_sub_cancel_left] at hc2
      refine zr_newa hB hG hM hti g1 g2 hc1 hc2 (hd2 rfl) (fun H' hM' => ?_)
      have := kk H' ls locs hM' hl hlo
      rw [z_len_al, Nat.add_sub_cancel_left, z_slt_al, Nat.add_sub_cancel_left] at this
      exact this
  | multianewarray idx dm =>
    obtain ⟨x, y, r, rfl, hs2⟩ := z_i2_some hs
    obtain ⟨⟨g1, g2, g3, g4, g5, g6, g7⟩, ho⟩ := z_if_some hs2
    clear hs hs2
    subst ho; subst g2; subst g3
    dsimp only at hc1 hc2 kk
    rw [z_als_len, z_len_al] at hc1
    rw [z_als_slt, z_slt_al] at hc2
    have hq : q.1.cls = "RangeAnswers$Lists" := by rw [← hwo, g1]; rfl
    refine zr_multi hB hG hM hq g4 g5 g6 g7 (by omega) (by omega) (hd4 rfl) (fun H' hM' => ?_)
    have := kk H' ls locs hM' hl hlo
    rw [z_als_len, z_len_al, z_als_slt, z_slt_al] at this
    exact W.cs (by omega) (by omega) this
  | iaload => obtain ⟨a, j, r, rfl, hs⟩ := z_ri_some hs; exact ld (by omega) (Or.inl ⟨rfl, rfl⟩) (hd1 rfl) hs
  | laload => obtain ⟨a, j, r, rfl, hs⟩ := z_ri_some hs; exact ld (by omega) (Or.inr (Or.inl ⟨rfl, rfl⟩)) (hd1 rfl) hs
  | baload => obtain ⟨a, j, r, rfl, hs⟩ := z_ri_some hs; exact ld (by omega) (Or.inr (Or.inr (Or.inl ⟨rfl, rfl⟩))) (hd1 rfl) hs
  | aaload => obtain ⟨a, j, r, rfl, hs⟩ := z_ri_some hs; exact ld (by omega) (Or.inr (Or.inr (Or.inr ⟨rfl, rfl⟩))) (hd1 rfl) hs
  | iastore =>
    obtain ⟨x, j, a, r, rfl, hs⟩ := z_ias hs
    exact sd (by omega) (Or.inl ⟨x, rfl, rfl, rfl, rfl⟩) (hd1 rfl) hs
  | lastore =>
    obtain ⟨x, j, a, r, rfl, hs⟩ := z_las hs
    exact sd (by omega) (Or.inr (Or.inl ⟨x, rfl, rfl, rfl, rfl⟩)) (hd1 rfl) hs
  | bastore =>
    obtain ⟨x, j, a, r, rfl, hs⟩ := z_bas hs
    exact sd (by omega) (Or.inr (Or.inr ⟨x, rfl, rfl, rfl, rfl⟩)) (hd1 rfl) hs
  | arraylength =>
    obtain ⟨a, r, rfl, hs⟩ := z_q1_some hs
    obtain ⟨h1, hs⟩ := z_if_some hs
    exact zr_alen hB hM h1 (hd1 rfl) (kS hs hl)
  | ldc idx => exact z_ldc_ok (Gp := fun pc' st' => W p l e R s m args below meth c H locs cells slots Q (F0 m pc' ls st')) (n := 2) hB hw hwo (fun a hi t hh k => zr_text (len := 0) hB hh (hd2 rfl) k) (fun v hc k => lv_ldc hx hb hown (hts _ hc) (hd2 rfl) k) hs (fun h => kS h hl)
  | ldc_w idx => exact z_ldc_ok (Gp := fun pc' st' => W p l e R s m args below meth c H locs cells slots Q (F0 m pc' ls st')) (n := 3) hB hw hwo (fun a hi t hh k => zr_textw (len := 0) hB hh (hd3 rfl) k) (fun v hc k => lv_ldcw hx hb hown (hts _ hc) (hd3 rfl) k) hs (fun h => kS h hl)
  | ldc2_w idx =>
    cases hlk : z_lk z_LC q.2.2.2.2.1 idx with
    | none =>
      have hs : (match z_lk z_LC q.2.2.2.2.1 idx with
        | some (v, _) => some (pc + 3, L, Value.long v :: st, μ)
        | none => none) = some o := hs
      rw [hlk] at hs; cases hs
    | some f =>
      obtain ⟨v, wp⟩ := f
      have hs : (match z_lk z_LC q.2.2.2.2.1 idx with
        | some (v, _) => some (pc + 3, L, Value.long v :: st, μ)
        | none => none) = some o := hs
      rw [hlk] at hs
      have g1 := z_LC_ok _ hw _ (z_lk_some hlk)
      have gw := z_w_in g1 rfl
      rw [hwo] at gw
      exact lv_ldc2 hx hb hown (hts _ gw) (hd3 rfl) (kS (Option.some.inj hs) hl)
  | invokestatic idx =>
    rcases z_nat_some hs with ⟨j, tg, ps, hlk, hs⟩ | ⟨j, tg, ps, hlk, hs⟩
    · obtain ⟨n, dp, b, sp, a, r, rfl, hs⟩ := z_ac_some hs
      obtain ⟨h0, hs⟩ := z_ifo_some hs
      obtain ⟨h1, hs⟩ := z_ifo_some hs
      obtain ⟨h2, hs⟩ := z_ifo_some hs
      obtain ⟨⟨h3, h4, h5, h6, h7, h8⟩, hs⟩ := z_if_some hs
      refine zr_copy hB hG hM hlo h0 h1 h2 h3 h4 h5 h6 h7 ?_ hl.1 (by rw [z_trsum]; exact h8) (by omega) (by omega) (hd3 rfl) (fun H' locs' hM' hlo' => kM hs hM' hlo' hl)
      have g1 := z_ML_ok _ hw _ (z_lk_some hlk)
      have g2 : z_MLw q.2.2.2.2.1 (idx, 8, j, tg, ps) = [Cond.methodLink q.1.cls idx arraycopyName, .native arraycopyName, .static arraycopyName, .initialized "java/lang/System"] := by
        rw [← hwo]
        rfl
      rw [g2] at g1
      exact z_words g1 (by intro w hw; simp at hw; rcases hw with rfl | rfl | rfl | rfl <;> rfl)
    · obtain ⟨x, y, r, rfl, hs2⟩ := z_i2_some hs
      obtain ⟨⟨h1, h2, h3⟩, hs3⟩ := z_if_some hs2
      have g1 := z_ML_ok _ hw _ (z_lk_some hlk)
      have hj : j = 300 := z_ML7 _ hw _ (z_lk_some hlk) rfl
      subst hj
      have g2 : z_MLw q.2.2.2.2.1 (idx, 7, 300, tg, ps) = [Cond.methodLink q.1.cls idx z_r300.1, .static z_r300.1] := by
        rw [← hwo]
        have e3 : z_r 300 = some z_r300 := rfl
        show [Cond.methodLink (z_own.getD q.2.2.2.2.1 "") idx (((z_r 300).map (fun q => q.1)).getD ⟨"", "", ""⟩), Cond.static (((z_r 300).map (fun q => q.1)).getD ⟨"", "", ""⟩)] = _
        rw [e3]
        rfl
      rw [g2] at g1
      have hkk := fun (locs' : List Loc) (hlo' : ∀ x ∈ locs', s0.heap.size ≤ x.base) => kM (m' := μ.2) (H' := H) (locs' := locs') hs3 hM hlo' hl
      exact zr_chk hB hG hM hlo h1 h2 (z_words g1 (by intro w hw; simp at hw; rcases hw with rfl | rfl <;> rfl)) hl.1 (by rw [z_trsum]; exact h3) hR1 hR2 (by omega) (by omega) (hd3 rfl) hkk
  | invokespecial idx =>
    obtain ⟨j, tg, ps, hlk, hs⟩ := z_obj_some hs
    obtain ⟨a, r, rfl, hs⟩ := z_q1_some hs
    obtain ⟨h1, hs⟩ := z_if_some hs
    have g1 := z_ML_ok _ hw _ (z_lk_some hlk)
    have g2 : z_MLw q.2.2.2.2.1 (idx, 9, j, tg, ps) = [Cond.methodLink q.1.cls idx Lib.objectInit, .instanceMethod Lib.objectInit, .code Lib.objectInit z_ob 1 none] := by
      rw [← hwo]
      rfl
    rw [g2] at g1
    have g3 := z_words g1 (by intro w hw; simp at hw; rcases hw with rfl | rfl | rfl <;> rfl)
    refine W.objInit hx hb hown (hts _ (g3 _ (by simp))) (hts _ (g3 _ (by simp))) (hts _ (g3 _ (by simp [z_ob]))) rfl (by rw [hml]; exact hl.1) rfl (hd3 rfl) (by omega) ?_ (kS hs hl)
    have := z_trsum (z_f s0.heap.size ex) r
    show 2 * 0 + _ + 12 ≤ _
    rw [this]
    omega
  | _ => exact absurd (show (none : Option zC) = some o from hs) (by simp)
end ZSTEP
