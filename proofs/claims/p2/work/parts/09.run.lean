/-! THE MINI MACHINE'S RUN OF A METHOD is the method's contract -/
section ZRUN
variable {l : Launch} {s0 : State} {D : va_G} {aT : Nat → ClassId} {ex : Nat → Nat}
/-- a return instruction with what it returns -/
def z_ret (q : z_R) (pc : Nat) (st : List Value) (v : Option Value) : Prop := ∃ i, decode q.2.1 pc = .ok (i, 1) ∧ ((i = .return_ ∧ st = [] ∧ q.2.2.2.1 = none ∧ v = none) ∨ (∃ x ty, i = .ireturn ∧ st = [.int x] ∧ q.2.2.2.1 = some ty ∧ z_rty ty x = true ∧ v = some (.int x)) ∨ (∃ x, i = .lreturn ∧ st = [.long x] ∧ q.2.2.2.1 = some .long ∧ v = some (.long x)) ∨ ∃ a, i = .areturn ∧ st = [.ref a] ∧ ((∃ nm, q.2.2.2.1 = some (.object nm)) ∨ ∃ t, q.2.2.2.1 = some (.array t)) ∧ v = some (.ref a))
def z_body (l : Launch) (s0 : State) (D : va_G) (ex : Nat → Nat) (n : Nat) : Prop :=
  ∀ (d k : Nat) (q : z_R) (pc : Nat) (L : zL) (st : List Value) (μ : zM) (v : Option Value) (μ' : zM), z_mth k = some q → z_exec n d k pc L st μ = some (v, μ') →
  ∀ (p : Program) (e : Env) (R : Room) (s : State) (m : MethodId) (args : Array Value) (below : List Frame) (meth : Method) (c : Code) (H : Heap) (locs : List Loc) (cells slots : Nat) (Q : State → Prop) (ls : Array Slot),
  z_B p s0 s ex m args meth c q → z_rep s0 D ex μ H → lv_has ls q.2.2.1 (L.map (z_trp (z_f s0.heap.size ex))) → (∀ x ∈ locs, s0.heap.size ≤ x.base) → d + 2 ≤ R.frames → 60 * (d + 2) ≤ R.locals → cells + (μ'.1.length - μ.1.length) ≤ R.cells → slots + (z_slt μ' - z_slt μ) ≤ R.slots →
  (∀ (H' : Heap) (ls' : Array Slot) (locs' : List Loc) (pc' : Nat) (st' : List Value), z_rep s0 D ex μ' H' → (∀ x ∈ locs', s0.heap.size ≤ x.base) → z_ret q pc' st' v → W p l e R s m args below meth c H' locs' (cells + (μ'.1.length - μ.1.length)) (slots + (z_slt μ' - z_slt μ)) Q (F0 m pc' ls' (st'.map (z_tr (z_f s0.heap.size ex))))) →
  W p l e R s m args below meth c H locs cells slots Q (F0 m pc ls (st.map (z_tr (z_f s0.heap.size ex))))
theorem z_rty_ok {ty : FieldType} {x : Int32} (h : z_rty ty x = true) : narrow ty (.int x) = .int x := by
  cases ty <;> simp [z_rty] at h
  case int => rfl
  case boolean => rcases h with rfl | rfl <;> decide
  case byte => rcases h with rfl | rfl <;> decide
  case char =>
    show Value.int _ = _
    congr 1
    exact lg_i2c_word h.1 h.2
theorem z_lgl (f : Nat → Nat) : ∀ Bs : List Value, (lg_sl (Bs.map (z_tr f))).length = (lg_sl Bs).length
  | [] => rfl
  | v :: Bs => by
    have h1 : ∀ (u : Value) (Cs : List Value), (lg_sl (u :: Cs)).length = (if u.category = 2 then 2 else 1) + (lg_sl Cs).length := by
      intro u Cs
      unfold lg_sl
      rw [List.flatMap_cons, List.length_append]
      split <;> rfl
    rw [List.map_cons, h1, h1, z_lgl f Bs, z_trcat]
theorem z_k1000 {k : Nat} {q : z_R} (h : z_r k = some q) : k ≠ 1000 := by
  rintro rfl
  exact absurd h (by rw [show z_r 1000 = none by decide +kernel]; simp)
theorem z_can_ok {f : Nat → Nat} {ls : Array Slot} {nL k pc : Nat} {L : zL} (h : lv_has ls nL (L.map (z_trp f))) : lv_has ls nL ((z_can k pc L).map (z_trp f)) := by
  unfold z_can
  split
  · refine ⟨h.1, h.2.1, fun q hq => ?_⟩
    obtain ⟨r, hr, rfl⟩ := List.mem_map.mp hq
    obtain ⟨i, -, hi⟩ := List.mem_filterMap.mp hr
    obtain ⟨v, hv, rfl⟩ := Option.map_eq_some_iff.mp hi
    exact h.2.2 _ (List.mem_map.mpr ⟨(i, v), z_get_mem hv, rfl⟩)
  · exact h
/-- a body's runs give the method's contract -/
theorem z_met_of {n : Nat} (hn : z_body l s0 D ex n) {d k : Nat} {q : z_R} {As : List Value} {μ μ' : zM} {v : Option Value} (hk : z_r k = some q) (hlg : (lg_sl As).length ≤ q.2.2.1) (hrun : z_exec n d k 0 (z_can k 0 (lv_args 0 As)) [] μ = some (v, μ')) : z_Met l s0 D ex d q As μ v μ' := by
  obtain ⟨o1, o2, o3, o4, o5, o6⟩ := z_okr hk
  refine va_MetF (cc := q.2.1) (maxL := q.2.2.1) (ret := q.2.2.2.1) o3 rfl ?_
  intro p e s m args below meth c s₁ B hml hv
  obtain ⟨rfl, hM, hZ⟩ := hv
  have hr := B.returns
  have hx := B.exec
  have hb := B.bytes
  have hlocks := B.notSynchronized
  have hts : ∀ w ∈ zBIG, w.before _ s = true := fun w hw => atoms_spec (ws := z_ws q) B.pre w (List.mem_cons_of_mem _ hw)
  have hBB : z_B p s0 s ex m (As.map (z_tr (z_f s0.heap.size ex))).toArray meth c q := ⟨hx, hb, hml, hr, hlocks, findClass_of_methodNamed B.named, hts, hZ, fun h => ((name_of_methodNamed B.named B.method).1).trans h, o6, o5⟩
  have hl := lv_entry (As.map (z_tr (z_f s0.heap.size ex))) (n := q.2.2.1) (by
    have e1 : ∀ Bs : List Value, (lg_sl (Bs.map (z_tr (z_f s0.heap.size ex)))).length = (lg_sl Bs).length := z_lgl _
    rw [e1]
    exact hlg)
  rw [lg_entry_eq]
  generalize (lg_sl (As.map (z_tr (z_f s0.heap.size ex))) ++ List.replicate (q.2.2.1 - (lg_sl (As.map (z_tr (z_f s0.heap.size ex)))).length) Slot.unset).toArray = ls at hl ⊢
  rw [z_args_tr] at hl
  have hmth : z_mth k = some q := by
    unfold z_mth
    rw [if_neg (z_k1000 hk)]
    exact hk
  refine hn d k q 0 _ [] μ v μ' hmth hrun p e _ s m _ below meth c s.heap [] 0 0 _ ls hBB hM (z_can_ok hl) (fun _ h => by cases h) (Nat.le_refl _) (Nat.le_refl _) (by show 0 + _ ≤ _; rw [Nat.zero_add]; exact Nat.le_refl _) (by show 0 + _ ≤ _; rw [Nat.zero_add]; exact Nat.le_refl _) ?_
  intro H' ls' locs' pc' st' hM' hlo' hret
  rw [Nat.zero_add, Nat.zero_add]
  obtain ⟨i, hd, hcase⟩ := hret
  rcases hcase with ⟨rfl, rfl, h3, rfl⟩ | ⟨x, ty, rfl, rfl, h3, h4, rfl⟩ | ⟨x, rfl, rfl, h3, rfl⟩ | ⟨a, rfl, rfl, h3, rfl⟩
  · exact W.vret hx hb (hr.trans h3) (fun t ht hW => ⟨rfl, by rw [ht]; exact hM'⟩) hlo' hd
  · exact W.zret hx hb (hr.trans h3) (z_rty_ok h4) (fun t ht hW => ⟨rfl, by rw [ht]; exact hM'⟩) hlo' hd
  · exact W.lret hx hb (hr.trans h3) (fun t ht hW => ⟨rfl, by rw [ht]; exact hM'⟩) hlo' hd
  · rcases h3 with ⟨nm, h3⟩ | ⟨t, h3⟩
    · exact W.aret hx hb (hr.trans h3) (Or.inl ⟨_, rfl⟩) (Or.inr ⟨_, rfl⟩) (fun t ht hW => ⟨rfl, by rw [ht]; exact hM'⟩) hlo' hd
    · exact W.aret hx hb (hr.trans h3) (Or.inr ⟨_, rfl⟩) (Or.inr ⟨_, rfl⟩) (fun t ht hW => ⟨rfl, by rw [ht]; exact hM'⟩) hlo' hd
set_option maxHeartbeats 4000000 in
theorem z_run (hG : z_G s0 D aT ex) : ∀ n, z_body l s0 D ex n
  | 0 => by
    intro d k q pc L st μ v μ' _ h
    cases h
  | n + 1 => by
    have ih := z_run hG n
    intro d k q pc L st μ v μ' hq h p e R s m args below meth c H locs cells slots Q ls hB hM hl hlo hfr hlc hc1 hc2 hQ
    unfold z_exec at h
    rw [hq] at h
    dsimp only at h
    cases ha : z_act q pc L st μ with
    | none => rw [ha] at h; cases h
    | some a =>
      rw [ha] at h
      obtain ⟨i, len, hmem, hln, hh⟩ := z_act_some ha
      have hd : decode q.2.1 pc = .ok (i, len) := by
        by_cases hlt : pc / 32 < q.2.2.2.2.2.2.2.2.length
        · have hg := z_getD (L := q.2.2.2.2.2.2.2.2) (d := []) hlt
          have hdec := hB.2.2.2.2.2.2.2.2.2.1
          have h9 := hdec _ (List.mem_of_getElem? hg) (pc, i, len) hmem
          exact h9
        · rw [List.getD_eq_getElem?_getD, List.getElem?_eq_none (Nat.not_lt.mp hlt)] at hmem
          cases hmem
      rcases a with cf | v' | cl
      · dsimp only at h
        rcases hh with ⟨cf', hcf, hs⟩ | ⟨v, hv, -⟩ | ⟨idx, hi⟩
        · cases hcf
          obtain ⟨u1, u2⟩ := z_step_mono hs
          obtain ⟨u3, u4⟩ := z_exec_mono n d k _ _ _ _ _ h
          dsimp only at u3 u4
          refine z_step_ok hB hG hM hl hlo hd hln (by omega) (by omega) hs (by omega) (by omega) (fun H' ls' locs' hM' hl' hlo' => ?_)
          refine ih d k q _ _ _ _ v μ' hq h p e R s m args below meth c H' locs' _ _ Q ls' hB hM' (z_can_ok hl') hlo' hfr hlc (by omega) (by omega) (fun H2 ls2 locs2 pc2 st2 hM2 hlo2 hret => ?_)
          exact W.cs (by omega) (by omega) (hQ H2 ls2 locs2 pc2 st2 hM2 hlo2 hret)
        · cases hv
        · rcases hi with ⟨-, hi⟩ | ⟨-, hi⟩ | ⟨-, hi⟩ <;> obtain ⟨_, _, _, _, _, _, _, -, -, -, ho, -⟩ := z_inv_some hi <;> cases ho
      · have h := Option.some.inj h
        simp only [Prod.mk.injEq] at h
        obtain ⟨rfl, rfl⟩ := h
        rcases hh with ⟨cf', hcf, hs⟩ | ⟨v, hv, hret⟩ | ⟨idx, hi⟩
        · cases hcf
        · cases hv
          have := hQ H ls locs pc st hM hlo ⟨i, ?_, hret⟩
          · exact W.cs (by omega) (by omega) this
          · have hl1 : len = 1 := by
              rcases hret with ⟨rfl, -⟩ | ⟨_, _, rfl, -⟩ | ⟨_, rfl, -⟩ | ⟨_, rfl, -⟩ <;> simpa [z_ln] using hln
            rw [← hl1]
            exact hd
        · rcases hi with ⟨-, hi⟩ | ⟨-, hi⟩ | ⟨-, hi⟩ <;> obtain ⟨_, _, _, _, _, _, _, -, -, -, ho, -⟩ := z_inv_some hi <;> cases ho
      · dsimp only at h
        obtain ⟨j, As, rest⟩ := cl
        cases d with
        | zero => cases h
        | succ d' =>
          dsimp only at h
          cases hc : z_exec n d' j 0 (z_can j 0 (lv_args 0 As)) [] μ with
          | none => rw [hc] at h; cases h
          | some o1 =>
            obtain ⟨v1, μ1⟩ := o1
            rw [hc] at h
            obtain ⟨u1, u2⟩ := z_exec_mono n d' _ _ _ _ _ _ hc
            obtain ⟨u3, u4⟩ := z_exec_mono n (d' + 1) k _ _ _ _ _ h
            dsimp only at u1 u2 u3 u4
            rcases hh with ⟨cf', hcf, hs⟩ | ⟨v, hv, hret⟩ | ⟨idx, hi⟩
            · cases hcf
            · cases hv
            · have key : ∀ ks : List Nat, (i = .invokevirtual idx ∧ ks = [1, 5]) ∨ (i = .invokestatic idx ∧ ks = [0]) ∨ (i = .invokespecial idx ∧ ks = [2, 3, 4]) → z_inv q.2.2.2.2.1 idx ks st μ = some (.inr (.inr (j, As, rest))) → W p l e R s m args below meth c H locs cells slots Q (F0 m pc ls (st.map (z_tr (z_f s0.heap.size ex)))) := by
                intro ks hik hinv
                have hl3 : len = 3 := by
                  rcases hik with ⟨rfl, -⟩ | ⟨rfl, -⟩ | ⟨rfl, -⟩ <;> simpa [z_ln] using hln
                rw [hl3] at hd
                refine z_call_ok hB hG hM hlo hl.1 hik hd hinv (d := d') (v := v1) (μ1 := μ1) (fun q' hq' => ?_) (by omega) (by omega) (by omega) (by omega) (fun H' locs' hM' hlo' => ?_)
                · obtain ⟨_, _, _, _, q2, _, _, -, -, hr2, ho2, -, hlg2, -⟩ := z_inv_some hinv
                  simp only [Sum.inr.injEq, Prod.mk.injEq] at ho2
                  obtain ⟨rfl, rfl, -⟩ := ho2
                  cases hq'.symm.trans hr2
                  exact z_met_of ih hq' hlg2 hc
                · refine ih (d' + 1) k q _ _ _ μ1 v μ' hq h p e R s m args below meth c H' locs' _ _ Q ls hB hM' (z_can_ok hl) hlo' hfr hlc (by omega) (by omega) (fun H2 ls2 locs2 pc2 st2 hM2 hlo2 hret => ?_)
                  exact W.cs (by omega) (by omega) (hQ H2 ls2 locs2 pc2 st2 hM2 hlo2 hret)
              rcases hi with ⟨h1, hi⟩ | ⟨h1, hi⟩ | ⟨h1, hi⟩
              · exact key _ (Or.inl ⟨h1, rfl⟩) hi
              · exact key _ (Or.inr (Or.inl ⟨h1, rfl⟩)) hi
              · exact key _ (Or.inr (Or.inr ⟨h1, rfl⟩)) hi
end ZRUN
