/-! System.arraycopy, Object.<init>, statics and constants over z_rep -/
theorem z_pairs (at_ : Nat) : ∀ (xs : List Value) (i : Nat) (cell : Cell), (cell.storePairs at_ (xs.zipIdx i)).cls = cell.cls ∧ (cell.storePairs at_ (xs.zipIdx i)).vm = cell.vm ∧ (cell.storePairs at_ (xs.zipIdx i)).slots.size = cell.slots.size ∧ ∀ k : Nat, k < cell.slots.size → (cell.storePairs at_ (xs.zipIdx i)).slots[k]? = if at_ + i ≤ k ∧ k < at_ + i + xs.length then some (xs.getD (k - (at_ + i)) .null) else cell.slots[k]?
  | [], i, cl0 => by
    refine ⟨rfl, rfl, rfl, fun k hk => ?_⟩
    rw [if_neg (by simp only [List.length_nil]; omega)]
    rfl
  | x :: xs, i, cl0 => by
    have hs : cl0.storePairs at_ ((x :: xs).zipIdx i) = (cl0.setSlot (at_ + i) x).storePairs at_ (xs.zipIdx (i + 1)) := by
      rw [List.zipIdx_cons]
      rfl
    rw [hs]
    obtain ⟨h1, h2, h3, h4⟩ := z_pairs at_ xs (i + 1) (cl0.setSlot (at_ + i) x)
    refine ⟨h1, h2, by rw [h3, k2_slotsz], fun k hk => ?_⟩
    rw [h4 k (by rw [k2_slotsz]; exact hk)]
    by_cases hki : k = at_ + i
    · subst hki
      rw [if_neg (by omega), if_pos (by simp only [List.length_cons]; omega)]
      simp [Cell.setSlot, hk]
    · by_cases h : at_ + (i + 1) ≤ k ∧ k < at_ + (i + 1) + xs.length
      · rw [if_pos h, if_pos (by simp only [List.length_cons]; omega)]
        have e : k - (at_ + i) = (k - (at_ + (i + 1))) + 1 := by omega
        rw [e, List.getD_cons_succ]
      · rw [if_neg h, if_neg (by simp only [List.length_cons]; omega), slot_ne cl0 _ (Ne.symm hki)]
theorem z_ldcwS {p : Program} {l : Launch} {e : Env} {R : Room} {s : State} {m : MethodId} {args : Array Value} {below : List Frame} {meth : Method} {c : Code} {H : Heap} {locs : List Loc} {cells slots : Nat} {Q : State → Prop} {cc : ByteArray} {pc : Nat} {ls : Array Slot} {rest : List Value} (hexec : p.tables.exec = Jvm.exec) (hb : c.code = cc) {own tx : String} {index r : Nat} (hown : s.vm.findClass own = some m.cls) (hZ : vk_R own index tx r s) (hdg : decode cc pc = .ok (.ldc_w index, 3))
    (k : W p l e R s m args below meth c H locs cells slots Q (F0 m (pc + 3) ls (.ref r :: rest))) : W p l e R s m args below meth c H locs cells slots Q (F0 m pc ls rest) := by
  intro T hT X
  obtain ⟨t, a1, b1⟩ := k T hT X
  refine ⟨t, ?_, b1⟩
  obtain ⟨h1, h2⟩ := hZ
  obtain ⟨kc, cf, i, a', hk, hcf, hcp, -, hr, hev'⟩ := Cond.stringRef_spec hown h1
  cases h2.symm.trans hev'
  obtain ⟨k', hk', he⟩ := X.warmed.alike.2.2 _ _ hk
  have hr' : k'.resolved[index]? = some (some (.string r)) := by
    rcases X.warmed.entry hk hk' index with h | ⟨h, -⟩
    · rw [h]; exact hr
    · rw [hr] at h; cases h
  jvm_step X.here [hexec, hb, hdg, ldc_w.wp_string (e := e) (s := T) (f := F0 m pc ls rest) X.here.top hk' (by rw [he]; exact hcf) hcp hr']
  exact a1
section ZCP
variable {p : Program} {l : Launch} {e : Env} {R : Room} {s : State} {m : MethodId} {args : Array Value} {below : List Frame} {meth : Method} {c : Code} {H : Heap} {locs : List Loc} {cells slots : Nat} {Q : State → Prop}
variable {pc : Nat} {ls : Array Slot} {rest : List Value} {s0 : State} {D : va_G} {aT : Nat → ClassId} {ex : Nat → Nat} {q : z_R} {μ : zM}
theorem zr_copy (hB : z_B p s0 s ex m args meth c q) (hG : z_G s0 D aT ex) (hM : z_rep s0 D ex μ H) (hlo : ∀ x ∈ locs, s0.heap.size ≤ x.base) {a b idx : Nat} {sp dp n : Int32} (hE : zE ≤ b) (hab : z_tg μ a = z_tg μ b) (hta : z_tg μ a < 3) (h1 : 0 ≤ sp.toInt) (h2 : 0 ≤ dp.toInt) (h3 : 0 ≤ n.toInt) (h4 : sp.toNatClampNeg + n.toNatClampNeg ≤ z_n μ a) (h5 : dp.toNatClampNeg + n.toNatClampNeg ≤ z_n μ b)
    (hw : (∀ w ∈ [Cond.methodLink q.1.cls idx arraycopyName, .native arraycopyName, .static arraycopyName, .initialized "java/lang/System"], w ∈ zBIG)) (hsz : ls.size = q.2.2.1) (hcat : (rest.map fun v => v.category).sum ≤ 8) (hR1 : 1 ≤ R.frames) (hR2 : 60 ≤ R.locals) (hdg : decode q.2.1 pc = .ok (.invokestatic idx, 3))
    (kk : ∀ (H' : Heap) (locs' : List Loc), z_rep s0 D ex (μ.1, z_nw μ.2 b (z_cpy (μ.2 a) (μ.2 b) sp.toNatClampNeg dp.toNatClampNeg n.toNatClampNeg)) H' → (∀ x ∈ locs', s0.heap.size ≤ x.base) → W p l e R s m args below meth c H' locs' cells slots Q (F0 m (pc + 3) ls rest)) : W p l e R s m args below meth c H locs cells slots Q (F0 m pc ls (.int n :: .int dp :: .ref (z_f s0.heap.size ex b) :: .int sp :: .ref (z_f s0.heap.size ex a) :: rest)) := by
  have nn : ∀ z : Int32, 0 ≤ z.toInt → z.toInt = (z.toNatClampNeg : Int) ∧ ¬ z < 0 := by
    intro z hz
    refine ⟨?_, fun h => ?_⟩
    · show z.toInt = ((z.toInt.toNat : Nat) : Int)
      omega
    · have := Int32.lt_iff_toInt_lt.mp h
      simp at this
      omega
  have hb' := z_tgn (μ := μ) (a := b) rfl (by omega)
  obtain ⟨cs, s1, s2, s3, s4, s5, -, s6⟩ := z_arr hB hM (z_tgn (a := a) rfl (by omega)) (by omega)
  obtain ⟨cd, d1, d2, d3, d4, d5, d2', d6⟩ := z_arr hB hM hb' (by omega)
  rw [hab] at s2 s6
  have hml := hB.2.2.1
  obtain ⟨hx, hb, -, -, -, hown, hts, -⟩ := hB
  intro T hT X
  obtain ⟨hs7, k0, hk0, cm0, hkk0⟩ := s2
  obtain ⟨hd7, k1, hk1, cm1, hkk1⟩ := d2
  have helem : ∀ i : Nat, i < n.toNatClampNeg → cs.slots.getD (sp.toNatClampNeg + i) .null = μ.2 a (sp.toNatClampNeg + i) ∧ z_el (z_tg μ b) (μ.2 a (sp.toNatClampNeg + i)) := by
    intro i hi
    have hel := s6 (sp.toNatClampNeg + i) (by omega)
    refine ⟨?_, hel⟩
    rw [Array.getD_eq_getD_getElem?, s5 _ (by omega)]
    rcases (show z_tg μ b = 0 ∨ z_tg μ b = 1 ∨ z_tg μ b = 2 by omega) with h | h | h <;> rw [h] at hel
    · obtain ⟨x, hx⟩ := hel
      rw [hx]
      rfl
    · obtain ⟨x, hx⟩ := hel
      rw [hx]
      rfl
    · obtain ⟨x, hx, -⟩ := hel
      rw [hx]
      rfl
  obtain ⟨vm', X', step⟩ := X.arraycopy (index := idx) hx hown (hts _ (hw _ (by simp))) (hts _ (hw _ (by simp))) (hts _ (hw _ (by simp))) (hts _ (hw _ (by simp))) (src := z_f s0.heap.size ex a) (dst := z_f s0.heap.size ex b) (cs := cs) (cd := cd) (srcPos := sp) (destPos := dp) (n := n) (by rw [hT]; exact s1) (by rw [hT]; exact d1)
    hs7 hd7 s3 d3 hk0 hk1 hkk0 hkk1 (by
      rcases (show z_tg μ b = 0 ∨ z_tg μ b = 1 ∨ z_tg μ b = 2 by omega) with h | h | h <;> rw [h] <;> decide)
    (nn sp h1).2 (nn dp h2).2 (nn n h3).2
    (by rw [(nn sp h1).1, (nn n h3).1]; have := s4.1; omega)
    (by rw [(nn dp h2).1, (nn n h3).1]; have := d4.1; omega)
    (fun vm₁ _ i hi => by
      obtain ⟨e1, e2⟩ := helem i hi
      rw [e1]
      rcases (show z_tg μ b = 0 ∨ z_tg μ b = 1 ∨ z_tg μ b = 2 by omega) with h | h | h <;> rw [h] at e2 ⊢
      · obtain ⟨x, hx⟩ := e2
        rw [hx]
        exact ⟨rfl, trivial⟩
      · obtain ⟨x, hx⟩ := e2
        rw [hx]
        exact ⟨rfl, trivial⟩
      · obtain ⟨x, hx, hx2⟩ := e2
        rw [hx]
        exact ⟨hx2, trivial⟩)
    (g := F0 m pc ls (.int n :: .int dp :: .ref (z_f s0.heap.size ex b) :: .int sp :: .ref (z_f s0.heap.size ex a) :: rest)) rfl (by rw [hml]; exact hsz) (rest := rest) rfl (by rw [hb]; exact hdg) hR1 (by
      have e9 : nativeFrameWords "java/lang/System" "arraycopy" 5 = 7 := by decide +kernel
      rw [e9]
      show 2 * 0 + _ + _ ≤ _
      omega)
  have hbl : z_f s0.heap.size ex b < H.size := (Array.getElem?_eq_some_iff.mp d1).1
  generalize hcc : copied cs cd sp dp n = cc at X' step
  have hpr := z_pairs dp.toNatClampNeg (cs.stretch sp.toNatClampNeg n.toNatClampNeg) 0 cd
  have hcc' : cd.storePairs dp.toNatClampNeg ((cs.stretch sp.toNatClampNeg n.toNatClampNeg).zipIdx 0) = cc := hcc
  rw [hcc'] at hpr
  obtain ⟨p1, p2, p3, p4⟩ := hpr
  have hlen : (cs.stretch sp.toNatClampNeg n.toNatClampNeg).length = n.toNatClampNeg := by simp [Cell.stretch]
  have hheap : ((T.setVm vm').setCell (z_f s0.heap.size ex b) cc).heap = H.setIfInBounds (z_f s0.heap.size ex b) cc := by rw [← hT]; rfl
  have hat : (H.setIfInBounds (z_f s0.heap.size ex b) cc)[z_f s0.heap.size ex b]? = some cc := by simp [Array.getElem?_setIfInBounds, hbl]
  have hoq : ∀ x : Nat, x ≠ z_f s0.heap.size ex b → (H.setIfInBounds (z_f s0.heap.size ex b) cc)[x]? = H[x]? := fun x hx => by simp [Array.getElem?_setIfInBounds, Ne.symm hx]
  have hval : ∀ j : Nat, j < z_n μ b → cc.slots[j]? = some (z_tr (z_f s0.heap.size ex) (z_cpy (μ.2 a) (μ.2 b) sp.toNatClampNeg dp.toNatClampNeg n.toNatClampNeg j)) ∧ z_el (z_tg μ b) (z_cpy (μ.2 a) (μ.2 b) sp.toNatClampNeg dp.toNatClampNeg n.toNatClampNeg j) := by
    intro j hj
    rw [p4 j (Nat.lt_of_lt_of_le hj d4.1), hlen, Nat.add_zero]
    unfold z_cpy
    by_cases h : dp.toNatClampNeg ≤ j ∧ j < dp.toNatClampNeg + n.toNatClampNeg
    · rw [if_pos h, if_pos h]
      obtain ⟨e1, e2⟩ := helem (j - dp.toNatClampNeg) (by omega)
      refine ⟨?_, e2⟩
      have e3 : (cs.stretch sp.toNatClampNeg n.toNatClampNeg).getD (j - dp.toNatClampNeg) Value.null = μ.2 a (sp.toNatClampNeg + (j - dp.toNatClampNeg)) := by
        rw [← e1]
        unfold Cell.stretch
        rw [List.getD_eq_getElem?_getD, List.getElem?_map, List.getElem?_range (by omega)]
        rfl
      rw [e3]
      rcases (show z_tg μ b = 0 ∨ z_tg μ b = 1 ∨ z_tg μ b = 2 by omega) with h | h | h <;> rw [h] at e2
      · obtain ⟨x, hx⟩ := e2
        rw [hx]
        rfl
      · obtain ⟨x, hx⟩ := e2
        rw [hx]
        rfl
      · obtain ⟨x, hx, -⟩ := e2
        rw [hx]
        rfl
    · rw [if_neg h, if_neg h]
      exact ⟨d5 j hj, d6 j hj⟩
  obtain ⟨t, a1, b1⟩ := kk (H.setIfInBounds (z_f s0.heap.size ex b) cc) _ (hM.chg hG hE hb' (by simp) hoq (fun b' j hb' => by simp [z_nw, hb']) ⟨fun _ => ⟨⟨cc, hat, ⟨by rw [p2]; exact d2'.1, by rw [p1]; exact d2'.2⟩, by rw [p2]; exact d3, (by unfold z_sz; rw [p3]; exact d4), fun j hj => by simp only [z_nw, if_true]; exact (hval j hj).1⟩, fun j hj => by simp only [z_nw, if_true]; exact (hval j hj).2⟩, fun h => by omega, fun h => by omega⟩) (fun x hx => by
      rcases List.mem_append.mp hx with h | h
      · exact hlo x h
      · obtain ⟨z, -, hz⟩ := List.mem_map.mp h
        rw [← hz]
        show s0.heap.size ≤ z_f s0.heap.size ex b
        rw [z_f_new hE]
        omega) _ hheap X'
  exact ⟨t, step t a1, b1⟩
theorem zr_stat (hB : z_B p s0 s ex m args meth c q) (hG : z_G s0 D aT ex) (hM : z_rep s0 D ex μ H) {k idx : Nat} (hk : k < 3) (hlink : Cond.fieldLink q.1.cls idx (z_GSf.getD k ("", "", "")).1 (z_GSf.getD k ("", "", "")).2.1 (z_GSf.getD k ("", "", "")).2.2 ∈ zBIG) (hdg : decode q.2.1 pc = .ok (.getstatic idx, 3))
    (kk : W p l e R s m args below meth c H locs cells slots Q (F0 m (pc + 3) ls (z_tr (z_f s0.heap.size ex) (z_sv k) :: rest))) : W p l e R s m args below meth c H locs cells slots Q (F0 m pc ls rest) := by
  obtain ⟨hx, hb, -, -, -, hown, hts, hZ, -⟩ := hB
  obtain ⟨cf, kf, fi, f, a, cell, g1, g2, g3, g4, g5, g6, g7, g8⟩ := va_Z.moved hZ.1 (hG.2.2.2 k hk)
  have hlt : a < s0.heap.size := (Array.getElem?_eq_some_iff.mp g5).1
  exact W.gets hx hb hown (hts _ hlink) g1 g2 g3 g4 (by rw [hM.2.2.1 a hlt]; exact g5) (fun h => by rw [h] at g6; cases g6) g7 rfl hdg kk
theorem zr_text (hB : z_B p s0 s ex m args meth c q) {i idx len : Nat} {t : String} (hs : z_strs[i]? = some (q.1.cls, idx, t)) (hdg : decode q.2.1 pc = .ok (.ldc idx, 2))
    (kk : W p l e R s m args below meth c H locs cells slots Q (F0 m (pc + 2) ls (.ref (ex (1 + i)) :: rest))) : W p l e R s m args below meth c H locs cells slots Q (F0 m pc ls rest) := by
  obtain ⟨hx, hb, -, -, -, hown, hts, hZ, -⟩ := hB
  exact va_ldcS hx hb hown (hZ.2.1 i _ hs) hdg kk
theorem zr_textw (hB : z_B p s0 s ex m args meth c q) {i idx len : Nat} {t : String} (hs : z_strs[i]? = some (q.1.cls, idx, t)) (hdg : decode q.2.1 pc = .ok (.ldc_w idx, 3))
    (kk : W p l e R s m args below meth c H locs cells slots Q (F0 m (pc + 3) ls (.ref (ex (1 + i)) :: rest))) : W p l e R s m args below meth c H locs cells slots Q (F0 m pc ls rest) := by
  obtain ⟨hx, hb, -, -, -, hown, hts, hZ, -⟩ := hB
  exact z_ldcwS hx hb hown (hZ.2.1 i _ hs) hdg kk
end ZCP
theorem z_callk {p : Program} {l : Launch} {e : Env} {R : Room} {s : State} {m : MethodId} {args : Array Value} {below : List Frame} {meth : Method} {c : Code} {H : Heap} {locs : List Loc} {cells slots : Nat} {Q : State → Prop} {ls : Array Slot} {mc ms : Nat} {pc : Nat} {rest st0 : List Value} {Qa : State → Outcome → State → Prop} {free : Addr → Prop} (hr : va_Run p l e R s m args below meth c H locs cells slots mc ms (F0 m pc ls st0) rest Qa free) (kk : ∀ (v : Option Value) (u t : State) (H1 : Heap) (L : List Loc), u.heap = H → Qa u (.returned v) t → t.heap = H1 → (∀ x ∈ L, free x.base) → W p l e R s m args below meth c H1 (locs ++ L) (cells + mc) (slots + ms) Q (F0 m (pc + 3) ls (v.toList ++ rest))) : W p l e R s m args below meth c H locs cells slots Q (F0 m pc ls st0) := by
  intro T hT X
  obtain ⟨v, st₀, t, T', L, h0, X', hL, e1, e2, hq, st⟩ := hr T hT X
  obtain ⟨t2, a1, b1⟩ := kk v st₀ t T'.heap L h0 hq e1.symm hL T' rfl X'
  exact ⟨t2, st t2 a1, b1⟩
/-- the words of a method: its code, and all that every method may want -/
def z_ws (q : z_R) : List Cond := Cond.code q.1 q.2.1 q.2.2.1 q.2.2.2.1 :: zBIG
theorem z_okr {k : Nat} {q : z_R} (h : z_r k = some q) : z_okR q := by
  unfold z_r at h
  have h1 := List.mem_of_getElem? h
  rw [List.getD_eq_getElem?_getD] at h1
  cases hg : z_M[k / 16]? with
  | none => rw [hg] at h1; simp at h1
  | some g =>
    rw [hg] at h1
    exact z_okM g (List.mem_of_getElem? hg) q h1
theorem z_code_in' {q : z_R} (h : z_okR q) : Cond.code q.1 q.2.1 q.2.2.1 q.2.2.2.1 ∈ zBIG ∧ Cond.initialized q.1.cls ∈ zBIG := by
  obtain ⟨h1, h2, -⟩ := h
  exact ⟨z_w_in h1 rfl, z_w_in h2 rfl⟩
theorem z_goodIn' {q : z_R} (h : z_okR q) : GoodIn zBIG (z_ws q) := by
  intro w hw
  have h1 : w ∈ zBIG := by
    rcases List.mem_cons.mp hw with rfl | h2
    · exact (z_code_in' h).1
    · exact h2
  exact ⟨h1, good_of_word (List.mem_filter.mp h1).2⟩
theorem z_code_in {k : Nat} {q : z_R} (h : z_r k = some q) : Cond.code q.1 q.2.1 q.2.2.1 q.2.2.2.1 ∈ zBIG ∧ Cond.initialized q.1.cls ∈ zBIG := z_code_in' (z_okr h)
theorem z_goodIn {k : Nat} {q : z_R} (h : z_r k = some q) : GoodIn zBIG (z_ws q) := z_goodIn' (z_okr h)
theorem z_words {ps : List Nat} {ws : List Cond} (h : ps.map z_w = ws.map some) (hg : ∀ w ∈ ws, goodWord w = true) : ∀ w ∈ ws, w ∈ zBIG := by
  intro w hw
  have h1 : some w ∈ ws.map some := List.mem_map.mpr ⟨w, hw, rfl⟩
  rw [← h] at h1
  obtain ⟨n, -, hn⟩ := List.mem_map.mp h1
  exact z_w_in hn (hg w hw)
/-! Preconditions.checkIndex and String.checkIndex, where the index is one -/
theorem z_pchk (l : Launch) (i n : Int32) (v : Value) (hv : v.category = 1) (h0 : 0 ≤ i.toInt) (h1 : i.toInt < n.toInt) : Met l z_r318.1 (z_ws z_r318) { frames := 0, cells := 0, slots := 0, locals := 0 } (va_Pc [.int i, .int n, v] (fun _ => True)) (fun _ st o t => o = .returned (some (.int i)) ∧ t.heap = st.heap) 0 0 (fun _ => False) := by
  refine va_MetF (cc := z_r318.2.1) (maxL := 3) (ret := some .int) z_ok318.2.2.1 rfl ?_
  intro p e s m args below meth c s₁ B hml hv'
  obtain ⟨rfl, -⟩ := hv'
  have hr := B.returns
  have hx := B.exec
  have hb := B.bytes
  have hlocks := B.notSynchronized
  have hl := lv_entry ([.int i, .int n, v]) (n := 3) (by cases v <;> first | (exact absurd (show (2 : Nat) = 1 from hv) (by decide)) | (simp [lg_sl, Value.category]))
  rw [lg_entry_eq]
  generalize (lg_sl ([.int i, .int n, v]) ++ List.replicate (3 - (lg_sl ([.int i, .int n, v])).length) Slot.unset).toArray = ls at hl ⊢
  have hl : lv_has ls 3 [(0, .int i), (1, .int n), (2, v)] := hl
  have d0 : decode z_r318.2.1 0 = .ok (.iload_n 0, 1) := by decide +kernel
  have d1 : decode z_r318.2.1 1 = .ok (.ifCond .lt 8, 3) := by decide +kernel
  have d4 : decode z_r318.2.1 4 = .ok (.iload_n 0, 1) := by decide +kernel
  have d5 : decode z_r318.2.1 5 = .ok (.iload_n 1, 1) := by decide +kernel
  have d6 : decode z_r318.2.1 6 = .ok (.if_icmp .lt 10, 3) := by decide +kernel
  have d16 : decode z_r318.2.1 16 = .ok (.iload_n 0, 1) := by decide +kernel
  have d17 : decode z_r318.2.1 17 = .ok (.ireturn, 1) := by decide +kernel
  refine lv_iload_n hx hb d0 rfl (lv_at hl 0 rfl) ?_
  refine lv_if_lt (tgt := 9) hx hb d1 (by decide) (fun h => absurd h ?_) (fun _ => ?_)
  · intro h
    have := Int32.lt_iff_toInt_lt.mp h
    simp at this
    omega
  refine lv_iload_n hx hb d4 rfl (lv_at hl 0 rfl) ?_
  refine lv_iload_n hx hb d5 rfl (lv_at hl 1 rfl) ?_
  refine lv_icmp_lt (tgt := 16) hx hb d6 (by decide) (fun _ => ?_) (fun h => absurd (Int32.lt_iff_toInt_lt.mpr h1) h)
  refine lv_iload_n hx hb d16 rfl (lv_at hl 0 rfl) ?_
  exact W.iret hx hb hr (fun t ht hW => ⟨rfl, ht⟩) (fun _ h => by cases h) d17
theorem z_schk (l : Launch) (s0 : State) (i n : Int32) (v : Value) (hv : v.category = 1) (h0 : 0 ≤ i.toInt) (h1 : i.toInt < n.toInt) : Met l z_r300.1 (z_ws z_r300) { frames := 1, cells := 0, slots := 0, locals := 30 } (va_Pc [.int i, .int n] (fun U => va_Z "jdk/internal/util/Preconditions" "SIOOBE_FORMATTER" "Ljava/util/function/BiFunction;" v (z_old s0) U s0.heap ∧ ∀ q : Nat, q < s0.heap.size → U.heap[q]? = s0.heap[q]?)) (fun _ st o t => o = .returned none ∧ t.heap = st.heap) 0 0 (fun _ => False) := by
  refine va_MetF (cc := z_r300.2.1) (maxL := 2) (ret := none) z_ok300.2.2.1 rfl ?_
  intro p e s m args below meth c s₁ B hml hv'
  obtain ⟨rfl, hZ, hold⟩ := hv'
  have hr := B.returns
  have hx := B.exec
  have hb := B.bytes
  have hlocks := B.notSynchronized
  have hown : s.vm.findClass "java/lang/String" = some m.cls := findClass_of_methodNamed B.named
  have hts : ∀ w ∈ zBIG, w.before _ s = true := fun w hw => atoms_spec (ws := z_ws z_r300) B.pre w (List.mem_cons_of_mem _ hw)
  have hl := lv_entry ([.int i, .int n]) (n := 2) (by simp [lg_sl, Value.category])
  rw [lg_entry_eq]
  generalize (lg_sl ([.int i, .int n]) ++ List.replicate (2 - (lg_sl ([.int i, .int n])).length) Slot.unset).toArray = ls at hl ⊢
  have hl : lv_has ls 2 [(0, .int i), (1, .int n)] := hl
  have d0 : decode z_r300.2.1 0 = .ok (.iload_n 0, 1) := by decide +kernel
  have d1 : decode z_r300.2.1 1 = .ok (.iload_n 1, 1) := by decide +kernel
  have d2 : decode z_r300.2.1 2 = .ok (.getstatic 1053, 3) := by decide +kernel
  have d5 : decode z_r300.2.1 5 = .ok (.invokestatic 1059, 3) := by decide +kernel
  have d8 : decode z_r300.2.1 8 = .ok (.pop, 1) := by decide +kernel
  have d9 : decode z_r300.2.1 9 = .ok (.return_, 1) := by decide +kernel
  have hw := z_words (ps := [3209, 3211, 3212]) (ws := [.fieldLink "java/lang/String" 1053 "jdk/internal/util/Preconditions" "SIOOBE_FORMATTER" "Ljava/util/function/BiFunction;", .methodLink "java/lang/String" 1059 z_r318.1, .static z_r318.1]) (by decide +kernel) (by intro w hw; simp at hw; rcases hw with rfl | rfl | rfl <;> rfl)
  refine lv_iload_n hx hb d0 rfl (lv_at hl 0 rfl) ?_
  refine lv_iload_n hx hb d1 rfl (lv_at hl 1 rfl) ?_
  obtain ⟨cf, kf, fi, f, a, cl0, g1, g2, g3, g4, g5, g6, g7, g8⟩ := hZ
  refine W.gets hx hb hown (hts _ (hw _ (by simp))) g1 g2 g3 g4 (by rw [hold a (Array.getElem?_eq_some_iff.mp g5).1]; exact g5) (fun h => by rw [h] at g6; cases g6) g7 rfl d2 ?_
  have S : CallFix p m c z_r300.2.1 2 s _ zBIG "java/lang/String" := ⟨hx, hb, hml, hown, hts⟩
  obtain ⟨hc1, hc2⟩ := z_code_in' z_ok318
  obtain ⟨-, -, -, ⟨hn1, hn2, hn3⟩, -, -⟩ := z_ok318
  refine z_callk (va_runS (n := 3) (As := [.int i, .int n, v]) (rest := []) S (z_pchk l i n v hv h0 h1) ⟨⟨rfl, rfl, Nat.le_refl _, (by show 8 + (3 + 11) + 0 ≤ 30; omega), pay_in hts (z_goodIn' z_ok318), List.mem_cons_self, hts _ hc1, hts _ hc2, ⟨hn1, hn2⟩, (fun sig h => by rw [h] at hn3; exact (Option.some.inj hn3).symm), hts _ (hw _ (by simp))⟩, hts _ (hw _ (by simp))⟩ ⟨(fun a U g mk h => h), fun U hU hW => ⟨rfl, trivial⟩⟩ rfl rfl hl.1 rfl (by show 2 * 0 + 0 ≤ 8; omega) d5 ⟨Nat.zero_le _, Nat.zero_le _⟩) (fun v' u t H1 L hu hq ht hL => ?_)
  obtain ⟨e1, e2⟩ := hq
  cases e1
  refine lv_pop hx hb d8 rfl ?_
  exact W.vret hx hb hr (fun t' ht' hW => ⟨rfl, by rw [ht', ← ht, e2, hu]⟩) (fun q hq => (hL q (by simpa using hq))) d9
section ZCHK
variable {p : Program} {l : Launch} {e : Env} {R : Room} {s : State} {m : MethodId} {args : Array Value} {below : List Frame} {meth : Method} {c : Code} {H : Heap} {locs : List Loc} {cells slots : Nat} {Q : State → Prop}
variable {pc : Nat} {ls : Array Slot} {rest : List Value} {s0 : State} {D : va_G} {aT : Nat → ClassId} {ex : Nat → Nat} {q : z_R} {μ : zM}
theorem zr_chk (hB : z_B p s0 s ex m args meth c q) (hG : z_G s0 D aT ex) (hM : z_rep s0 D ex μ H) (hlo : ∀ x ∈ locs, s0.heap.size ≤ x.base) {i n : Int32} {idx : Nat} (h0 : 0 ≤ i.toInt) (h1 : i.toInt < n.toInt) (hw : ∀ w ∈ [Cond.methodLink q.1.cls idx z_r300.1, .static z_r300.1], w ∈ zBIG) (hsz : ls.size = q.2.2.1) (hcat : (rest.map fun v => v.category).sum ≤ 8) (hR1 : 2 ≤ R.frames) (hR2 : 120 ≤ R.locals) (hc1 : cells ≤ R.cells) (hc2 : slots ≤ R.slots) (hdg : decode q.2.1 pc = .ok (.invokestatic idx, 3))
    (kk : ∀ locs' : List Loc, (∀ x ∈ locs', s0.heap.size ≤ x.base) → W p l e R s m args below meth c H locs' cells slots Q (F0 m (pc + 3) ls rest)) : W p l e R s m args below meth c H locs cells slots Q (F0 m pc ls (.int n :: .int i :: rest)) := by
  obtain ⟨hx, hb, hml, -, -, hown, hts, hZ, -⟩ := hB
  obtain ⟨v, hv, hZv⟩ := hG.2.2.1.1
  have S : CallFix p m c q.2.1 q.2.2.1 s args zBIG q.1.cls := ⟨hx, hb, hml, hown, hts⟩
  obtain ⟨hc1', hc2'⟩ := z_code_in' z_ok300
  obtain ⟨-, -, -, ⟨hn1, hn2, hn3⟩, -, -⟩ := z_ok300
  refine z_callk (va_runS (n := 2) (As := [.int i, .int n]) (rest := rest) S (z_schk l s0 i n v hv h0 h1) ⟨⟨rfl, rfl, hR1, (by show 8 + (2 + 11) + 30 ≤ R.locals; omega), pay_in hts (z_goodIn' z_ok300), List.mem_cons_self, hts _ hc1', hts _ hc2', ⟨hn1, hn2⟩, (fun sig h => by rw [h] at hn3; exact (Option.some.inj hn3).symm), hts _ (hw _ (by simp))⟩, hts _ (hw _ (by simp))⟩ ⟨(fun a U g mk h => h), fun U hU hW => ⟨rfl, va_Z.moved (hZ.1.trans hW.alike) hZv, (by rw [hU]; exact hM.2.2.1)⟩⟩ rfl rfl hsz rfl (by show 2 * 0 + _ ≤ 8; omega) hdg ⟨hc1, hc2⟩) (fun v' u t H1 L hu hq ht hL => ?_)
  obtain ⟨e1, e2⟩ := hq
  cases e1
  have hH : H1 = H := by rw [← ht, e2, hu]
  subst hH
  exact kk (locs ++ L) (fun x hx => by
    rcases List.mem_append.mp hx with h | h
    · exact hlo x h
    · exact absurd (hL x h) id)
end ZCHK
