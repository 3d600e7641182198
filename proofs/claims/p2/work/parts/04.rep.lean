/-! THE MINI MACHINE AND THE MACHINE: what a heap holds of a small memory -/
def z_f (N0 : Nat) (ex : Nat → Nat) (i : Nat) : Nat := if i < zE then ex i else N0 + (i - zE)
def z_tr (f : Nat → Nat) (v : Value) : Value := match v with
  | .ref a => .ref (f a)
  | v => v
def z_trp (f : Nat → Nat) (q : Nat × Value) : Nat × Value := (q.1, z_tr f q.2)
theorem z_trcat (f : Nat → Nat) (v : Value) : (z_tr f v).category = v.category := by cases v <;> rfl
theorem z_trsum (f : Nat → Nat) (st : List Value) : ((st.map (z_tr f)).map fun v => v.category).sum = z_cat st := by
  unfold z_cat
  rw [List.map_map]
  congr 1
  apply List.map_congr_left
  intro v _
  exact z_trcat f v
def zBIG : List Cond := (lw_tbl ++ z_der.map (fun y => Cond.selects "java/lang/StringBuilde\x72" y y)).filter goodWord
theorem z_w_tbl {n : Nat} {w : Cond} (h : z_w n = some w) : w ∈ lw_tbl ++ z_der.map (fun y => Cond.selects "java/lang/StringBuilde\x72" y y) := by
  unfold z_w at h
  rw [List.mem_append]
  split at h
  · exact Or.inl (List.mem_append_left _ (List.mem_of_getElem? h))
  all_goals first
    | exact Or.inr (List.mem_of_getElem? h)
    | (cases h; done)
    | (have hm := List.mem_of_getElem? h
       left
       refine List.mem_append_right _ ?_
       unfold tables_1
       simp only [List.mem_append]
       first
       | exact Or.inl hm
       | exact Or.inr (Or.inl hm)
       | exact Or.inr (Or.inr (Or.inl hm))
       | exact Or.inr (Or.inr (Or.inr (Or.inl hm)))
       | exact Or.inr (Or.inr (Or.inr (Or.inr (Or.inl hm))))
       | exact Or.inr (Or.inr (Or.inr (Or.inr (Or.inr (Or.inl hm)))))
       | exact Or.inr (Or.inr (Or.inr (Or.inr (Or.inr (Or.inr (Or.inl hm))))))
       | exact Or.inr (Or.inr (Or.inr (Or.inr (Or.inr (Or.inr (Or.inr hm)))))))
theorem z_w_in {n : Nat} {w : Cond} (h : z_w n = some w) (hg : goodWord w = true) : w ∈ zBIG := List.mem_filter.mpr ⟨z_w_tbl h, hg⟩
theorem z_lk_some {α : Type} {T : List (List (Nat × α))} {w idx : Nat} {r : α} (h : z_lk T w idx = some r) : (idx, r) ∈ T.getD w [] := by
  unfold z_lk at h
  obtain ⟨q, hq, rfl⟩ := Option.map_eq_some_iff.mp h
  have h1 := List.mem_of_find?_eq_some hq
  have h2 := List.find?_some hq
  have h3 : q.1 = idx := by simpa using h2
  rw [← h3]
  exact h1
theorem z_get_mem {L : zL} {i : Nat} {v : Value} (h : z_get L i = some v) : (i, v) ∈ L := by
  unfold z_get at h
  obtain ⟨q, hq, rfl⟩ := Option.map_eq_some_iff.mp h
  have h1 := List.mem_of_find?_eq_some hq
  have h2 := List.find?_some hq
  have h3 : q.1 = i := by simpa using h2
  rw [← h3]
  exact h1
theorem z_loc {f : Nat → Nat} {ls : Array Slot} {nL i : Nat} {L : zL} {v : Value} (hl : lv_has ls nL (L.map (z_trp f))) (h : z_get L i = some v) : ls[i]? = some (.val (z_tr f v)) :=
  hl.2.2 (i, z_tr f v) (List.mem_map.mpr ⟨(i, v), z_get_mem h, rfl⟩)
theorem z_flt {f : Nat → Nat} (L : zL) (P : Nat × Value → Bool) (hP : ∀ q, P (z_trp f q) = P q) : (L.map (z_trp f)).filter P = (L.filter P).map (z_trp f) := by
  rw [List.filter_map]
  congr 1
  exact List.filter_congr fun q _ => hP q
theorem z_s1_tr (f : Nat → Nat) (L : zL) (i : Nat) (v : Value) : (i, z_tr f v) :: (L.map (z_trp f)).filter (fun q => !(q.1 == i) && !(q.1 + 1 == i && q.2.category == 2)) = (z_s1 L i v).map (z_trp f) := by
  rw [z_flt L _ (fun q => by simp [z_trp, z_trcat])]
  rfl
theorem z_s2_tr (f : Nat → Nat) (L : zL) (i : Nat) (v : Value) : (i, z_tr f v) :: (L.map (z_trp f)).filter (fun q => !(q.1 == i) && (!(q.1 == i + 1) && !(q.1 + 1 == i && q.2.category == 2))) = (z_s2 L i v).map (z_trp f) := by
  rw [z_flt L _ (fun q => by simp [z_trp, z_trcat])]
  rfl
theorem z_args_tr (f : Nat → Nat) : ∀ (As : List Value) (i : Nat), lv_args i (As.map (z_tr f)) = (lv_args i As).map (z_trp f)
  | [], _ => rfl
  | v :: As, i => by
    show (i, z_tr f v) :: lv_args (if (z_tr f v).category = 2 then i + 2 else i + 1) (As.map (z_tr f)) = (i, z_tr f v) :: (lv_args (if v.category = 2 then i + 2 else i + 1) As).map (z_trp f)
    rw [z_args_tr f As, z_trcat]
/-- an element of an array of a tag -/
def z_el (t : Nat) (v : Value) : Prop := match t with
  | 0 => ∃ x : Int32, v = .int x
  | 1 => ∃ x : Int64, v = .long x
  | 2 => ∃ x : Int32, v = .int x ∧ fits .byte (.int x) = true
  | _ => True
/-- as long as an array of n is said to be -/
def z_sz (cl0 : Cell) (n : Nat) : Prop := n ≤ cl0.slots.size ∧ cl0.slots.size.toInt32 = Int32.ofNat n
abbrev z_old (s0 : State) : Nat → Prop := fun q => s0.heap.size ≤ q
def z_cell (s0 : State) (D : va_G) (ex : Nat → Nat) (m : Nat → Nat → Value) (H : Heap) (a t n : Nat) : Prop :=
  (t < 4 → (∃ cell : Cell, H[z_f s0.heap.size ex a]? = some cell ∧ s0.isArrayOf cell (z_aty t) ∧ cell.vm ≠ .unknown ∧ z_sz cell n ∧ ∀ j, j < n → cell.slots[j]? = some (z_tr (z_f s0.heap.size ex) (m a j))) ∧ ∀ j, j < n → z_el t (m a j)) ∧
  (t = 9 → va_OF "java/lang/String" "value" "[B" (z_tr (z_f s0.heap.size ex) (m a 0)) (z_f s0.heap.size ex a) (z_old s0) s0 s0.heap ∧ va_OF "java/lang/String" "code\x72" "B" (z_tr (z_f s0.heap.size ex) (m a 1)) (z_f s0.heap.size ex a) (z_old s0) s0 s0.heap ∧ ∃ cell : Cell, s0.heap[z_f s0.heap.size ex a]? = some cell ∧ cell.vm.isStatics = false ∧ s0.vm.findClass "java/lang/String" = some cell.cls) ∧
  (10 ≤ t → n = (z_cls.getD (t - 10) ("", z_T0, 0)).2.2 ∧ ∃ cell : Cell, H[z_f s0.heap.size ex a]? = some cell ∧ cell.cls = D.1 (t - 10) ∧ cell.vm = .none ∧ ∀ k, k < (z_cls.getD (t - 10) ("", z_T0, 0)).2.2 → cell.slots[D.2 (t - 10) k]? = some (z_tr (z_f s0.heap.size ex) (m a k)))
def z_rep (s0 : State) (D : va_G) (ex : Nat → Nat) (μ : zM) (H : Heap) : Prop :=
  zE ≤ μ.1.length ∧ H.size + zE = s0.heap.size + μ.1.length ∧ (∀ q : Nat, q < s0.heap.size → H[q]? = s0.heap[q]?) ∧ ∀ a t n : Nat, μ.1[a]? = some (t, n) → (a < zE → t < 10) ∧ z_cell s0 D ex μ.2 H a t n
/-- what is so at the start, and stays -/
def z_G (s0 : State) (D : va_G) (aT : Nat → ClassId) (ex : Nat → Nat) : Prop :=
  va_K D z_cls [] s0 ∧ (∀ i, i < zE → ex i < s0.heap.size) ∧ ((∃ v : Value, v.category = 1 ∧ va_Z "jdk/internal/util/Preconditions" "SIOOBE_FORMATTER" "Ljava/util/function/BiFunction;" v (z_old s0) s0 s0.heap) ∧ (Cond.arrayOver (.array .long)).before #[] s0 = true) ∧ ∀ k, k < 3 → va_Z (z_GSf.getD k ("", "", "")).1 (z_GSf.getD k ("", "", "")).2.1 (z_GSf.getD k ("", "", "")).2.2 (z_tr (z_f s0.heap.size ex) (z_sv k)) (z_old s0) s0 s0.heap
def z_K (s0 : State) (ex : Nat → Nat) (U : State) : Prop := s0.vm.Alike U.vm ∧ (∀ (i : Nat) (q : String × Nat × String), z_strs[i]? = some q → vk_R q.1 q.2.1 q.2.2 (ex (1 + i)) U) ∧ ∀ (a : String) (i : Nat) (x : MethodName) (h : String), Cond.methodLinkNest a i x h ∈ lw_tbl → va_Nw (.methodLinkNest a i x h) U
theorem z_K.same {s0 : State} {ex : Nat → Nat} {u U : State} (hv : U.vm = u.vm) (h : z_K s0 ex u) : z_K s0 ex U :=
  ⟨by rw [hv]; exact h.1, fun i q hq => vk_R.same hv (h.2.1 i q hq), fun a i x y hm => va_Nw.same rfl hv.symm (h.2.2 a i x y hm)⟩
theorem z_K.warm {s0 : State} {ex : Nat → Nat} {s U : State} (hW : s.WarmedH U.vm) (h : z_K s0 ex s) : z_K s0 ex U :=
  ⟨h.1.trans hW.alike, fun i q hq => vk_R.warm hW (h.2.1 i q hq), fun a i x y hm => va_Nw.warmM hW (h.2.2 a i x y hm)⟩
theorem z_f_new {N0 : Nat} {ex : Nat → Nat} {a : Nat} (h : zE ≤ a) : z_f N0 ex a = N0 + (a - zE) := by
  unfold z_f
  rw [if_neg (Nat.not_lt.mpr h)]
theorem z_f_ext {N0 : Nat} {ex : Nat → Nat} {a : Nat} (h : a < zE) : z_f N0 ex a = ex a := by
  unfold z_f
  rw [if_pos h]
theorem z_cell.kept {s0 : State} {D : va_G} {ex : Nat → Nat} {m m' : Nat → Nat → Value} {H H' : Heap} {a t n : Nat} (hh : H'[z_f s0.heap.size ex a]? = H[z_f s0.heap.size ex a]?) (hm : ∀ j, m' a j = m a j) (h : z_cell s0 D ex m H a t n) : z_cell s0 D ex m' H' a t n := by
  have hm' : m' a = m a := funext hm
  unfold z_cell at h ⊢
  rw [hm', hh]
  exact h
theorem z_rep.lt {s0 : State} {D : va_G} {aT : Nat → ClassId} {ex : Nat → Nat} {μ : zM} {H : Heap} (hG : z_G s0 D aT ex) (h : z_rep s0 D ex μ H) {a : Nat} (ha : a < μ.1.length) : z_f s0.heap.size ex a < H.size := by
  obtain ⟨h1, h2, -⟩ := h
  by_cases hE : a < zE
  · rw [z_f_ext hE]
    have := hG.2.1 a hE
    omega
  · rw [z_f_new (Nat.not_lt.mp hE)]
    omega
theorem z_f_ne {s0 : State} {D : va_G} {aT : Nat → ClassId} {ex : Nat → Nat} (hG : z_G s0 D aT ex) {a b : Nat} (ha : zE ≤ a) (hab : b ≠ a) : z_f s0.heap.size ex b ≠ z_f s0.heap.size ex a := by
  rw [z_f_new ha]
  by_cases hE : b < zE
  · rw [z_f_ext hE]
    have := hG.2.1 b hE
    omega
  · rw [z_f_new (Nat.not_lt.mp hE)]
    omega
/-- one cell changes -/
theorem z_rep.chg {s0 : State} {D : va_G} {aT : Nat → ClassId} {ex : Nat → Nat} {μ : zM} {H H' : Heap} (hG : z_G s0 D aT ex) (h : z_rep s0 D ex μ H) {a t n : Nat} {m' : Nat → Nat → Value} (hE : zE ≤ a) (ha : μ.1[a]? = some (t, n)) (hz : H'.size = H.size) (ho : ∀ q : Nat, q ≠ z_f s0.heap.size ex a → H'[q]? = H[q]?) (hm : ∀ b j, b ≠ a → m' b j = μ.2 b j) (hc : z_cell s0 D ex m' H' a t n) : z_rep s0 D ex (μ.1, m') H' := by
  obtain ⟨h1, h2, h3, h4⟩ := h
  refine ⟨h1, by rw [hz]; exact h2, fun q hq => ?_, fun b t' n' hb => ?_⟩
  · rw [ho q (by rw [z_f_new hE]; omega)]
    exact h3 q hq
  · by_cases hab : b = a
    · subst hab
      have e : some (t', n') = some (t, n) := hb.symm.trans ha
      cases e
      exact ⟨(h4 b t n ha).1, hc⟩
    · exact ⟨(h4 b t' n' hb).1, ((h4 b t' n' hb).2).kept (ho _ (z_f_ne hG hE hab)) (fun j => hm b j hab)⟩
/-- one cell comes -/
theorem z_rep.al {s0 : State} {D : va_G} {aT : Nat → ClassId} {ex : Nat → Nat} {μ : zM} {H H' : Heap} (hG : z_G s0 D aT ex) (h : z_rep s0 D ex μ H) {t n : Nat} {g : Nat → Value} (hz : H'.size = H.size + 1) (ho : ∀ q : Nat, q < H.size → H'[q]? = H[q]?) (hc : z_cell s0 D ex (z_nw μ.2 μ.1.length g) H' μ.1.length t n) : z_rep s0 D ex (z_al μ t n g) H' := by
  have hlt : ∀ b, b < μ.1.length → z_f s0.heap.size ex b < H.size := fun b hb => h.lt hG hb
  obtain ⟨h1, h2, h3, h4⟩ := h
  refine ⟨by simp [z_al]; omega, by simp [z_al]; omega, fun q hq => ?_, fun b t' n' hb => ?_⟩
  · rw [ho q (by omega)]
    exact h3 q hq
  · by_cases hl : b < μ.1.length
    · have hb' : μ.1[b]? = some (t', n') := by
        have := hb
        simp only [z_al] at this
        rwa [List.getElem?_append_left hl] at this
      exact ⟨(h4 b t' n' hb').1, ((h4 b t' n' hb').2).kept (ho _ (hlt b hl)) (fun j => by simp [z_al, z_nw, Nat.ne_of_lt hl])⟩
    · have hb' := hb
      simp only [z_al] at hb'
      rw [List.getElem?_append_right (Nat.not_lt.mp hl)] at hb'
      have hz0 : b - μ.1.length < 1 := (List.getElem?_eq_some_iff.mp hb').1
      have hbe : b = μ.1.length := by omega
      subst hbe
      rw [Nat.sub_self] at hb'
      cases hb'
      exact ⟨fun hE => by omega, hc⟩
theorem z_rep.f_len {s0 : State} {D : va_G} {ex : Nat → Nat} {μ : zM} {H : Heap} (h : z_rep s0 D ex μ H) : z_f s0.heap.size ex μ.1.length = H.size := by
  rw [z_f_new h.1]
  have := h.2.1
  have := h.1
  omega
theorem z_tgn {μ : zM} {a t : Nat} (h : z_tg μ a = t) (ht : t < 100) : μ.1[a]? = some (t, z_n μ a) := by
  unfold z_tg at h
  unfold z_n
  cases hq : μ.1[a]? with
  | none => rw [hq] at h; simp at h; omega
  | some q => rw [hq] at h; simp at h ⊢; rw [← h]
theorem z_in_vp {i : Int32} {n : Nat} (h : z_in i n = true) : ¬ (i < 0 ∨ n ≤ i.toNatClampNeg) := by
  have h1 : 0 ≤ i.toInt ∧ i.toInt < n := by
    unfold z_in at h
    simpa [Bool.and_eq_true] using h
  exact vp_in_iff.mpr h1
theorem z_in_lt {i : Int32} {n : Nat} (h : z_in i n = true) : i.toNatClampNeg < n := Nat.not_le.mp fun q => z_in_vp h (Or.inr q)
theorem z_i1_some {α : Type} {st : List Value} {k : Int32 → List Value → Option α} {o : α} (h : z_i1 st k = some o) : ∃ x r, st = .int x :: r ∧ k x r = some o := by
  unfold z_i1 at h
  split at h
  · exact ⟨_, _, rfl, h⟩
  · cases h
theorem z_i2_some {α : Type} {st : List Value} {k : Int32 → Int32 → List Value → Option α} {o : α} (h : z_i2 st k = some o) : ∃ x y r, st = .int y :: .int x :: r ∧ k x y r = some o := by
  unfold z_i2 at h
  split at h
  · exact ⟨_, _, _, rfl, h⟩
  · cases h
theorem z_l1_some {α : Type} {st : List Value} {k : Int64 → List Value → Option α} {o : α} (h : z_l1 st k = some o) : ∃ x r, st = .long x :: r ∧ k x r = some o := by
  unfold z_l1 at h
  split at h
  · exact ⟨_, _, rfl, h⟩
  · cases h
theorem z_l2_some {α : Type} {st : List Value} {k : Int64 → Int64 → List Value → Option α} {o : α} (h : z_l2 st k = some o) : ∃ x y r, st = .long y :: .long x :: r ∧ k x y r = some o := by
  unfold z_l2 at h
  split at h
  · exact ⟨_, _, _, rfl, h⟩
  · cases h
theorem z_li_some {α : Type} {st : List Value} {k : Int64 → Int32 → List Value → Option α} {o : α} (h : z_li st k = some o) : ∃ x y r, st = .int y :: .long x :: r ∧ k x y r = some o := by
  unfold z_li at h
  split at h
  · exact ⟨_, _, _, rfl, h⟩
  · cases h
theorem z_q1_some {α : Type} {st : List Value} {k : Nat → List Value → Option α} {o : α} (h : z_q1 st k = some o) : ∃ a r, st = .ref a :: r ∧ k a r = some o := by
  unfold z_q1 at h
  split at h
  · exact ⟨_, _, rfl, h⟩
  · cases h
theorem z_ri_some {α : Type} {st : List Value} {k : Nat → Int32 → List Value → Option α} {o : α} (h : z_ri st k = some o) : ∃ a i r, st = .int i :: .ref a :: r ∧ k a i r = some o := by
  unfold z_ri at h
  split at h
  · exact ⟨_, _, _, rfl, h⟩
  · cases h
theorem z_gi_some {α : Type} {L : zL} {i : Nat} {k : Int32 → Option α} {o : α} (h : z_gi L i k = some o) : ∃ x, z_get L i = some (.int x) ∧ k x = some o := by
  unfold z_gi at h
  split at h
  · exact ⟨_, by assumption, h⟩
  · cases h
theorem z_gl_some {α : Type} {L : zL} {i : Nat} {k : Int64 → Option α} {o : α} (h : z_gl L i k = some o) : ∃ x, z_get L i = some (.long x) ∧ k x = some o := by
  unfold z_gl at h
  split at h
  · exact ⟨_, by assumption, h⟩
  · cases h
theorem z_gr_some {α : Type} {L : zL} {i : Nat} {k : Nat → Option α} {o : α} (h : z_gr L i k = some o) : ∃ x, z_get L i = some (.ref x) ∧ k x = some o := by
  unfold z_gr at h
  split at h
  · exact ⟨_, by assumption, h⟩
  · cases h
theorem z_if_some {α : Type} {P : Prop} [Decidable P] {a o : α} (h : (if P then some a else none) = some o) : P ∧ a = o := by
  split at h
  · exact ⟨by assumption, Option.some.inj h⟩
  · cases h
theorem z_ifo_some {α : Type} {P : Prop} [Decidable P] {a : Option α} {o : α} (h : (if P then a else none) = some o) : P ∧ a = some o := by
  split at h
  · exact ⟨by assumption, h⟩
  · cases h
theorem z_ifn_some {α : Type} {P : Prop} [Decidable P] {a o : α} (h : (if P then none else some a) = some o) : ¬ P ∧ a = o := by
  split at h
  · cases h
  · exact ⟨by assumption, Option.some.inj h⟩
theorem z_fit_ok {f : Nat → Nat} {ty : FieldType} {v : Value} (h : z_fit ty v = true) : narrow ty (z_tr f v) = z_tr f v ∧ fits ty (z_tr f v) = true := by
  cases ty <;> cases v <;> simp [z_fit] at h
  all_goals first
    | exact ⟨rfl, rfl⟩
    | (rcases h with rfl | rfl <;> exact ⟨show narrow _ (Value.int _) = Value.int _ by decide, show fits _ (Value.int _) = true by decide⟩)
def z_slt (μ : zM) : Nat := (μ.1.map (fun q => q.2)).sum
theorem z_slt_al (μ : zM) (t n : Nat) (g : Nat → Value) : z_slt (z_al μ t n g) = z_slt μ + n := by simp [z_slt, z_al]
theorem z_len_al (μ : zM) (t n : Nat) (g : Nat → Value) : (z_al μ t n g).1.length = μ.1.length + 1 := by simp [z_al]
theorem z_als_len (μ : zM) (k : Nat) : ∀ n, (z_als μ n k).1.length = μ.1.length + n
  | 0 => rfl
  | n + 1 => by
    show (z_al (z_als μ n k) 1 k (fun _ => .long 0)).1.length = _
    rw [z_len_al, z_als_len μ k n]
    omega
theorem z_als_slt (μ : zM) (k : Nat) : ∀ n, z_slt (z_als μ n k) = z_slt μ + n * k
  | 0 => by simp [z_als]
  | n + 1 => by
    show z_slt (z_al (z_als μ n k) 1 k (fun _ => .long 0)) = _
    rw [z_slt_al, z_als_slt μ k n, Nat.add_mul]
    omega
