/-! THE LAW OUT OF A RUN OF THE MINI MACHINE (from 'def R_law' to lw_At: the skeleton's own text) -/
def R_law : String := "RangeAnswersLaw"
def lw_P (b : Addr) (xs : List Int32) (args : Array Value) (s : State) : Prop := args = #[.ref b] ∧ s.IntsAt b xs ∧ xs.length ≤ 3072 ∧ (Jvm.Cond.and given_1 narrow_1).before args s = true
def lw_Q (_ : Array Value) (s : State) (o : Outcome) (t : State) : Prop := o = .returned (some (.int 1)) ∧ Framed s o t [] 600000 7302249
def lw_Z (below : List Frame) (a : Array Value) (s : State) : State → Prop := fun t => ∃ o, t.status = .running ∧ Ended t below o ∧ lw_Q a s o t
/-- the law's own end, with 1 on the stack, nothing written that was there before, its room as the claim has it -/
theorem lw_ret {p : Program} {l : Launch} {e : Env} {s : State} {m : MethodId} {below : List Frame} {meth : Method} {c : Code} {b : Nat} (hx : p.tables.exec = Jvm.exec) (hb : c.code = code) (hr : meth.sig.returnType = ret) (hlocks : meth.locks = false) {pc : Nat} {H : Heap} {ls : Array Slot} (hdg : decode code pc = .ok (.ireturn, 1)) : W p l e room_1 s m #[Value.ref b] below meth c H [] 600000 7302249 (lw_Z below #[Value.ref b] s) (F0 m pc ls [.int 1]) := by
  intro T hT X
  obtain ⟨fs, hret, hrun, hended, hW, hframe⟩ := X.leave (v := some (.int 1)) (hlocks := hlocks) (fun h => by rw [hr] at h; cases h)
  have hmeth' : T.vm.method? m = some meth := X.method'
  refine ⟨T.setFrames fs, ?_, .returned (some (.int 1)), hrun, hended, rfl, ⟨_, rfl⟩, hW, hframe⟩
  jvm_step X.here [X.here.top, hx, hb, hdg, hmeth', hr, ret, narrow_b1]
  (try refine ⟨rfl, ?_⟩); (try refine ⟨rfl, ?_⟩)
  first | (intro acts; rw [hret _ acts rfl rfl rfl]) | rw [hret _ _ rfl rfl rfl]
  exact Steps.refl _
/-- what holds at the law's entry: the machine, the code, the tables' words (any of lw_tbl by 'hts w (by decide +kernel)'), the script of L ints xs at the cell b, what the Statement gives of the start (any of its parts by flat_of_before) -/
def lw_At (p : Program) (s : State) (m : MethodId) (meth : Method) (c : Code) (b L : Nat) (xs : Nat → Int32) : Prop :=
  p.tables.exec = Jvm.exec ∧ c.code = code ∧ meth.sig.returnType = ret ∧ c.maxLocals = 4 ∧ s.vm.findClass R_law = some m.cls ∧ (∀ w ∈ lw_tbl, w.before #[Value.ref b] s = true) ∧ va_X b L xs s s.heap ∧ b < s.heap.size ∧ meth.locks = false ∧ (Jvm.Cond.and given_1 narrow_1).before #[Value.ref b] s = true
theorem z_cL_ok : ∀ ch ∈ z_cL, ∀ r ∈ ch, decode code r.1 = .ok r.2 := z_okLall
/-- a run of the law's record from the start that answers 1, within the room -/
def z_goal (N : Nat) : Prop := ∀ (L : Nat) (xs : Nat → Int32), L ≤ N → ∃ (n d : Nat) (μ' : zM), d ≤ 1000 ∧ z_exec n d 1000 0 [(0, .ref 0)] [] (z_mu0 L xs) = some (some (.int 1), μ') ∧ μ'.1.length ≤ 600039 ∧ z_slt μ' ≤ 7302249 + z_slt (z_mu0 L xs)
theorem z_law {N : Nat} (hrun : z_goal N) {p : Program} {e : Env} {s : State} {m : MethodId} {below : List Frame} {meth : Method} {c : Code} (l : Launch) {b L : Nat} {xs : Nat → Int32} (hL : L ≤ N) (C0 : lw_At p s m meth c b L xs) : W p l e room_1 s m #[Value.ref b] below meth c s.heap [] 0 0 (lw_Z below #[Value.ref b] s) (entryFrame m ([Value.ref b] : List Value).toArray 4) := by
  obtain ⟨hx, hb, hr, hml, hown, hts, hX, hbl, hlocks, hgv⟩ := id C0
  obtain ⟨D, ex, hG, hK, hex0, hM⟩ := z_start hts hgv hX
  obtain ⟨n, d, μ', hd, hr', hc, hs⟩ := hrun L xs hL
  have hl := lv_entry ([.ref b]) (n := 4) (Nat.le_of_ble_eq_true rfl)
  rw [lg_entry_eq]
  generalize (lg_sl ([.ref b]) ++ List.replicate (4 - (lg_sl ([.ref b])).length) Slot.unset).toArray = ls at hl ⊢
  have hl : lv_has ls 4 [(0, .ref b)] := hl
  have hB : z_B p s s ex m #[Value.ref b] meth c z_rL := ⟨hx, hb, hml, hr, hlocks, hown, z_ders hts, hK, (fun h => absurd h (by decide)), z_cL_ok, rfl⟩
  have hl2 : lv_has ls 4 ([(0, Value.ref 0)].map (z_trp (z_f s.heap.size ex))) := by
    have e1 : ([(0, Value.ref 0)] : zL).map (z_trp (z_f s.heap.size ex)) = [(0, .ref b)] := by
      show [(0, Value.ref (z_f s.heap.size ex 0))] = _
      rw [z_f_ext (by decide), hex0]
    rw [e1]
    exact hl
  have hlen : (z_mu0 L xs).1.length = 39 := z_sh0_len
  refine z_run hG n d 1000 z_rL 0 [(0, .ref 0)] [] (z_mu0 L xs) _ μ' rfl hr' p e room_1 s m #[Value.ref b] below meth c s.heap [] 0 0 _ ls hB hM hl2 (fun _ h => by cases h) (by show d + 2 ≤ 2048; omega) (by show 60 * (d + 2) ≤ 84000; omega) (by show 0 + _ ≤ 600000; omega) (by show 0 + _ ≤ 7302249; omega) ?_
  intro H' ls' locs' pc' st' hM' hlo' hret
  obtain ⟨i, hdi, hcase⟩ := hret
  rcases hcase with ⟨rfl, rfl, h3, h4⟩ | ⟨x, ty, rfl, rfl, h3, h4, h5⟩ | ⟨x, rfl, rfl, h3, h4⟩ | ⟨a, rfl, rfl, h3, h4⟩
  · cases h4
  · cases h5
    exact va_forget (fun q hq => hlo' q hq) (W.widen (by omega) (by omega) (lw_ret hx hb hr hlocks hdi))
  · cases h4
  · cases h4
