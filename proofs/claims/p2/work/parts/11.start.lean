/-! THE LAW'S START: the machine holds the small memory that the law begins with -/
def z_m0 (xs : Nat → Int32) : Nat → Nat → Value := fun a j => if a = 0 then .int (xs j) else if a < 19 then (if j = 0 then .ref (18 + a) else .int 0) else if a < 37 then .int ((z_byt.getD (a - 19) []).getD j 0) else .int ((z_dig (a - 37)).getD j 0)
def z_sh0 (L : Nat) : List (Nat × Nat) := (0, L) :: (List.replicate 18 (9, 2) ++ (z_byt.map (fun b => (2, b.length)) ++ [(2, 100), (2, 100)]))
def z_mu0 (L : Nat) (xs : Nat → Int32) : zM := (z_sh0 L, z_m0 xs)
theorem z_sh0_0 (L : Nat) : (z_sh0 L)[0]? = some (0, L) := rfl
theorem z_sh0_tx : ∀ i, i < 18 → (z_sh0 0)[1 + i]? = some (9, 2) := by decide +kernel
theorem z_sh0_by : ∀ i, i < 18 → (z_sh0 0)[19 + i]? = some (2, (z_byt.getD i []).length) := by decide +kernel
theorem z_sh0_dg : ∀ i, i < 2 → (z_sh0 0)[37 + i]? = some (2, 100) := by decide +kernel
theorem z_sh0_len : (z_sh0 0).length = 39 := by decide +kernel
theorem z_sh0_ne (L : Nat) {i : Nat} (h : 0 < i) : (z_sh0 L)[i]? = (z_sh0 0)[i]? := by
  obtain ⟨j, rfl⟩ : ∃ j, i = j + 1 := ⟨i - 1, by omega⟩
  rfl
theorem z_byt_len : ∀ i, i < 18 → (z_byt.getD i []).length < 2147483648 := by decide +kernel
theorem z_byt_fit : ∀ i, i < 18 → ∀ j, j < (z_byt.getD i []).length → fits .byte (.int ((z_byt.getD i []).getD j 0)) = true := by decide +kernel
theorem z_dig_fit : ∀ k, k < 2 → ∀ j, j < 100 → fits .byte (.int ((z_dig k).getD j 0)) = true := by decide +kernel
theorem z_w_l {n : Nat} {w : Cond} (h : z_w n = some w) (hne : ∀ y, w ≠ Cond.selects "java/lang/StringBuilde\x72" y y) : w ∈ lw_tbl := by
  rcases List.mem_append.mp (z_w_tbl h) with h | h
  · exact h
  · obtain ⟨y, -, hy⟩ := List.mem_map.mp h
    exact absurd hy.symm (hne y)
section ZSTART
variable {s : State} {b L : Nat} {xs : Nat → Int32}
theorem z_ders (hts : ∀ w ∈ lw_tbl, w.before #[Value.ref b] s = true) : ∀ w ∈ zBIG, w.before #[Value.ref b] s = true := by
  intro w hw
  rcases List.mem_append.mp (List.mem_filter.mp hw).1 with h | h
  · exact hts w h
  · obtain ⟨y, hy, rfl⟩ := List.mem_map.mp h
    obtain ⟨k, hk⟩ := List.getElem?_of_mem hy
    have hk6 : k < 6 := (List.getElem?_eq_some_iff.mp hk).1
    obtain ⟨e1, e2, e3⟩ := z_de_ok k hk6
    have hyk : z_der.getD k ⟨"", "", ""⟩ = y := by rw [List.getD_eq_getElem?_getD, hk]; rfl
    rw [hyk] at e1 e2 e3
    have hpriv := hts _ (z_w_l e1 (fun _ h => by cases h))
    have hinst := hts _ (z_w_l e2 (fun _ h => by cases h))
    obtain ⟨e4, e5, e6⟩ := z_sb_ok
    have hsel : (Cond.selects "java/lang/StringBuilde\x72" z_yL z_yL).before #[Value.ref b] s = true := by
      have h9 := z_w_tbl e4
      rcases List.mem_append.mp h9 with h | h
      · exact hts _ h
      · obtain ⟨y', hy', he⟩ := List.mem_map.mp h
        injection he with _ he _
        subst he
        exact absurd hy' (by decide +kernel)
    have hins := hts _ (z_w_l e5 (fun _ h => by cases h))
    have hinL := hts _ (z_w_l e6 (fun _ h => by cases h))
    obtain ⟨cB, kB, hcB, hkB, -⟩ := Cond.instantiable_spec hins
    obtain ⟨mk, methM, hnamed, hmethM, -, -⟩ := Cond.instanceMethod_spec hinst
    obtain ⟨mL, methL, hnamedL, hmethL, -, -⟩ := Cond.instanceMethod_spec hinL
    have hny : y.cls ≠ "java/lang/invoke/MethodHandle" ∧ y.cls ≠ "java/lang/invoke/VarHandle" := by rw [e3]; decide
    have hfound : s.methodFound? y.cls y.name y.desc = some mk := State.methodFound?_of_named hnamed hny
    have hfoundL : s.methodFound? z_yL.cls z_yL.name z_yL.desc = some mL := State.methodFound?_of_named hnamedL (by decide)
    have hcls : mk.cls = mL.cls := by
      have h1 := findClass_of_methodNamed hnamed
      have h2 := findClass_of_methodNamed hnamedL
      rw [e3] at h1
      exact Option.some.inj (h1.symm.trans h2)
    have hseL : selectMethod {} s.vm cB mk = .method mk := selectMethod_private hmethM (Cond.privateMethod_at hpriv mk methM hnamed hmethM)
    simp only [Cond.before, Cond.holds, Cond.value, hcB, hfoundL, hnamedL] at hsel
    simp only [Cond.before, Cond.holds, Cond.value, hcB, hfound, hnamed, hseL, hcls]
    cases hsm : selectMethod {} s.vm cB mL with
    | method m' =>
      rw [hsm] at hsel
      simp at hsel ⊢
      exact hsel.2
    | _ =>
      rw [hsm] at hsel
      simp at hsel
theorem z_giv_at (hgv : z_giv.before #[Value.ref b] s = true) {n : Nat} {w : Cond} (h : (flatA z_giv [])[n]? = some w) : w.before #[Value.ref b] s = true := by
  rcases flatA_in _ _ _ (List.mem_of_getElem? h) with h | h
  · exact flat_of_before _ hgv _ h
  · cases h
theorem z_giv_all (hgv : z_giv.before #[Value.ref b] s = true) {ps : List Nat} {ws : List Cond} (h : ps.map (fun n => (flatA z_giv [])[n]?) = ws.map some) : ∀ w ∈ ws, w.before #[Value.ref b] s = true := by
  intro w hw
  have h1 : some w ∈ ws.map some := List.mem_map.mpr ⟨w, hw, rfl⟩
  rw [← h] at h1
  obtain ⟨n, -, hn⟩ := List.mem_map.mp h1
  exact z_giv_at hgv hn
set_option maxHeartbeats 1000000 in
theorem z_start (hts : ∀ w ∈ lw_tbl, w.before #[Value.ref b] s = true) (hgv : z_giv.before #[Value.ref b] s = true) (hX : va_X b L xs s s.heap) : ∃ (D : va_G) (ex : Nat → Nat), z_G s D (fun _ => 0) ex ∧ z_K s ex s ∧ ex 0 = b ∧ z_rep s D ex (z_mu0 L xs) s.heap := by
  have htsB := z_ders hts
  have hA : ∀ a : Nat, a < s.heap.size → ¬ z_old s a := fun a h => Nat.not_le.mpr h
  -- the classes
  have hcl : ∀ c : Nat, ∃ g : ClassId × (Nat → Nat), c < 14 → u_Kn s (z_cl c).1 (z_cl c).2.1 (z_cl c).2.2 g.1 g.2 := by
    intro c
    by_cases hc : c < 14
    · have h1 := hts _ (z_w_l (z_ins_ok c hc) (fun _ h => by cases h))
      obtain ⟨cC, iS, h2⟩ := u_known (C := (z_cl c).1) (T := (z_cl c).2.1) (N := (z_cl c).2.2) htsB (z_lays hc) h1
      exact ⟨(cC, iS), fun _ => h2⟩
    · exact ⟨(0, fun _ => 0), fun h => absurd h hc⟩
  obtain ⟨gC, hgC⟩ := Classical.axiomOfChoice hcl
  -- the texts
  have htx : ∀ i : Nat, ∃ g : Nat × Nat, i < 18 → (z_tm i).eval #[Value.ref b] s none [] s = some (.ref g.1) ∧ va_O "java/lang/String" g.1 (z_old s) s s.heap ∧ va_OF "java/lang/String" "code\x72" "B" (.int 0) g.1 (z_old s) s s.heap ∧ va_OF "java/lang/String" "value" "[B" (.ref g.2) g.1 (z_old s) s s.heap ∧ va_T .byte g.2 (z_byt.getD i []).length (fun j => .int ((z_byt.getD i []).getD j 0)) (z_old s) s s.heap := by
    intro i
    by_cases hi : i < 18
    · have hw := z_giv_all hgv (z_tx_ok i hi)
      have h1 : (Cond.exactly (z_tm i) "java/lang/String").before #[Value.ref b] s = true := hw _ (by simp [z_txw])
      have h2 : (Cond.eq (.field (z_tm i) "java/lang/String" "code\x72" "B") (.int 0)).before #[Value.ref b] s = true := hw _ (by simp [z_txw])
      have h3 : (Cond.arrayOf (z_tv i) .byte).before #[Value.ref b] s = true := hw _ (by simp [z_txw])
      have h4 : (Cond.eq (.length (z_tv i)) (.int (Int32.ofNat (z_byt.getD i []).length))).before #[Value.ref b] s = true := hw _ (by simp [z_txw])
      have h5 : ∀ j, j < (z_byt.getD i []).length → (Cond.eq (.elem (z_tv i) (.int (Int32.ofNat j))) (.int ((z_byt.getD i []).getD j 0))).before #[Value.ref b] s = true := fun j hj => hw _ (List.mem_append_right _ (List.mem_map.mpr ⟨j, List.mem_range.mpr hj, rfl⟩))
      obtain ⟨adK, adV, hS, hev⟩ := vk_Sof (N := 1) (tm := fun _ => z_tm i) (len := [(z_byt.getD i []).length]) (byt := [z_byt.getD i []]) (A := z_old s) (args := #[Value.ref b]) (s := s) (fun k hk => by
        obtain rfl : k = 0 := by omega
        exact z_byt_len i hi) (fun _ _ => h1) (fun _ _ => h2) (fun _ _ => h3) (fun k hk => by
        obtain rfl : k = 0 := by omega
        exact h4) (fun k hk j hj => by
        obtain rfl : k = 0 := by omega
        exact h5 j hj) (fun k j hk hj hkj => by omega) hA
      obtain ⟨q1, q2, q3, q4⟩ := hS.1 0 (by omega)
      exact ⟨(adK 0, adV 0), fun _ => ⟨hev 0 (by omega), q1, q2, q3, q4⟩⟩
    · exact ⟨(0, 0), fun h => absurd h hi⟩
  obtain ⟨gT, hgT⟩ := Classical.axiomOfChoice htx
  -- the digits
  have hdg : ∀ k : Nat, ∃ t : Nat, k < 2 → (z_dt k).eval #[Value.ref b] s none [] s = some (.ref t) ∧ va_T .byte t 100 (fun j => .int ((z_dig k).getD j 0)) (z_old s) s s.heap := by
    intro k
    by_cases hk : k < 2
    · have hw := z_giv_all hgv (z_dg_ok k hk)
      have h3 : (Cond.arrayOf (z_dt k) .byte).before #[Value.ref b] s = true := hw _ (by simp [z_dgw])
      have h4 : (Cond.eq (.length (z_dt k)) (.int (Int32.ofNat 100))).before #[Value.ref b] s = true := hw _ (by simp [z_dgw])
      have h5 : ∀ j, j < 100 → (Cond.eq (.elem (z_dt k) (.int (Int32.ofNat j))) (.int ((z_dig k).getD j 0))).before #[Value.ref b] s = true := fun j hj => hw _ (List.mem_append_right _ (List.mem_map.mpr ⟨j, List.mem_range.mpr hj, rfl⟩))
      obtain ⟨t, ht, hT⟩ := va_Tof (N := 100) (f := fun j => .int ((z_dig k).getD j 0)) (A := z_old s) (by decide) h3 (va_eqt h4) (fun j hj => va_eqt (h5 j hj)) hA
      exact ⟨t, fun _ => ⟨ht, hT⟩⟩
    · exact ⟨0, fun h => absurd h hk⟩
  obtain ⟨gD, hgD⟩ := Classical.axiomOfChoice hdg
  have hmi := z_mi_ok
  simp only [List.map_cons, List.map_nil, List.cons.injEq, and_true] at hmi
  have hls : ∀ k, k < 4 → (Cond.laysStatic (z_GSf.getD k ("", "", "")).1 (z_GSf.getD k ("", "", "")).2.1 (z_GSf.getD k ("", "", "")).2.2).before #[Value.ref b] s = true ∧ (Cond.initialized (z_GSf.getD k ("", "", "")).1).before #[Value.ref b] s = true := by
    intro k hk
    obtain ⟨e1, e2⟩ := z_sl_ok k hk
    exact ⟨hts _ (z_w_l e1 (fun _ h => by cases h)), hts _ (z_w_l e2 (fun _ h => by cases h))⟩
  refine ⟨(fun c => (gC c).1, fun c => (gC c).2), fun i => if i = 0 then b else if i < 19 then (gT (i - 1)).1 else if i < 37 then (gT (i - 19)).2 else gD (i - 37), ?_, ?_, rfl, ?_⟩
  · refine ⟨⟨fun c q hq => ?_, fun k q h => by simp at h⟩, fun i hi => ?_, ?_, fun k hk => ?_⟩
    · have hc : c < 14 := (List.getElem?_eq_some_iff.mp hq).1
      cases (z_cl_in hc).symm.trans hq
      exact hgC c hc
    · dsimp only
      have hi' : i < 39 := hi
      by_cases h0 : i = 0
      · rw [if_pos h0]
        obtain ⟨scr, h1, -⟩ := hX
        exact (Array.getElem?_eq_some_iff.mp h1).1
      · rw [if_neg h0]
        by_cases h1 : i < 19
        · rw [if_pos h1]
          obtain ⟨-, ⟨cl0, g1, -⟩, -⟩ := hgT (i - 1) (by omega)
          exact (Array.getElem?_eq_some_iff.mp g1).1
        · rw [if_neg h1]
          by_cases h2 : i < 37
          · rw [if_pos h2]
            obtain ⟨-, -, -, -, ⟨cl0, g1, -⟩⟩ := hgT (i - 19) (by omega)
            exact (Array.getElem?_eq_some_iff.mp g1).1
          · rw [if_neg h2]
            obtain ⟨-, ⟨cl0, g1, -⟩⟩ := hgD (i - 37) (by omega)
            exact (Array.getElem?_eq_some_iff.mp g1).1
    · obtain ⟨v, hv, hvr⟩ := Cond.isRef_spec (z_giv_at hgv hmi.2)
      obtain ⟨e1, e2⟩ := hls 3 (by omega)
      refine ⟨⟨v, ?_, va_Zof e1 e2 hv hA⟩, ?_⟩
      · cases v <;> simp [Value.isRef] at hvr <;> rfl
      · have h1 := hts (Cond.arrayOver (.array .long)) (z_w_l (n := 2107) (by decide +kernel) (fun _ h => by cases h))
        exact h1
    · obtain ⟨e1, e2⟩ := hls k (by omega)
      rcases (show k = 0 ∨ k = 1 ∨ k = 2 by omega) with rfl | rfl | rfl
      · exact va_Zof e1 e2 (va_eqi (z_giv_at hgv hmi.1)) hA
      · exact va_Zof e1 e2 (hgD 0 (by omega)).1 hA
      · exact va_Zof e1 e2 (hgD 1 (by omega)).1 hA
  · refine ⟨Vm.Alike.refl _, fun i q hq => ?_, fun a i x h hm => va_Nw.of rfl (hts _ hm)⟩
    have hi : i < 18 := (List.getElem?_eq_some_iff.mp hq).1
    have hqi : z_strs.getD i ("", 0, "") = q := by rw [List.getD_eq_getElem?_getD, hq]; rfl
    have e1 := hts _ (z_w_l (z_txr_ok i hi) (fun _ h => by cases h))
    have e2 := (hgT i hi).1
    rw [hqi] at e1
    unfold z_tm at e2
    rw [hqi] at e2
    have e3 := vk_R.of e1 e2
    dsimp only
    rw [if_neg (by omega), if_pos (by omega), Nat.add_sub_cancel_left]
    exact e3
  · refine ⟨?_, ?_, fun q _ => rfl, fun a t n ha => ?_⟩
    · show 39 ≤ (z_sh0 L).length
      exact Nat.le_of_eq z_sh0_len.symm
    · show s.heap.size + 39 = s.heap.size + (z_sh0 L).length
      rw [show (z_sh0 L).length = 39 from z_sh0_len]
    · have ha : (z_sh0 L)[a]? = some (t, n) := ha
      have hlt : a < 39 := by
        have := (List.getElem?_eq_some_iff.mp ha).1
        rw [show (z_sh0 L).length = 39 from z_sh0_len] at this
        exact this
      show (a < zE → t < 10) ∧ z_cell s _ _ (z_m0 xs) s.heap a t n
      have hf : ∀ (g : Nat → Nat), z_f s.heap.size g a = g a := fun g => z_f_ext hlt
      by_cases h0 : a = 0
      · subst h0
        rw [z_sh0_0] at ha
        cases ha
        obtain ⟨scr, g1, g2, g3, g4, g5⟩ := hX
        refine ⟨fun _ => by omega, ⟨fun _ => ⟨⟨scr, ?_, g2, g3, ⟨Nat.le_of_eq g4.symm, by rw [g4] <;> rfl⟩, fun j hj => g5 j hj⟩, fun j _ => ⟨xs j, rfl⟩⟩, fun h => by omega, fun h => by omega⟩⟩
        rw [hf]
        exact g1
      · rw [z_sh0_ne L (by omega)] at ha
        by_cases h1 : a < 19
        · obtain ⟨i, rfl⟩ : ∃ i, a = 1 + i := ⟨a - 1, by omega⟩
          rw [z_sh0_tx i (by omega)] at ha
          cases ha
          obtain ⟨-, q1, q2, q3, -⟩ := hgT i (by omega)
          refine ⟨fun _ => by omega, ⟨fun h => by omega, fun _ => ?_, fun h => by omega⟩⟩
          rw [hf]
          try dsimp only
          rw [if_neg (by omega), if_pos h1, Nat.add_sub_cancel_left]
          have em0 : z_m0 xs (1 + i) 0 = .ref (19 + i) := by
            unfold z_m0
            rw [if_neg (by omega), if_pos h1, if_pos rfl]
            exact congrArg Value.ref (show (18 + (1 + i) : Nat) = 19 + i by omega)
          have em1 : z_m0 xs (1 + i) 1 = .int 0 := by
            unfold z_m0
            rw [if_neg (by omega), if_pos h1, if_neg (by omega)]
          rw [em0, em1]
          refine ⟨?_, q2, ?_⟩
          · show va_OF "java/lang/String" "value" "[B" (.ref (z_f _ _ (19 + i))) _ _ _ _
            rw [z_f_ext (by show 19 + i < 39; omega)]
            try dsimp only
            rw [if_neg (by omega), if_neg (by omega), if_pos (by omega), Nat.add_sub_cancel_left]
            exact q3
          · obtain ⟨cl0, g1, g2, g3, -⟩ := q1
            exact ⟨cl0, g1, g2, g3⟩
        · have key : ∀ (ad N : Nat) (f : Nat → Int32), va_T .byte ad N (fun j => .int (f j)) (z_old s) s s.heap → (∀ g : Nat → Nat, g a = ad → ∀ DD, (∀ j, j < N → z_m0 xs a j = .int (f j)) → (∀ j, j < N → fits .byte (.int (f j)) = true) → z_cell s DD g (z_m0 xs) s.heap a 2 N) := by
            intro ad N f hT g hg DD hm hfit
            obtain ⟨cl0, g1, g2, g3, g4, g5, g6, -⟩ := hT
            refine ⟨fun _ => ⟨⟨cl0, by rw [hf, hg]; exact g1, g2, g3, ⟨g4, g5⟩, fun j hj => by rw [hm j hj]; exact g6 j hj⟩, fun j hj => ⟨f j, hm j hj, hfit j hj⟩⟩, fun h => by omega, fun h => by omega⟩
          by_cases h2 : a < 37
          · obtain ⟨i, rfl⟩ : ∃ i, a = 19 + i := ⟨a - 19, by omega⟩
            rw [z_sh0_by i (by omega)] at ha
            cases ha
            obtain ⟨-, -, -, -, q4⟩ := hgT i (by omega)
            refine ⟨fun _ => by omega, key _ _ _ q4 _ ?_ _ (fun j _ => ?_) (z_byt_fit i (by omega))⟩
            · try dsimp only
              rw [if_neg (by omega), if_neg (by omega), if_pos h2, Nat.add_sub_cancel_left]
            · unfold z_m0
              rw [if_neg (by omega), if_neg (by omega), if_pos h2, Nat.add_sub_cancel_left]
          · obtain ⟨i, rfl⟩ : ∃ i, a = 37 + i := ⟨a - 37, by omega⟩
            rw [z_sh0_dg i (by omega)] at ha
            cases ha
            refine ⟨fun _ => by omega, key _ _ _ (hgD i (by omega)).2 _ ?_ _ (fun j _ => ?_) (z_dig_fit i (by omega))⟩
            · try dsimp only
              rw [if_neg (by omega), if_neg (by omega), if_neg (by omega), Nat.add_sub_cancel_left]
            · unfold z_m0
              rw [if_neg (by omega), if_neg (by omega), if_neg (by omega), Nat.add_sub_cancel_left]
end ZSTART
