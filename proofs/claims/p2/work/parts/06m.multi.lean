/-! new long[n][k]: the outer array, then the inner ones -/
theorem z_als_1 (μ : zM) (k : Nat) : ∀ n, (z_als μ n k).1 = μ.1 ++ List.replicate n (1, k)
  | 0 => by simp [z_als]
  | n + 1 => by
    show (z_als μ n k).1 ++ [(1, k)] = _
    rw [z_als_1 μ k n, List.append_assoc, ← List.replicate_succ']
theorem z_als_2 (μ : zM) (k : Nat) : ∀ (n b j : Nat), (z_als μ n k).2 b j = if μ.1.length ≤ b ∧ b < μ.1.length + n then .long 0 else μ.2 b j
  | 0, b, j => by
    rw [if_neg (by omega)]
    rfl
  | n + 1, b, j => by
    have hlen : (z_als μ n k).1.length = μ.1.length + n := by rw [z_als_1]; simp
    show (if b = (z_als μ n k).1.length then Value.long 0 else (z_als μ n k).2 b j) = _
    rw [hlen, z_als_2 μ k n b j]
    by_cases h : b = μ.1.length + n
    · rw [if_pos h, if_pos (by omega)]
    · rw [if_neg h]
      by_cases h2 : μ.1.length ≤ b ∧ b < μ.1.length + n
      · rw [if_pos h2, if_pos (by omega)]
      · rw [if_neg h2, if_neg (by omega)]
section ZML
variable {p : Program} {l : Launch} {e : Env} {R : Room} {s : State} {m : MethodId} {args : Array Value} {below : List Frame} {meth : Method} {c : Code} {H : Heap} {locs : List Loc} {cells slots : Nat} {Q : State → Prop}
variable {pc : Nat} {ls : Array Slot} {rest : List Value} {s0 : State} {D : va_G} {aT : Nat → ClassId} {ex : Nat → Nat} {q : z_R} {μ : zM}
theorem zr_multi (hB : z_B p s0 s ex m args meth c q) (hG : z_G s0 D aT ex) (hM : z_rep s0 D ex μ H) {x y : Int32} (hq : q.1.cls = "RangeAnswers$Lists") (h1 : 0 ≤ x.toInt) (h2 : x.toInt ≤ 60000) (h3 : 0 ≤ y.toInt) (h4 : y.toInt ≤ 60000) (hcells : cells + (1 + x.toNatClampNeg) ≤ R.cells) (hslots : slots + (x.toNatClampNeg + x.toNatClampNeg * y.toNatClampNeg) ≤ R.slots) (hdg : decode q.2.1 pc = .ok (.multianewarray 11 2, 4))
    (kk : ∀ H' : Heap, z_rep s0 D ex (z_als (z_al μ 3 x.toNatClampNeg (fun j => .ref (μ.1.length + 1 + j))) x.toNatClampNeg y.toNatClampNeg) H' → W p l e R s m args below meth c H' locs (cells + 1 + x.toNatClampNeg) (slots + x.toNatClampNeg + x.toNatClampNeg * y.toNatClampNeg) Q (F0 m (pc + 4) ls (.ref (z_f s0.heap.size ex μ.1.length) :: rest))) : W p l e R s m args below meth c H locs cells slots Q (F0 m pc ls (.int y :: .int x :: rest)) := by
  have hfl := hM.f_len
  have hlt := fun (b : Nat) (hb : b < μ.1.length) => hM.lt hG hb
  obtain ⟨hx, hb, -, -, -, hown, hts, hZ, -⟩ := hB
  have nn : ∀ z : Int32, 0 ≤ z.toInt → z.toInt = (z.toNatClampNeg : Int) ∧ ¬ z < 0 := by
    intro z hz
    refine ⟨?_, fun h => ?_⟩
    · show z.toInt = ((z.toInt.toNat : Nat) : Int)
      omega
    · have := Int32.lt_iff_toInt_lt.mp h
      simp at this
      omega
  have ex1 := (nn x h1).1
  have ey1 := (nn y h3).1
  have w1 : Cond.classLink "RangeAnswers$Lists" 11 "[[J" ∈ zBIG := z_w_in (n := 2106) (by decide +kernel) rfl
  have w2 : (Cond.arrayOver (.array .long)).before args s = true := by
    have h1 := hG.2.2.1.2
    rw [← Cond.arrayOver_setVmC hZ.1 (.array .long)] at h1
    exact h1
  intro T hT Xs
  obtain ⟨vm₁, cA, comp, -, fA, fC, hO, hI, X', step⟩ := Jvm.Stand.multianewarray2F Xs (ty := .long) (index := 11) hx hown (by rw [hq]; exact hts _ w1) w2 (hts _ z_ac_long) (g := F0 m pc ls (.int y :: .int x :: rest)) rfl (by rw [hb]; exact hdg) (n := x) (k := y) (rest := rest) rfl (nn x h1).2 (nn y h3).2 (by omega) (by show y.toNatClampNeg * 8 ≤ _; omega) (by omega) rfl rfl hcells hslots
  generalize x.toNatClampNeg = n at *
  generalize y.toNatClampNeg = k at *
  generalize hF : Jvm.Free.Multi.fill (T.setVm vm₁) cA comp n k (defaultValue .long) n = F at X' step
  have hTh : (T.setVm vm₁).heap = H := hT
  obtain ⟨f1, f2, -, -⟩ := Jvm.Free.Multi.fill_facts (T.setVm vm₁) cA comp n k (defaultValue .long) n
  rw [hF, hTh] at f1 f2
  have f3 : ∀ a : Nat, a < H.size → F.heap[a]? = H[a]? := by
    intro a ha
    have := Jvm.Free.Multi.fill_old (T.setVm vm₁) cA comp n k (defaultValue .long) (a := a) (by rw [hTh]; exact ha) n
    rw [hF, hTh] at this
    exact this
  have f4 : ∀ j : Nat, j < n → F.heap[H.size + 1 + j]? = some (Jvm.Free.Multi.innerC comp k (defaultValue .long)) := by
    intro j hj
    have := Jvm.Free.Multi.fill_inner (T.setVm vm₁) cA comp n k (defaultValue .long) n j hj
    rw [hF, hTh] at this
    exact this
  obtain ⟨o1, o2, o3⟩ := Jvm.Free.Multi.outerC_facts cA n H.size n
  have hrep : z_rep s0 D ex (z_als (z_al μ 3 n (fun j => .ref (μ.1.length + 1 + j))) n k) F.heap := by
    obtain ⟨g1, g2, g3, g4⟩ := hM
    have hlen0 : (z_al μ 3 n (fun j => Value.ref (μ.1.length + 1 + j))).1.length = μ.1.length + 1 := z_len_al _ _ _ _
    have hsh : (z_als (z_al μ 3 n (fun j => Value.ref (μ.1.length + 1 + j))) n k).1 = μ.1 ++ [(3, n)] ++ List.replicate n (1, k) := z_als_1 _ _ _
    have hme : ∀ b j, (z_als (z_al μ 3 n (fun j => Value.ref (μ.1.length + 1 + j))) n k).2 b j = if μ.1.length + 1 ≤ b ∧ b < μ.1.length + 1 + n then .long 0 else if b = μ.1.length then .ref (μ.1.length + 1 + j) else μ.2 b j := by
      intro b j
      rw [z_als_2, hlen0]
      rfl
    refine ⟨by rw [hsh]; simp; omega, by rw [hsh, f1]; simp; omega, fun r hr => by rw [f3 r (by omega)]; exact g3 r hr, fun a t n' ha => ?_⟩
    rw [hsh] at ha
    by_cases ha1 : a < μ.1.length
    · rw [List.append_assoc, List.getElem?_append_left ha1] at ha
      refine ⟨(g4 a t n' ha).1, ((g4 a t n' ha).2).kept (f3 _ (hlt a ha1)) (fun j => ?_)⟩
      rw [hme, if_neg (by omega), if_neg (by omega)]
    · by_cases ha2 : a = μ.1.length
      · subst ha2
        rw [List.append_assoc, List.getElem?_append_right (Nat.le_refl _), Nat.sub_self] at ha
        simp at ha
        obtain ⟨rfl, rfl⟩ := ha
        refine ⟨fun h => by omega, ⟨fun _ => ⟨⟨_, by rw [hfl]; exact f2, State.isArrayOf_alike (s := s) hZ.1.symm (hO n H.size n).1, (hO n H.size n).2, (by unfold z_sz; rw [o3]; exact ⟨Nat.le_refl _, rfl⟩), fun j hj => ?_⟩, fun j hj => trivial⟩, fun h => by omega, fun h => by omega⟩⟩
        rw [Jvm.Free.Multi.outerC_slot cA n H.size n j hj, if_pos hj, hme, if_neg (by omega), if_pos rfl]
        show _ = some (Value.ref (z_f s0.heap.size ex (μ.1.length + 1 + j)))
        rw [z_f_new (by omega)]
        exact congrArg (fun z : Nat => some (Value.ref z)) (show (H.size + 1 + j : Nat) = s0.heap.size + (μ.1.length + 1 + j - zE) by omega)
      · have ha3 : (μ.1 ++ [(3, n)]).length ≤ a := by simp; omega
        rw [List.getElem?_append_right ha3] at ha
        have hz := (List.getElem?_eq_some_iff.mp ha).1
        simp at hz
        rw [List.getElem?_replicate] at ha
        split at ha
        · cases ha
          refine ⟨fun h => by omega, ⟨fun _ => ⟨⟨Jvm.Free.Multi.innerC comp k (defaultValue .long), ?_, State.isArrayOf_alike (s := s) hZ.1.symm (hI k _).1, (hI k _).2, (by unfold z_sz; simp [Jvm.Free.Multi.innerC] <;> rfl), fun j hj => ?_⟩, fun j hj => ?_⟩, fun h => by omega, fun h => by omega⟩⟩
          · have := f4 (a - (μ.1.length + 1)) (by omega)
            rw [z_f_new (by omega)]
            rw [← this]
            congr 1
            omega
          · rw [hme, if_pos (by omega)]
            simp [Jvm.Free.Multi.innerC, hj]
            rfl
          · rw [hme, if_pos (by omega)]
            exact ⟨0, rfl⟩
        · cases ha
  obtain ⟨t, a1, b1⟩ := kk F.heap hrep F rfl X'
  rw [hfl] at a1
  refine ⟨t, step t ?_, b1⟩
  have hTs : T.heap.size = H.size := by rw [hT]
  rw [hTs]
  exact a1
end ZML
