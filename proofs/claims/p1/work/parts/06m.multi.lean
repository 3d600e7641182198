/-! new long[n][k]: the outer array, then the inner ones -/
theorem z_als_1 (μ : zM) (k : Nat) : ∀ n, (z_als μ n k).1 = μ.1 ++ List.replicate n (1, k)
  | 0 => by simp [z_als]
  | n + 1 => by
    show (z_als μ n k).1 ++ [(1, k)] = _
    rw [z_als_1 μ k n, List.append_assoc, ← List.replicate_succ']
theorem z_als_2 (μ : zM) (k : Nat) : ∀ (n b j : Nat), (z_als μ n k).2 b j = if μ.1.length ≤ b ∧ b < μ.1.length + n then .long 0 else μ.2 b j
  | 0, b, j => by
    rw [if_neg (by omega)]
    rfl
  | n + 1, b, j => by
    have hlen : (z_als μ n k).1.length = μ.1.length + n := by rw [z_als_1]; simp
    show (if b = (z_als μ n k).1.length then Value.long 0 else (z_als μ n k).2 b j) = _
    rw [hlen, z_als_2 μ k n b j]
    by_cases h : b = μ.1.length + n
    · rw [if_pos h, if_pos (by omega)]
    · rw [if_neg h]
      by_cases h2 : μ.1.length ≤ b ∧ b < μ.1.length + n
      · rw [if_pos h2, if_pos (by omega)]
      · rw [if_neg h2, if_neg (by omega)]
section ZML
variable {p : Program} {l : Launch} {e : Env} {R : Room} {s : State} {m : MethodId} {args : Array Value} {below : List Frame} {meth : Method} {c : Code} {H : Heap} {locs : List Loc} {cells slots : Nat} {Q : State → Prop}
variable {pc : Nat} {ls : Array Slot} {rest : List Value} {s0 : State} {D : va_G} {aT : Nat → ClassId} {ex : Nat → Nat} {q : z_R} {μ : zM}
theorem zr_multi (hB : z_B p s0 s ex m args meth c q) (hG : z_G s0 D aT ex) (hM : z_rep s0 D ex μ H) {x y : Int32} (hq : q.1.cls = "RangeAnswers$Lists") (h1 : 0 ≤ x.toInt) (h2 : x.toInt ≤ 60000) (h3 : 0 ≤ y.toInt) (h4 : y.toInt ≤ 60000) (hcells : cells + (1 + x.toNatClampNeg) ≤ R.cells) (hslots : slots + (x.toNatClampNeg + x.toNatClampNeg * y.toNatClampNeg) ≤ R.slots) (hdg : decode q.2.1 pc = .ok (.multianewarray 11 2, 4))
    (kk : ∀ H' : Heap, z_rep s0 D ex (z_als (z_al μ 3 x.toNatClampNeg (fun j => .ref (μ.1.length + 1 + j))) x.toNatClampNeg y.toNatClampNeg) H' → W p l e R s m args below meth c H' locs (cells + 1 + x.toNatClampNeg) (slots + x.toNatClampNeg + x.toNatClampNeg * y.toNatClampNeg) Q (F0 m (pc + 4) ls (.ref (z_f s0.heap.size ex μ.1.length) :: rest))) : W p l e R s m args below meth c H locs cells slots Q (F0 m pc ls (.int y :: .int x :: rest)) := by sorry
end ZML
