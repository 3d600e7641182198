/-! DECODING checked in one pass over a method's bytes -/
abbrev zDc (α : Type) : Type := Jvm.ClassFile.Reader Jvm.ClassFile.DecodeError α
/-- the bytes from p on begin as these numbers -/
def zat (A : ByteArray) (p : Nat) (bs : List Nat) : Prop := ∀ (i b : Nat), bs[i]? = some b → ∃ u : UInt8, A.data.toList[p + i]? = some u ∧ u.toNat = b
theorem zat.tl {A : ByteArray} {p b : Nat} {bs : List Nat} (h : zat A p (b :: bs)) : zat A (p + 1) bs := fun i c hc => by
  have g := h (i + 1) c hc
  rw [show p + (i + 1) = p + 1 + i by omega] at g
  exact g
theorem zat.dr {A : ByteArray} {p : Nat} {bs : List Nat} (h : zat A p bs) (n : Nat) : zat A (p + n) (bs.drop n) := fun i c hc => by
  rw [List.getElem?_drop] at hc
  have g := h (n + i) c hc
  rw [show p + (n + i) = p + n + i by omega] at g
  exact g
theorem zat.all (A : ByteArray) : zat A 0 (A.data.toList.map UInt8.toNat) := fun i b hb => by
  rw [List.getElem?_map] at hb
  cases hu : A.data.toList[i]? with
  | none =>
    rw [hu] at hb
    cases hb
  | some u =>
    rw [hu] at hb
    exact ⟨u, by rw [Nat.zero_add]; exact hu, Option.some.inj hb⟩
theorem zu1 {A : ByteArray} {p b : Nat} {bs : List Nat} (h : zat A p (b :: bs)) : (Jvm.ClassFile.Reader.u1 : zDc Nat) A p = .ok (b, p + 1) := by
  obtain ⟨u, e, rfl⟩ := h 0 b rfl
  rw [Nat.add_zero] at e
  obtain ⟨h1, h2⟩ := List.getElem?_eq_some_iff.mp e
  have h3 : p < A.size := by simpa using h1
  show (do if h : p < A.size then do set (p + 1); Pure.pure A[p].toNat else MonadExcept.throw (Jvm.ClassFile.HasTruncated.truncated p) : zDc Nat) A p = _
  rw [dif_pos h3]
  show Except.ok (A[p].toNat, p + 1) = _
  have e1 : A[p] = u := by
    rw [← h2]
    rfl
  rw [e1]
theorem zbd {α β : Type} {A : ByteArray} {p q : Nat} {a : α} {r : zDc α} {f : α → zDc β} (h : r A p = .ok (a, q)) : (r >>= f) A p = f a A q := by
  have e : (r >>= f) A p = Except.bind (r A p) (fun x => f x.1 A x.2) := rfl
  rw [e, h]
  rfl
theorem zu2 {A : ByteArray} {p b c : Nat} {bs : List Nat} (h : zat A p (b :: c :: bs)) : (Jvm.ClassFile.Reader.u2 : zDc Nat) A p = .ok (b * 256 + c, p + 2) := by
  unfold Jvm.ClassFile.Reader.u2
  rw [zbd (zu1 h), zbd (zu1 h.tl)]
  rfl
theorem zs1 {A : ByteArray} {p b : Nat} {bs : List Nat} (h : zat A p (b :: bs)) : (Jvm.ClassFile.Reader.s1 : zDc Int) A p = .ok (Jvm.ClassFile.Reader.signed 8 b, p + 1) := by
  have e : (Jvm.ClassFile.Reader.s1 : zDc Int) A p = Except.bind ((Jvm.ClassFile.Reader.u1 : zDc Nat) A p) (fun x => Except.ok (Jvm.ClassFile.Reader.signed 8 x.1, x.2)) := rfl
  rw [e, zu1 h]
  rfl
theorem zs2 {A : ByteArray} {p b c : Nat} {bs : List Nat} (h : zat A p (b :: c :: bs)) : (Jvm.ClassFile.Reader.s2 : zDc Int) A p = .ok (Jvm.ClassFile.Reader.signed 16 (b * 256 + c), p + 2) := by
  have e : (Jvm.ClassFile.Reader.s2 : zDc Int) A p = Except.bind ((Jvm.ClassFile.Reader.u2 : zDc Nat) A p) (fun x => Except.ok (Jvm.ClassFile.Reader.signed 16 x.1, x.2)) := rfl
  rw [e, zu2 h]
  rfl
def zci : Jvm.ClassFile.Cond → Nat
  | .eq => 0
  | .ne => 1
  | .lt => 2
  | .ge => 3
  | .gt => 4
  | .le => 5
/-- opcode, kind of operand (0 none, 1 u1, 2 s1, 3 u2, 4 s2), operand -/
def zop : Instr → Option (Nat × Nat × Int)
  | .iconst n => if 0 ≤ n ∧ n ≤ 5 then some (3 + n.toNat, 0, 0) else if n = -1 then some (2, 0, 0) else none
  | .lconst n => some (9 + n.val, 0, 0)
  | .bipush n => some (16, 2, n)
  | .sipush n => some (17, 4, n)
  | .ldc n => some (18, 1, n)
  | .ldc_w n => some (19, 3, n)
  | .ldc2_w n => some (20, 3, n)
  | .iload n => some (21, 1, n)
  | .lload n => some (22, 1, n)
  | .aload n => some (25, 1, n)
  | .iload_n n => some (26 + n.val, 0, 0)
  | .lload_n n => some (30 + n.val, 0, 0)
  | .aload_n n => some (42 + n.val, 0, 0)
  | .iaload => some (46, 0, 0)
  | .laload => some (47, 0, 0)
  | .aaload => some (50, 0, 0)
  | .baload => some (51, 0, 0)
  | .istore n => some (54, 1, n)
  | .lstore n => some (55, 1, n)
  | .astore n => some (58, 1, n)
  | .istore_n n => some (59 + n.val, 0, 0)
  | .lstore_n n => some (63 + n.val, 0, 0)
  | .astore_n n => some (75 + n.val, 0, 0)
  | .iastore => some (79, 0, 0)
  | .lastore => some (80, 0, 0)
  | .bastore => some (84, 0, 0)
  | .pop => some (87, 0, 0)
  | .pop2 => some (88, 0, 0)
  | .dup => some (89, 0, 0)
  | .dup2 => some (92, 0, 0)
  | .iadd => some (96, 0, 0)
  | .ladd => some (97, 0, 0)
  | .isub => some (100, 0, 0)
  | .lsub => some (101, 0, 0)
  | .imul => some (104, 0, 0)
  | .lmul => some (105, 0, 0)
  | .iand => some (126, 0, 0)
  | .land => some (127, 0, 0)
  | .i2l => some (133, 0, 0)
  | .lcmp => some (148, 0, 0)
  | .ifCond c n => some (153 + zci c, 4, n)
  | .if_icmp c n => some (159 + zci c, 4, n)
  | .goto n => some (167, 4, n)
  | .ireturn => some (172, 0, 0)
  | .lreturn => some (173, 0, 0)
  | .return_ => some (177, 0, 0)
  | .getstatic n => some (178, 3, n)
  | .getfield n => some (180, 3, n)
  | .putfield n => some (181, 3, n)
  | .invokevirtual n => some (182, 3, n)
  | .invokespecial n => some (183, 3, n)
  | .invokestatic n => some (184, 3, n)
  | .new n => some (187, 3, n)
  | _ => none
def zFm (F : Nat → zDc Instr) (op : Nat) (arg : Int) (ins : Instr) : Nat → Prop
  | 0 => F op = Pure.pure ins
  | 1 => ∃ mk : Nat → Instr, F op = (do Pure.pure (mk (← Jvm.ClassFile.Reader.u1))) ∧ ∃ n : Nat, (n : Int) = arg ∧ mk n = ins
  | 2 => ∃ mk : Int → Instr, F op = (do Pure.pure (mk (← Jvm.ClassFile.Reader.s1))) ∧ mk arg = ins
  | 3 => ∃ mk : Nat → Instr, F op = (do Pure.pure (mk (← Jvm.ClassFile.Reader.u2))) ∧ ∃ n : Nat, (n : Int) = arg ∧ mk n = ins
  | _ => ∃ mk : Int → Instr, F op = (do Pure.pure (mk (← Jvm.ClassFile.Reader.s2))) ∧ mk arg = ins
theorem zarms : ∃ F : Nat → Nat → zDc Instr, (∀ pc, Jvm.ClassFile.Decoder.instr pc = Jvm.ClassFile.Reader.u1 >>= F pc) ∧ ∀ (pc : Nat) (ins : Instr) (op fmt : Nat) (arg : Int), zop ins = some (op, fmt, arg) → zFm (F pc) op arg ins fmt := by
  refine ⟨_, fun _ => rfl, fun pc ins op fmt arg h => ?_⟩
  cases ins <;> first
    | (simp only [zop, reduceCtorEq] at h; done)
    | (simp only [zop, Option.some.injEq, Prod.mk.injEq] at h; obtain ⟨rfl, rfl, rfl⟩ := h; exact rfl)
    | (simp only [zop, Option.some.injEq, Prod.mk.injEq] at h; obtain ⟨rfl, rfl, rfl⟩ := h; exact ⟨_, rfl, rfl⟩)
    | (simp only [zop, Option.some.injEq, Prod.mk.injEq] at h; obtain ⟨rfl, rfl, rfl⟩ := h; exact ⟨_, rfl, _, rfl, rfl⟩)
    | (rename_i n; obtain ⟨n, hn⟩ := n; simp only [zop, Option.some.injEq, Prod.mk.injEq] at h; obtain ⟨rfl, rfl, rfl⟩ := h; have q : n = 0 ∨ n = 1 ∨ n = 2 ∨ n = 3 := by omega
       rcases q with rfl | rfl | rfl | rfl <;> first | exact rfl | (exfalso; omega))
    | (rename_i c n; cases c <;> (simp only [zop, Option.some.injEq, Prod.mk.injEq] at h; obtain ⟨rfl, rfl, rfl⟩ := h; exact ⟨_, rfl, rfl⟩))
    | (rename_i n; have q : n = -1 ∨ n = 0 ∨ n = 1 ∨ n = 2 ∨ n = 3 ∨ n = 4 ∨ n = 5 := by
        simp only [zop] at h
        by_cases c1 : 0 ≤ n ∧ n ≤ 5
        · omega
        · rw [if_neg c1] at h
          by_cases c2 : n = -1
          · omega
          · rw [if_neg c2] at h
            cases h
       rcases q with rfl | rfl | rfl | rfl | rfl | rfl | rfl
       · (have h : some (2, 0, 0) = some (op, fmt, arg) := h); cases h; exact rfl
       · (have h : some (3, 0, 0) = some (op, fmt, arg) := h); cases h; exact rfl
       · (have h : some (4, 0, 0) = some (op, fmt, arg) := h); cases h; exact rfl
       · (have h : some (5, 0, 0) = some (op, fmt, arg) := h); cases h; exact rfl
       · (have h : some (6, 0, 0) = some (op, fmt, arg) := h); cases h; exact rfl
       · (have h : some (7, 0, 0) = some (op, fmt, arg) := h); cases h; exact rfl
       · (have h : some (8, 0, 0) = some (op, fmt, arg) := h); cases h; exact rfl)
def zone (ins : Instr) (len : Nat) (bs : List Nat) : Bool := match zop ins with
  | none => false
  | some (op, fmt, arg) => match fmt, bs with
    | 0, b :: _ => b == op && len == 1
    | 1, b :: c :: _ => b == op && ((c : Int) == arg && len == 2)
    | 2, b :: c :: _ => b == op && (Jvm.ClassFile.Reader.signed 8 c == arg && len == 2)
    | 3, b :: c :: d :: _ => b == op && (((c * 256 + d : Nat) : Int) == arg && len == 3)
    | 4, b :: c :: d :: _ => b == op && (Jvm.ClassFile.Reader.signed 16 (c * 256 + d) == arg && len == 3)
    | _, _ => false
theorem zdec {A : ByteArray} {p len : Nat} {ins : Instr} (h : (Jvm.ClassFile.Decoder.instr p) A p = .ok (ins, p + len)) : decode A p = .ok (ins, len) := by
  have e : decode A p = Except.bind ((Jvm.ClassFile.Decoder.instr p) A p) (fun x => Except.ok (x.1, x.2 - p)) := rfl
  rw [e, h]
  show Except.ok (ins, p + len - p) = _
  rw [Nat.add_sub_cancel_left]
theorem zone_ok {A : ByteArray} {p len : Nat} {ins : Instr} {bs : List Nat} (h : zat A p bs) (c : zone ins len bs = true) : decode A p = .ok (ins, len) := by
  obtain ⟨F, f1, f2⟩ := zarms
  unfold zone at c
  cases ho : zop ins with
  | none =>
    rw [ho] at c
    cases c
  | some x =>
    obtain ⟨op, fmt, arg⟩ := x
    rw [ho] at c
    have g := f2 p ins op fmt arg ho
    refine zdec ?_
    rw [f1 p]
    match fmt, bs, h, c, g with
    | 0, b :: _, h, c, g =>
      have c : (b == op && len == 1) = true := c
      rw [Bool.and_eq_true, beq_iff_eq, beq_iff_eq] at c
      obtain ⟨rfl, rfl⟩ := c
      have g : F p b = Pure.pure ins := g
      rw [zbd (zu1 h), g]
      rfl
    | 1, b :: c1 :: _, h, c, g =>
      have c : (b == op && ((c1 : Int) == arg && len == 2)) = true := c
      rw [Bool.and_eq_true, Bool.and_eq_true, beq_iff_eq, beq_iff_eq, beq_iff_eq] at c
      obtain ⟨rfl, c2, rfl⟩ := c
      obtain ⟨mk, g1, n, g2, g3⟩ := g
      have en : c1 = n := by omega
      rw [zbd (zu1 h), g1, zbd (zu1 h.tl), en, g3]
      rfl
    | 2, b :: c1 :: _, h, c, g =>
      have c : (b == op && (Jvm.ClassFile.Reader.signed 8 c1 == arg && len == 2)) = true := c
      rw [Bool.and_eq_true, Bool.and_eq_true, beq_iff_eq, beq_iff_eq, beq_iff_eq] at c
      obtain ⟨rfl, c2, rfl⟩ := c
      obtain ⟨mk, g1, g3⟩ := g
      rw [zbd (zu1 h), g1, zbd (zs1 h.tl), c2, g3]
      rfl
    | 3, b :: c1 :: d :: _, h, c, g =>
      have c : (b == op && (((c1 * 256 + d : Nat) : Int) == arg && len == 3)) = true := c
      rw [Bool.and_eq_true, Bool.and_eq_true, beq_iff_eq, beq_iff_eq, beq_iff_eq] at c
      obtain ⟨rfl, c2, rfl⟩ := c
      obtain ⟨mk, g1, n, g2, g3⟩ := g
      have en : c1 * 256 + d = n := by omega
      rw [zbd (zu1 h), g1, zbd (zu2 h.tl), en, g3]
      rfl
    | 4, b :: c1 :: d :: _, h, c, g =>
      have c : (b == op && (Jvm.ClassFile.Reader.signed 16 (c1 * 256 + d) == arg && len == 3)) = true := c
      rw [Bool.and_eq_true, Bool.and_eq_true, beq_iff_eq, beq_iff_eq, beq_iff_eq] at c
      obtain ⟨rfl, c2, rfl⟩ := c
      obtain ⟨mk, g1, g3⟩ := g
      rw [zbd (zu1 h), g1, zbd (zs2 h.tl), c2, g3]
      rfl
/-- the rows of a method, in order -/
def zrows (A : ByteArray) : Nat → List Nat → List (Nat × Instr × Nat) → Bool
  | _, _, [] => true
  | pos, bs, (p, ins, len) :: r => decide (pos ≤ p) && ((zone ins len (bs.drop (p - pos)) || decide (decode A p = .ok (ins, len))) && zrows A p (bs.drop (p - pos)) r)
theorem zrows_ok {A : ByteArray} : ∀ (rows : List (Nat × Instr × Nat)) (pos : Nat) (bs : List Nat), zat A pos bs → zrows A pos bs rows = true → ∀ r ∈ rows, decode A r.1 = .ok r.2
  | [], _, _, _, _ => fun r hr => absurd hr List.not_mem_nil
  | (p, ins, len) :: rows, pos, bs, h, c => by
    unfold zrows at c
    rw [Bool.and_eq_true, Bool.and_eq_true, Bool.or_eq_true, decide_eq_true_iff, decide_eq_true_iff] at c
    obtain ⟨c1, c2, c3⟩ := c
    have h2 := h.dr (p - pos)
    rw [show pos + (p - pos) = p by omega] at h2
    intro r hr
    rcases List.mem_cons.mp hr with rfl | hr
    · rcases c2 with c2 | c2
      · exact zone_ok h2 c2
      · exact c2
    · exact zrows_ok rows p _ h2 c3 r hr
theorem z_dec {A : ByteArray} {L : List (List (Nat × Instr × Nat))} (h : zrows A 0 (A.data.toList.map UInt8.toNat) L.flatten = true) : ∀ ch ∈ L, ∀ r ∈ ch, decode A r.1 = .ok r.2 := fun ch hc r hr => zrows_ok _ 0 _ (zat.all A) h r (List.mem_flatten.mpr ⟨ch, hc, hr⟩)
