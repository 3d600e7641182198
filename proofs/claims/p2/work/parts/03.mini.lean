/-! THE MINI MACHINE: the class's bytecode over a small memory: shapes (tag, length) by address and a cell's contents by address and place. Tags: 0 int[], 1 long[], 2 byte[], 3 long[][], 8 opaque, 9 a String, 10 + c an object of class c of z_cls. An address below zE is a cell that was there before (script, texts, tables of digits): never written. -/
abbrev zM : Type := List (Nat × Nat) × (Nat → Nat → Value)
abbrev zL : Type := List (Nat × Value)
abbrev zC : Type := Nat × zL × List Value × zM
def z_get (L : zL) (i : Nat) : Option Value := (L.find? (fun q => q.1 == i)).map (fun q => q.2)
def z_s1 (L : zL) (i : Nat) (v : Value) : zL := (i, v) :: L.filter (fun q => !(q.1 == i) && !(q.1 + 1 == i && q.2.category == 2))
def z_s2 (L : zL) (i : Nat) (v : Value) : zL := (i, v) :: L.filter (fun q => !(q.1 == i) && (!(q.1 == i + 1) && !(q.1 + 1 == i && q.2.category == 2)))
def z_up (m : Nat → Nat → Value) (a i : Nat) (v : Value) : Nat → Nat → Value := fun b j => if b = a then (if j = i then v else m b j) else m b j
def z_nw (m : Nat → Nat → Value) (a : Nat) (g : Nat → Value) : Nat → Nat → Value := fun b j => if b = a then g j else m b j
def z_wr (μ : zM) (a i : Nat) (v : Value) : zM := (μ.1, z_up μ.2 a i v)
def z_al (μ : zM) (t n : Nat) (g : Nat → Value) : zM := (μ.1 ++ [(t, n)], z_nw μ.2 μ.1.length g)
/-- n rows of k longs, at the addresses from a on -/
def z_als (μ : zM) : Nat → Nat → zM
  | 0, _ => μ
  | n + 1, k => z_al (z_als μ n k) 1 k (fun _ => .long 0)
def z_tg (μ : zM) (a : Nat) : Nat := (μ.1[a]?.getD (100, 0)).1
def z_n (μ : zM) (a : Nat) : Nat := (μ.1[a]?.getD (100, 0)).2
def z_in (i : Int32) (n : Nat) : Bool := decide (0 ≤ i.toInt) && decide (i.toInt < n)
def z_lk {α : Type} (T : List (List (Nat × α))) (w idx : Nat) : Option α := ((T.getD w []).find? (fun r => r.1 == idx)).map (fun r => r.2)
def z_i1 {α : Type} (st : List Value) (k : Int32 → List Value → Option α) : Option α := match st with
  | .int x :: r => k x r
  | _ => none
def z_i2 {α : Type} (st : List Value) (k : Int32 → Int32 → List Value → Option α) : Option α := match st with
  | .int y :: .int x :: r => k x y r
  | _ => none
def z_l1 {α : Type} (st : List Value) (k : Int64 → List Value → Option α) : Option α := match st with
  | .long x :: r => k x r
  | _ => none
def z_l2 {α : Type} (st : List Value) (k : Int64 → Int64 → List Value → Option α) : Option α := match st with
  | .long y :: .long x :: r => k x y r
  | _ => none
def z_li {α : Type} (st : List Value) (k : Int64 → Int32 → List Value → Option α) : Option α := match st with
  | .int y :: .long x :: r => k x y r
  | _ => none
def z_q1 {α : Type} (st : List Value) (k : Nat → List Value → Option α) : Option α := match st with
  | .ref a :: r => k a r
  | _ => none
def z_ri {α : Type} (st : List Value) (k : Nat → Int32 → List Value → Option α) : Option α := match st with
  | .int i :: .ref a :: r => k a i r
  | _ => none
def z_gi {α : Type} (L : zL) (i : Nat) (k : Int32 → Option α) : Option α := match z_get L i with
  | some (.int x) => k x
  | _ => none
def z_gl {α : Type} (L : zL) (i : Nat) (k : Int64 → Option α) : Option α := match z_get L i with
  | some (.long x) => k x
  | _ => none
def z_gr {α : Type} (L : zL) (i : Nat) (k : Nat → Option α) : Option α := match z_get L i with
  | some (.ref x) => k x
  | _ => none
def z_c (o : ClassFile.Cond) (x y : Int32) : Bool := match o with
  | .eq => decide (x = y)
  | .ne => decide (x ≠ y)
  | .lt => decide (x < y)
  | .ge => decide (y ≤ x)
  | .gt => decide (y < x)
  | .le => decide (x ≤ y)
def z_to (pc : Nat) (off : Int) : Nat := ((pc : Int) + off).toNat
def z_fw (pc : Nat) (off : Int) : Bool := decide (0 ≤ (pc : Int) + off)
def z_fit (ty : FieldType) (v : Value) : Bool := match ty, v with
  | .int, .int _ => true
  | .long, .long _ => true
  | .boolean, .int x => x == 0 || x == 1
  | .byte, .int x => x == 0 || x == 1
  | .object _, .ref _ => true
  | .array _, .ref _ => true
  | _, _ => false
def z_rty (ty : FieldType) (x : Int32) : Bool := match ty with
  | .int => true
  | .boolean => x == 0 || x == 1
  | .byte => x == 0 || x == 1
  | .char => decide (0 ≤ x.toInt) && decide (x.toInt < 65536)
  | _ => false
def z_cat (st : List Value) : Nat := (st.map fun v => v.category).sum
def z_off (lo hi dflt : Int) (offs : Array Int) (x : Int32) : Option Int := if x.toInt < lo then some dflt else if hi < x.toInt then some dflt else offs[(x.toInt - lo).toNat]?
def z_cpy (f g : Nat → Value) (sp dp n : Nat) : Nat → Value := fun j => if dp ≤ j ∧ j < dp + n then f (sp + (j - dp)) else g j
/-- what a getstatic of a place of z_GSf gives -/
def z_sv (k : Nat) : Value := match k with
  | 0 => .int 1
  | 1 => .ref 37
  | _ => .ref 38
abbrev z_dv (ty : FieldType) : Value := defaultValue ty
def z_aty (t : Nat) : FieldType := match t with
  | 0 => .int
  | 1 => .long
  | 2 => .byte
  | _ => .array .long
def z_ati (t : ArrayType) : Option Nat := match t with
  | .int => some 0
  | .long => some 1
  | .byte => some 2
  | _ => none
def z_ld (μ : zM) (t pc : Nat) (L : zL) (a : Nat) (i : Int32) (r : List Value) : Option zC := if z_tg μ a = t then (if z_in i (z_n μ a) = true then some (pc + 1, L, μ.2 a i.toNatClampNeg :: r, μ) else none) else none
def z_sd (μ : zM) (t pc : Nat) (L : zL) (a : Nat) (i : Int32) (v : Value) (r : List Value) : Option zC := if zE ≤ a then (if z_tg μ a = t then (if z_in i (z_n μ a) = true then some (pc + 1, L, r, z_wr μ a i.toNatClampNeg v) else none) else none) else none
/-- System.arraycopy between two arrays of one primitive type -/
def z_ac (μ : zM) (pc : Nat) (L : zL) (st : List Value) : Option zC := match st with
  | .int n :: .int dp :: .ref b :: .int sp :: .ref a :: r =>
    if zE ≤ b then (if z_tg μ a = z_tg μ b then (if z_tg μ a < 3 then (if 0 ≤ sp.toInt ∧ 0 ≤ dp.toInt ∧ 0 ≤ n.toInt ∧ sp.toNatClampNeg + n.toNatClampNeg ≤ z_n μ a ∧ dp.toNatClampNeg + n.toNatClampNeg ≤ z_n μ b ∧ z_cat r ≤ 8 then
      some (pc + 3, L, r, (μ.1, z_nw μ.2 b (z_cpy (μ.2 a) (μ.2 b) sp.toNatClampNeg dp.toNatClampNeg n.toNatClampNeg))) else none) else none) else none) else none
  | _ => none
def z_step (w nL : Nat) (isI : Bool) (i : Instr) (pc : Nat) (L : zL) (st : List Value) (μ : zM) : Option zC :=
  match i with
  | .iconst n => some (pc + 1, L, .int (Int32.ofInt n) :: st, μ)
  | .bipush n => some (pc + 2, L, .int (Int8.ofInt n).toInt32 :: st, μ)
  | .sipush n => some (pc + 3, L, .int (Int16.ofInt n).toInt32 :: st, μ)
  | .lconst n => some (pc + 1, L, .long (Int64.ofNat (n : Nat)) :: st, μ)
  | .iload_n k => z_gi L (k : Nat) fun x => some (pc + 1, L, .int x :: st, μ)
  | .iload k => z_gi L k fun x => some (pc + 2, L, .int x :: st, μ)
  | .lload_n k => z_gl L (k : Nat) fun x => some (pc + 1, L, .long x :: st, μ)
  | .lload k => z_gl L k fun x => some (pc + 2, L, .long x :: st, μ)
  | .aload_n k => z_gr L (k : Nat) fun x => some (pc + 1, L, .ref x :: st, μ)
  | .aload k => z_gr L k fun x => some (pc + 2, L, .ref x :: st, μ)
  | .istore_n k => z_i1 st fun x r => if (k : Nat) < nL then some (pc + 1, z_s1 L (k : Nat) (.int x), r, μ) else none
  | .istore k => z_i1 st fun x r => if k < nL then some (pc + 2, z_s1 L k (.int x), r, μ) else none
  | .lstore_n k => z_l1 st fun x r => if (k : Nat) + 1 < nL then some (pc + 1, z_s2 L (k : Nat) (.long x), r, μ) else none
  | .lstore k => z_l1 st fun x r => if k + 1 < nL then some (pc + 2, z_s2 L k (.long x), r, μ) else none
  | .astore_n k => z_q1 st fun x r => if (k : Nat) < nL then some (pc + 1, z_s1 L (k : Nat) (.ref x), r, μ) else none
  | .astore k => z_q1 st fun x r => if k < nL then some (pc + 2, z_s1 L k (.ref x), r, μ) else none
  | .iinc k n => z_gi L k fun x => if k < nL then some (pc + 3, z_s1 L k (.int (x + Int32.ofInt n)), st, μ) else none
  | .iadd => z_i2 st fun x y r => some (pc + 1, L, .int (x + y) :: r, μ)
  | .isub => z_i2 st fun x y r => some (pc + 1, L, .int (x - y) :: r, μ)
  | .imul => z_i2 st fun x y r => some (pc + 1, L, .int (x * y) :: r, μ)
  | .iand => z_i2 st fun x y r => some (pc + 1, L, .int (x &&& y) :: r, μ)
  | .ior => z_i2 st fun x y r => some (pc + 1, L, .int (x ||| y) :: r, μ)
  | .ixor => z_i2 st fun x y r => some (pc + 1, L, .int (x ^^^ y) :: r, μ)
  | .idiv => z_i2 st fun x y r => if y = 0 then none else some (pc + 1, L, .int (x / y) :: r, μ)
  | .irem => z_i2 st fun x y r => if y = 0 then none else some (pc + 1, L, .int (x - x / y * y) :: r, μ)
  | .ineg => z_i1 st fun x r => some (pc + 1, L, .int (-x) :: r, μ)
  | .ishl => z_i2 st fun x y r => some (pc + 1, L, .int (x <<< (y &&& 31)) :: r, μ)
  | .ishr => z_i2 st fun x y r => some (pc + 1, L, .int (x >>> (y &&& 31)) :: r, μ)
  | .ladd => z_l2 st fun x y r => some (pc + 1, L, .long (x + y) :: r, μ)
  | .lsub => z_l2 st fun x y r => some (pc + 1, L, .long (x - y) :: r, μ)
  | .lmul => z_l2 st fun x y r => some (pc + 1, L, .long (x * y) :: r, μ)
  | .land => z_l2 st fun x y r => some (pc + 1, L, .long (x &&& y) :: r, μ)
  | .lor => z_l2 st fun x y r => some (pc + 1, L, .long (x ||| y) :: r, μ)
  | .lxor => z_l2 st fun x y r => some (pc + 1, L, .long (x ^^^ y) :: r, μ)
  | .ldiv => z_l2 st fun x y r => if y = 0 then none else some (pc + 1, L, .long (x / y) :: r, μ)
  | .lrem => z_l2 st fun x y r => if y = 0 then none else some (pc + 1, L, .long (x - x / y * y) :: r, μ)
  | .lshl => z_li st fun x y r => some (pc + 1, L, .long (x <<< (y.toInt64 &&& 63)) :: r, μ)
  | .lshr => z_li st fun x y r => some (pc + 1, L, .long (x >>> (y.toInt64 &&& 63)) :: r, μ)
  | .lushr => z_li st fun x y r => some (pc + 1, L, .long (x.toUInt64 >>> (y.toInt64.toUInt64 &&& Int64.toUInt64 63)).toInt64 :: r, μ)
  | .lcmp => z_l2 st fun x y r => some (pc + 1, L, .int (lg_cmp x y) :: r, μ)
  | .i2l => z_i1 st fun x r => some (pc + 1, L, .long x.toInt64 :: r, μ)
  | .l2i => z_l1 st fun x r => some (pc + 1, L, .int x.toInt32 :: r, μ)
  | .i2b => z_i1 st fun x r => some (pc + 1, L, .int x.toInt8.toInt32 :: r, μ)
  | .i2c => z_i1 st fun x r => some (pc + 1, L, .int (x.toUInt32 % 65536).toInt32 :: r, μ)
  | .dup => match st with
    | v :: r => if v.category = 1 then some (pc + 1, L, v :: v :: r, μ) else none
    | _ => none
  | .pop => match st with
    | v :: r => if v.category = 1 then some (pc + 1, L, r, μ) else none
    | _ => none
  | .pop2 => match st with
    | v :: r => if v.category = 2 then some (pc + 1, L, r, μ) else none
    | _ => none
  | .dup2 => match st with
    | v :: r => if v.category = 2 then some (pc + 1, L, v :: v :: r, μ) else match r with
      | u :: r' => if v.category = 1 ∧ u.category = 1 then some (pc + 1, L, v :: u :: v :: u :: r', μ) else none
      | _ => none
    | _ => none
  | .dup_x1 => match st with
    | v :: u :: r => if v.category = 1 ∧ u.category = 1 then some (pc + 1, L, v :: u :: v :: r, μ) else none
    | _ => none
  | .ifCond o off => z_i1 st fun x r => if z_fw pc off = true then some (if z_c o x 0 = true then z_to pc off else pc + 3, L, r, μ) else none
  | .if_icmp o off => z_i2 st fun x y r => if z_fw pc off = true then some (if z_c o x y = true then z_to pc off else pc + 3, L, r, μ) else none
  | .ifnonnull off => z_q1 st fun _ r => if z_fw pc off = true then some (z_to pc off, L, r, μ) else none
  | .ifnull _ => z_q1 st fun _ r => some (pc + 3, L, r, μ)
  | .goto off => if z_fw pc off = true then some (z_to pc off, L, st, μ) else none
  | .tableswitch dflt lo hi offs => z_i1 st fun x r => match z_off lo hi dflt offs x with
    | some o => if z_fw pc o = true then some (z_to pc o, L, r, μ) else none
    | none => none
  | .getfield idx => z_q1 st fun a r => match z_lk z_FL w idx with
    | some (tg, k, _) => if z_tg μ a = tg then some (pc + 3, L, μ.2 a k :: r, μ) else none
    | none => none
  | .putfield idx => match st with
    | v :: .ref a :: r => (match z_lk z_FL w idx with
      | some (tg, k, _) => if zE ≤ a ∧ 10 ≤ tg ∧ z_tg μ a = tg ∧ z_fit ((z_tys.getD (tg - 10) []).getD k .int) v = true ∧ (((z_cls.getD (tg - 10) ("", z_T0, 0)).2.1 k).2.2.2 = false ∨ (isI = true ∧ tg - 10 = w ∧ w < 13)) then some (pc + 3, L, r, z_wr μ a k v) else none
      | none => none)
    | _ => none
  | .getstatic idx => match z_lk z_GS w idx with
    | some (k, _) => if k < 3 then some (pc + 3, L, z_sv k :: st, μ) else none
    | none => none
  | .new idx => match z_lk z_CL w idx with
    | some (c, _) => some (pc + 3, L, .ref μ.1.length :: st, z_al μ (10 + c) (z_cls.getD c ("", z_T0, 0)).2.2 (fun k => z_dv ((z_tys.getD c []).getD k .int)))
    | none => none
  | .newarray t => z_i1 st fun x r => match z_ati t with
    | some ti => if 0 ≤ x.toInt ∧ x.toInt ≤ 60000000 then some (pc + 2, L, .ref μ.1.length :: r, z_al μ ti x.toNatClampNeg (fun _ => z_dv (z_aty ti))) else none
    | none => none
  | .multianewarray idx dm => z_i2 st fun x y r => if w = 4 ∧ idx = 11 ∧ dm = 2 ∧ 0 ≤ x.toInt ∧ x.toInt ≤ 60000 ∧ 0 ≤ y.toInt ∧ y.toInt ≤ 60000 then
      some (pc + 4, L, .ref μ.1.length :: r, z_als (z_al μ 3 x.toNatClampNeg (fun j => .ref (μ.1.length + 1 + j))) x.toNatClampNeg y.toNatClampNeg) else none
  | .iaload => z_ri st fun a i r => z_ld μ 0 pc L a i r
  | .laload => z_ri st fun a i r => z_ld μ 1 pc L a i r
  | .baload => z_ri st fun a i r => z_ld μ 2 pc L a i r
  | .aaload => z_ri st fun a i r => z_ld μ 3 pc L a i r
  | .iastore => match st with
    | .int x :: .int i :: .ref a :: r => z_sd μ 0 pc L a i (.int x) r
    | _ => none
  | .lastore => match st with
    | .long x :: .int i :: .ref a :: r => z_sd μ 1 pc L a i (.long x) r
    | _ => none
  | .bastore => match st with
    | .int x :: .int i :: .ref a :: r => z_sd μ 2 pc L a i (.int x.toInt8.toInt32) r
    | _ => none
  | .arraylength => z_q1 st fun a r => if z_tg μ a < 4 then some (pc + 1, L, .int (Int32.ofNat (z_n μ a)) :: r, μ) else none
  | .ldc idx => match z_lk z_SL w idx with
    | some a => some (pc + 2, L, .ref a :: st, μ)
    | none => match z_lk z_IC w idx with
      | some (v, _) => some (pc + 2, L, .int v :: st, μ)
      | none => none
  | .ldc_w idx => match z_lk z_SL w idx with
    | some a => some (pc + 3, L, .ref a :: st, μ)
    | none => match z_lk z_IC w idx with
      | some (v, _) => some (pc + 3, L, .int v :: st, μ)
      | none => none
  | .ldc2_w idx => match z_lk z_LC w idx with
    | some (v, _) => some (pc + 3, L, .long v :: st, μ)
    | none => none
  | .invokestatic idx => match z_lk z_ML w idx with
    | some (8, _) => z_ac μ pc L st
    | some (7, _) => z_i2 st fun x y r => if 0 ≤ x.toInt ∧ x.toInt < y.toInt ∧ z_cat r ≤ 8 then some (pc + 3, L, r, μ) else none
    | _ => none
  | .invokespecial idx => match z_lk z_ML w idx with
    | some (9, _) => z_q1 st fun _ r => if z_cat r ≤ 8 then some (pc + 3, L, r, μ) else none
    | _ => none
  | _ => none
def z_ln (i : Instr) : Nat := match i with
  | .bipush _ | .iload _ | .istore _ | .lload _ | .lstore _ | .aload _ | .astore _ | .ldc _ | .newarray _ => 2
  | .sipush _ | .iinc _ _ | .ifCond _ _ | .if_icmp _ _ | .ifnonnull _ | .ifnull _ | .goto _ | .getfield _ | .putfield _ | .getstatic _ | .new _ | .ldc_w _ | .ldc2_w _ | .invokestatic _ | .invokespecial _ | .invokevirtual _ => 3
  | .multianewarray _ _ => 4
  | .tableswitch _ _ _ _ => 0
  | _ => 1
/-- the law's own record -/
def z_rL : z_R := (x, code, 4, ret, 23, 1, 0, 0, z_cL)
def z_mth (k : Nat) : Option z_R := if k = 1000 then some z_rL else z_r k
abbrev zA : Type := zC ⊕ (Option Value ⊕ (Nat × List Value × List Value))
/-- a call: the method, receiver and arguments, what stays on the stack -/
def z_inv (w idx : Nat) (ks : List Nat) (st : List Value) (μ : zM) : Option zA := match z_lk z_ML w idx with
  | some (k, j, tg, _) => if ks.contains k = true then (match z_r j with
    | some q => if st.length < q.2.2.2.2.2.1 then none else (if k = 0 then
        (if z_cat (st.drop q.2.2.2.2.2.1) ≤ 8 ∧ (lg_sl (st.take q.2.2.2.2.2.1).reverse).length ≤ q.2.2.1 ∧ q.2.2.1 ≤ 41 then some (.inr (.inr (j, (st.take q.2.2.2.2.2.1).reverse, st.drop q.2.2.2.2.2.1))) else none)
      else match st.drop q.2.2.2.2.2.1 with
        | .ref a :: r => if z_cat r ≤ 8 ∧ (lg_sl (.ref a :: (st.take q.2.2.2.2.2.1).reverse)).length ≤ q.2.2.1 ∧ q.2.2.1 ≤ 41 ∧ (tg = 0 ∨ z_tg μ a = tg) then some (.inr (.inr (j, .ref a :: (st.take q.2.2.2.2.2.1).reverse, r))) else none
        | _ => none)
    | none => none) else none
  | none => none
def z_act (q : z_R) (pc : Nat) (L : zL) (st : List Value) (μ : zM) : Option zA :=
  match (q.2.2.2.2.2.2.2.2.getD (pc / 32) []).find? (fun r => r.1 == pc) with
  | none => none
  | some (_, i, len) => if (len == z_ln i || z_ln i == 0) = true then (match i with
    | .return_ => (match st, q.2.2.2.1 with
      | [], none => some (.inr (.inl none))
      | _, _ => none)
    | .ireturn => (match st, q.2.2.2.1 with
      | [.int x], some ty => if z_rty ty x = true then some (.inr (.inl (some (.int x)))) else none
      | _, _ => none)
    | .lreturn => (match st, q.2.2.2.1 with
      | [.long x], some .long => some (.inr (.inl (some (.long x))))
      | _, _ => none)
    | .areturn => (match st, q.2.2.2.1 with
      | [.ref a], some (.object _) => some (.inr (.inl (some (.ref a))))
      | [.ref a], some (.array _) => some (.inr (.inl (some (.ref a))))
      | _, _ => none)
    | .invokevirtual idx => z_inv q.2.2.2.2.1 idx [1, 5] st μ
    | .invokestatic idx => (match z_step q.2.2.2.2.1 q.2.2.1 (q.1.name == "<init>") i pc L st μ with
      | some c => some (.inl c)
      | none => z_inv q.2.2.2.2.1 idx [0] st μ)
    | .invokespecial idx => (match z_step q.2.2.2.2.1 q.2.2.1 (q.1.name == "<init>") i pc L st μ with
      | some c => some (.inl c)
      | none => z_inv q.2.2.2.2.1 idx [2, 3, 4] st μ)
    | _ => (z_step q.2.2.2.2.1 q.2.2.1 (q.1.name == "<init>") i pc L st μ).map .inl) else none
/-- where roads meet, the locals are laid anew: those that live, in order -/
def z_can (k pc : Nat) (L : zL) : zL := match (if k = 1000 then z_LVL else (z_LV.getD (k / 16) []).getD (k % 16) []).find? (fun r => r.1 == pc) with
  | some r => r.2.filterMap (fun i => (z_get L i).map (fun v => (i, v)))
  | none => L
def z_exec : Nat → Nat → Nat → Nat → zL → List Value → zM → Option (Option Value × zM)
  | 0, _, _, _, _, _, _ => none
  | n + 1, d, k, pc, L, st, μ => match z_mth k with
    | none => none
    | some q => match z_act q pc L st μ with
      | none => none
      | some (.inl c) => z_exec n d k c.1 (z_can k c.1 c.2.1) c.2.2.1 c.2.2.2
      | some (.inr (.inl v)) => some (v, μ)
      | some (.inr (.inr c)) => match d with
        | 0 => none
        | d' + 1 => match z_exec n d' c.1 0 (z_can c.1 0 (lv_args 0 c.2.1)) [] μ with
          | none => none
          | some o => z_exec n (d' + 1) k (pc + 3) (z_can k (pc + 3) L) (o.1.toList ++ c.2.2) o.2
