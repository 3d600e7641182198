/-! Long.bitCount: how many bits of a set of rows -/
def vB : List Nat → Nat
  | [] => 0
  | b :: l => b + 256 * vB l
theorem and256 {p q m M : Nat} (hp : p < 256) (hm : m < 256) : (p + 256 * q) &&& (m + 256 * M) = (p &&& m) + 256 * (q &&& M) := by
  have h8 : (256 : Nat) = 2 ^ 8 := by decide
  have hpm : p &&& m < 256 := by
    rw [h8]
    exact Nat.and_lt_two_pow _ (by omega)
  apply Nat.eq_of_testBit_eq
  intro i
  have t : ∀ a b : Nat, a < 256 → (a + 256 * b).testBit i = if i < 8 then a.testBit i else b.testBit (i - 8) := fun a b ha => by
    rw [show a + 256 * b = 2 ^ 8 * b + a by omega]
    exact Nat.testBit_two_pow_mul_add b (by omega) i
  rw [Nat.testBit_and, t p q hp, t m M hm, t _ _ hpm, Nat.testBit_and, Nat.testBit_and]
  by_cases c : i < 8
  · rw [if_pos c, if_pos c, if_pos c]
  · rw [if_neg c, if_neg c, if_neg c]
def s1B (b : Nat) : Nat := b - (b / 2 &&& 85)
def s2B (b : Nat) : Nat := (b &&& 51) + (b / 4 &&& 51)
def s3B (b : Nat) : Nat := (b + b / 16) &&& 15
theorem s1B_f : ∀ (b : Fin 256) (c : Fin 2), ((b.val / 2 + 128 * c.val) &&& 85) = (b.val / 2 &&& 85) ∧ (b.val / 2 &&& 85) ≤ b.val := by decide +kernel
theorem s2B_f : ∀ (b : Fin 256) (c : Fin 4), ((b.val / 4 + 64 * c.val) &&& 51) = (b.val / 4 &&& 51) := by decide +kernel
theorem s3B_f : ∀ (b : Fin 69) (c : Fin 5), ((b.val + b.val / 16 + 16 * c.val) &&& 15) = s3B b.val := by decide +kernel
def nbB (b : Nat) : Prop := b % 16 ≤ 4 ∧ b / 16 ≤ 4
theorem s12_f : ∀ b : Fin 256, s1B b.val < 256 ∧ (s2B (s1B b.val) % 16 ≤ 4 ∧ s2B (s1B b.val) / 16 ≤ 4) ∧ s3B (s2B (s1B b.val)) ≤ 8 := by decide +kernel
theorem vB_1 : ∀ L : List Nat, (∀ b ∈ L, b < 256) → (vB L / 2 &&& vB (L.map (fun _ => 85))) ≤ vB L ∧ vB L - (vB L / 2 &&& vB (L.map (fun _ => 85))) = vB (L.map s1B)
  | [], _ => ⟨by decide, by decide⟩
  | b :: l, h => by
    obtain ⟨i1, i2⟩ := vB_1 l (fun x hx => h x (List.mem_cons_of_mem _ hx))
    have hb := h b List.mem_cons_self
    have e : vB (b :: l) / 2 = (b / 2 + 128 * (vB l % 2)) + 256 * (vB l / 2) := by
      show (b + 256 * vB l) / 2 = _
      omega
    obtain ⟨f1, f2⟩ := s1B_f ⟨b, hb⟩ ⟨vB l % 2, by omega⟩
    have f1 : ((b / 2 + 128 * (vB l % 2)) &&& 85) = (b / 2 &&& 85) := f1
    have f2 : (b / 2 &&& 85) ≤ b := f2
    rw [e]
    show ((b / 2 + 128 * (vB l % 2)) + 256 * (vB l / 2) &&& (85 + 256 * vB (l.map (fun _ => 85)))) ≤ b + 256 * vB l ∧ b + 256 * vB l - ((b / 2 + 128 * (vB l % 2)) + 256 * (vB l / 2) &&& (85 + 256 * vB (l.map (fun _ => 85)))) = s1B b + 256 * vB (l.map s1B)
    rw [and256 (by omega) (by decide), f1, ← i2]
    unfold s1B
    omega
theorem vB_2 : ∀ L : List Nat, (∀ b ∈ L, b < 256) → (vB L &&& vB (L.map (fun _ => 51))) + (vB L / 4 &&& vB (L.map (fun _ => 51))) = vB (L.map s2B)
  | [], _ => by decide
  | b :: l, h => by
    have i := vB_2 l (fun x hx => h x (List.mem_cons_of_mem _ hx))
    have hb := h b List.mem_cons_self
    have e : vB (b :: l) / 4 = (b / 4 + 64 * (vB l % 4)) + 256 * (vB l / 4) := by
      show (b + 256 * vB l) / 4 = _
      omega
    have f1 : ((b / 4 + 64 * (vB l % 4)) &&& 51) = (b / 4 &&& 51) := s2B_f ⟨b, hb⟩ ⟨vB l % 4, by omega⟩
    rw [e]
    show (b + 256 * vB l &&& (51 + 256 * vB (l.map (fun _ => 51)))) + ((b / 4 + 64 * (vB l % 4)) + 256 * (vB l / 4) &&& (51 + 256 * vB (l.map (fun _ => 51)))) = s2B b + 256 * vB (l.map s2B)
    rw [and256 hb (by decide), and256 (by omega) (by decide), f1, ← i]
    unfold s2B
    omega
theorem vB_3 : ∀ L : List Nat, (∀ b ∈ L, nbB b) → (vB L + vB L / 16 &&& vB (L.map (fun _ => 15))) = vB (L.map s3B) ∧ vB L % 16 ≤ 4
  | [], _ => ⟨by decide, by decide⟩
  | b :: l, h => by
    obtain ⟨i, m⟩ := vB_3 l (fun x hx => h x (List.mem_cons_of_mem _ hx))
    obtain ⟨h1, h2⟩ := h b List.mem_cons_self
    have e : vB (b :: l) + vB (b :: l) / 16 = (b + b / 16 + 16 * (vB l % 16)) + 256 * (vB l + vB l / 16) := by
      show (b + 256 * vB l) + (b + 256 * vB l) / 16 = _
      omega
    have f1 : ((b + b / 16 + 16 * (vB l % 16)) &&& 15) = s3B b := s3B_f ⟨b, by omega⟩ ⟨vB l % 16, by omega⟩
    refine ⟨?_, ?_⟩
    · rw [e]
      show ((b + b / 16 + 16 * (vB l % 16)) + 256 * (vB l + vB l / 16) &&& (15 + 256 * vB (l.map (fun _ => 15)))) = s3B b + 256 * vB (l.map s3B)
      rw [and256 (by omega) (by decide), f1, i]
    · show (b + 256 * vB l) % 16 ≤ 4
      omega
/-- bits below k -/
def cntB (n : Nat) : Nat → Nat
  | 0 => 0
  | k + 1 => cntB n k + (n.testBit k).toNat
theorem s3B_c : ∀ b : Fin 256, s3B (s2B (s1B b.val)) = cntB b.val 8 := by decide +kernel
theorem cntB_lo {b m : Nat} (hb : b < 256) : ∀ k : Nat, k ≤ 8 → cntB (b + 256 * m) k = cntB b k
  | 0, _ => rfl
  | k + 1, hk => by
    show cntB (b + 256 * m) k + ((b + 256 * m).testBit k).toNat = cntB b k + (b.testBit k).toNat
    rw [cntB_lo hb k (by omega), show b + 256 * m = 2 ^ 8 * m + b by omega, Nat.testBit_two_pow_mul_add m (show b < 2 ^ 8 by omega) k, if_pos (by omega)]
theorem cntB_hi {b m : Nat} (hb : b < 256) : ∀ k : Nat, cntB (b + 256 * m) (8 + k) = cntB b 8 + cntB m k
  | 0 => by
    show cntB (b + 256 * m) 8 = cntB b 8 + 0
    rw [cntB_lo hb 8 (Nat.le_refl _), Nat.add_zero]
  | k + 1 => by
    show cntB (b + 256 * m) (8 + k) + ((b + 256 * m).testBit (8 + k)).toNat = cntB b 8 + (cntB m k + (m.testBit k).toNat)
    rw [cntB_hi hb k, show b + 256 * m = 2 ^ 8 * m + b by omega, Nat.testBit_two_pow_mul_add m (show b < 2 ^ 8 by omega) (8 + k), if_neg (by omega), show 8 + k - 8 = k by omega]
    omega
def sumL : List Nat → Nat
  | [] => 0
  | b :: l => b + sumL l
theorem cntB_L : ∀ L : List Nat, (∀ b ∈ L, b < 256) → sumL (L.map (fun b => s3B (s2B (s1B b)))) = cntB (vB L) (8 * L.length)
  | [], _ => rfl
  | b :: l, h => by
    have hb := h b List.mem_cons_self
    show s3B (s2B (s1B b)) + sumL (l.map _) = cntB (b + 256 * vB l) (8 * (l.length + 1))
    rw [cntB_L l (fun x hx => h x (List.mem_cons_of_mem _ hx)), show 8 * (l.length + 1) = 8 + 8 * l.length by omega, cntB_hi hb]
    have e := s3B_c ⟨b, hb⟩
    have e : s3B (s2B (s1B b)) = cntB b 8 := e
    rw [e]
/-- the whole, of naturals -/
def popN (n : Nat) : Nat :=
  let a := n - (n / 2 &&& 6148914691236517205)
  let b := (a &&& 3689348814741910323) + (a / 4 &&& 3689348814741910323)
  let c := b + b / 16 &&& 1085102592571150095
  let d := c + c / 256
  let e := d + d / 65536
  (e + e / 4294967296) % 128
def byL (n : Nat) : List Nat := [n % 256, n / 256 % 256, n / 65536 % 256, n / 16777216 % 256, n / 4294967296 % 256, n / 1099511627776 % 256, n / 281474976710656 % 256, n / 72057594037927936 % 256]
theorem byL_v {n : Nat} (h : n < 18446744073709551616) : vB (byL n) = n := by
  show n % 256 + 256 * (n / 256 % 256 + 256 * (n / 65536 % 256 + 256 * (n / 16777216 % 256 + 256 * (n / 4294967296 % 256 + 256 * (n / 1099511627776 % 256 + 256 * (n / 281474976710656 % 256 + 256 * (n / 72057594037927936 % 256 + 256 * 0))))))) = n
  omega
theorem byL_lt {n : Nat} : ∀ b ∈ byL n, b < 256 := by
  intro b hb
  unfold byL at hb
  simp only [List.mem_cons, List.not_mem_nil, or_false] at hb
  omega
theorem popN_sum {p0 p1 p2 p3 p4 p5 p6 p7 : Nat} (h0 : p0 ≤ 8) (h1 : p1 ≤ 8) (h2 : p2 ≤ 8) (h3 : p3 ≤ 8) (h4 : p4 ≤ 8) (h5 : p5 ≤ 8) (h6 : p6 ≤ 8) (h7 : p7 ≤ 8) {c d e : Nat} (hc : c = p0 + 256 * p1 + 65536 * p2 + 16777216 * p3 + 4294967296 * p4 + 1099511627776 * p5 + 281474976710656 * p6 + 72057594037927936 * p7) (hd : d = c + c / 256) (he : e = d + d / 65536) : (e + e / 4294967296) % 128 = p0 + p1 + p2 + p3 + p4 + p5 + p6 + p7 := by
  have k1 : c / 256 = p1 + 256 * p2 + 65536 * p3 + 16777216 * p4 + 4294967296 * p5 + 1099511627776 * p6 + 281474976710656 * p7 := by omega
  have d1 : d = (p0 + p1) + 256 * (p1 + p2) + 65536 * (p2 + p3) + 16777216 * (p3 + p4) + 4294967296 * (p4 + p5) + 1099511627776 * (p5 + p6) + 281474976710656 * (p6 + p7) + 72057594037927936 * p7 := by omega
  clear hd k1 hc
  have k2 : d / 65536 = (p2 + p3) + 256 * (p3 + p4) + 65536 * (p4 + p5) + 16777216 * (p5 + p6) + 4294967296 * (p6 + p7) + 1099511627776 * p7 := by omega
  have e1 : e = (p0 + p1 + p2 + p3) + 256 * (p1 + p2 + p3 + p4) + 65536 * (p2 + p3 + p4 + p5) + 16777216 * (p3 + p4 + p5 + p6) + 4294967296 * (p4 + p5 + p6 + p7) + 1099511627776 * (p5 + p6 + p7) + 281474976710656 * (p6 + p7) + 72057594037927936 * p7 := by omega
  clear he k2 d1
  have k3 : e / 4294967296 = (p4 + p5 + p6 + p7) + 256 * (p5 + p6 + p7) + 65536 * (p6 + p7) + 16777216 * p7 := by omega
  omega
theorem popN_cnt {n : Nat} (h : n < 18446744073709551616) : popN n = cntB n 64 := by
  have m85 : vB ((byL n).map (fun _ => 85)) = 6148914691236517205 := by
    show vB [85, 85, 85, 85, 85, 85, 85, 85] = _
    decide +kernel
  have m51 : ∀ L : List Nat, L.length = 8 → vB (L.map (fun _ => 51)) = 3689348814741910323 := fun L hL => by
    match L, hL with
    | [_, _, _, _, _, _, _, _], _ =>
      show vB [51, 51, 51, 51, 51, 51, 51, 51] = _
      decide +kernel
  have m15 : ∀ L : List Nat, L.length = 8 → vB (L.map (fun _ => 15)) = 1085102592571150095 := fun L hL => by
    match L, hL with
    | [_, _, _, _, _, _, _, _], _ =>
      show vB [15, 15, 15, 15, 15, 15, 15, 15] = _
      decide +kernel
  have l8 : (byL n).length = 8 := rfl
  have lt := byL_lt (n := n)
  have v0 := byL_v h
  have a1 := (vB_1 (byL n) lt).2
  rw [m85, v0] at a1
  have a2 := vB_2 ((byL n).map s1B) (fun x hx => by
    obtain ⟨b, hb, rfl⟩ := List.mem_map.mp hx
    exact (s12_f ⟨b, lt b hb⟩).1)
  rw [m51 _ (by rw [List.length_map]; exact l8), ← a1, List.map_map] at a2
  have a3 := (vB_3 ((byL n).map (s2B ∘ s1B)) (fun x hx => by
    obtain ⟨b, hb, rfl⟩ := List.mem_map.mp hx
    exact (s12_f ⟨b, lt b hb⟩).2.1)).1
  rw [m15 _ (by rw [List.length_map]; exact l8), ← a2, List.map_map] at a3
  have sm := cntB_L (byL n) lt
  rw [l8, v0] at sm
  have bd : ∀ b ∈ byL n, s3B (s2B (s1B b)) ≤ 8 := fun b hb => (s12_f ⟨b, lt b hb⟩).2.2
  unfold popN
  try dsimp only
  rw [a3]
  have key : ∀ L : List Nat, L.length = 8 → (∀ b ∈ L, b ≤ 8) → (vB L + vB L / 256 + (vB L + vB L / 256) / 65536 + (vB L + vB L / 256 + (vB L + vB L / 256) / 65536) / 4294967296) % 128 = sumL L := fun L hL hb => by
    match L, hL with
    | [p0, p1, p2, p3, p4, p5, p6, p7], _ =>
      simp only [List.mem_cons, List.not_mem_nil, or_false] at hb
      have hs : sumL [p0, p1, p2, p3, p4, p5, p6, p7] = p0 + p1 + p2 + p3 + p4 + p5 + p6 + p7 := by
        show p0 + (p1 + (p2 + (p3 + (p4 + (p5 + (p6 + (p7 + 0))))))) = _
        omega
      rw [hs]
      refine popN_sum (hb p0 (by simp)) (hb p1 (by simp)) (hb p2 (by simp)) (hb p3 (by simp)) (hb p4 (by simp)) (hb p5 (by simp)) (hb p6 (by simp)) (hb p7 (by simp)) ?_ rfl rfl
      show p0 + 256 * (p1 + 256 * (p2 + 256 * (p3 + 256 * (p4 + 256 * (p5 + 256 * (p6 + 256 * (p7 + 256 * 0))))))) = _
      omega
  rw [← sm]
  exact key _ (by rw [List.length_map]; exact l8) (fun x hx => by
    obtain ⟨b, hb, rfl⟩ := List.mem_map.mp hx
    exact bd b hb)
