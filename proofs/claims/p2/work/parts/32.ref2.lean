/-! THE REFERENCE over the typed memory: the rest of a box, what is missing -/
/-- boxes laid one behind the other from a place on -/
def zbs (t : Nat) : zS → Int → List Bx → zS
  | σ, _, [] => σ
  | σ, i, b :: l => zbs t (zb σ t i b) (i + 4) l
theorem zbs_fr {t : Nat} : ∀ (l : List Bx) (σ : zS) (i : Int) (c : Nat) (j : Int), (c ≠ t ∨ j < i ∨ i + 4 * (l.length : Int) ≤ j) → zbs t σ i l c j = σ c j
  | [], _, _, _, _, _ => rfl
  | b :: l, σ, i, c, j, h => by
    rw [List.length_cons] at h
    show zbs t (zb σ t i b) (i + 4) l c j = _
    rw [zbs_fr l _ _ c j (by omega)]
    rcases h with h | h
    · exact zb_a h
    · exact zb_i (by omega)
theorem zbs_bx {t c : Nat} {l : List Bx} {σ : zS} {i j : Int} (h : c ≠ t ∨ j + 4 ≤ i ∨ i + 4 * (l.length : Int) ≤ j) : bxA (zbs t σ i l) c j = bxA σ c j := by
  unfold bxA
  rw [zbs_fr l σ i c j (by omega), zbs_fr l σ i c (j + 1) (by omega), zbs_fr l σ i c (j + 2) (by omega), zbs_fr l σ i c (j + 3) (by omega)]
theorem zbs_app {t : Nat} : ∀ (l l2 : List Bx) (σ : zS) (i : Int), zbs t σ i (l ++ l2) = zbs t (zbs t σ i l) (i + 4 * (l.length : Int)) l2
  | [], l2, σ, i => by
    show zbs t σ i l2 = zbs t σ (i + 4 * ((0 : Nat) : Int)) l2
    rw [show i + 4 * ((0 : Nat) : Int) = i by omega]
  | b :: l, l2, σ, i => by
    show zbs t (zb σ t i b) (i + 4) (l ++ l2) = zbs t (zbs t (zb σ t i b) (i + 4) l) _ l2
    rw [zbs_app l l2, List.length_cons]
    rw [show i + 4 + 4 * (l.length : Int) = i + 4 * ((l.length + 1 : Nat) : Int) by omega]
theorem zbs_get {t : Nat} : ∀ (l : List Bx) (σ : zS) (i : Int) (k : Nat) (h : k < l.length), bxA (zbs t σ i l) t (i + 4 * (k : Int)) = l[k]
  | b :: l, σ, i, 0, _ => by
    show bxA (zbs t (zb σ t i b) (i + 4) l) t (i + 4 * ((0 : Nat) : Int)) = b
    rw [zbs_bx (by omega)]
    exact zb_bx (by omega)
  | b :: l, σ, i, k + 1, h => by
    have h2 : k < l.length := by rw [List.length_cons] at h; omega
    show bxA (zbs t (zb σ t i b) (i + 4) l) t (i + 4 * ((k + 1 : Nat) : Int)) = l[k]
    rw [show i + 4 * ((k + 1 : Nat) : Int) = i + 4 + 4 * (k : Int) by omega]
    exact zbs_get l _ _ k h2
theorem bx1 {σ : zS} {a : Nat} {i : Int} {A : Bx} (h : bxA σ a i = A) : σ a i = A.1 ∧ σ a (i + 1) = A.2.1 ∧ σ a (i + 2) = A.2.2.1 ∧ σ a (i + 3) = A.2.2.2 := by
  subst h
  exact ⟨rfl, rfl, rfl, rfl⟩
theorem s_rests_199 {a c t : Nat} {k0 : Int} {m : Nat} {σ : zS} (hm : m ≤ 1000) : g_m_rests_L199 a c t k0 (k0 + 4 * (m : Int)) σ = some ((m : Int), σ) := by
  unfold g_m_rests_L199
  rw [w32_id (x := k0 + 4 * (m : Int) - k0) (by omega) (by omega), show k0 + 4 * (m : Int) - k0 = 4 * (m : Int) by omega]
  have e : Int.tdiv (4 * (m : Int)) 4 = m := by
    rw [Int.tdiv_eq_ediv_of_nonneg (by omega)]
    omega
  rw [e, w32_id (by omega) (by omega)]
def oneIf (P : Prop) [Decidable P] (b : Bx) : List Bx := if P then [b] else []
theorem oneIf_t {P : Prop} [Decidable P] {b : Bx} (h : P) : oneIf P b = [b] := if_pos h
theorem oneIf_f {P : Prop} [Decidable P] {b : Bx} (h : ¬ P) : oneIf P b = [] := if_neg h
theorem s_rests_160 {a c t : Nat} {i j k0 lo hi : Int} {m : Nat} {σ : zS} {A C : Bx} (hA : bxA σ a i = A) (hC : bxA σ c j = C) (okC : bOk C) (h1 : 0 ≤ i) (h2 : i + 3 < zLI a) (h3 : zLI a ≤ 100000) (h4 : 0 ≤ j) (h5 : j + 3 < zLI c) (h6 : zLI c ≤ 100000) (h7 : 0 ≤ k0) (h8 : k0 + 4 * (m : Int) + 3 < zLI t) (h9 : zLI t ≤ 100000) (hm : m ≤ 3) : g_m_rests_L160 a c t i j k0 (k0 + 4 * (m : Int)) lo hi σ = some (((m + (oneIf (C.2.1 < A.2.1) (C.2.1 + 1, A.2.1, lo, hi)).length : Nat) : Int), zbs t σ (k0 + 4 * (m : Int)) (oneIf (C.2.1 < A.2.1) (C.2.1 + 1, A.2.1, lo, hi))) := by
  obtain ⟨a1, a2, a3, a4⟩ := bx1 hA
  obtain ⟨c1, c2, c3, c4⟩ := bx1 hC
  dsimp only [bOk] at okC
  unfold g_m_rests_L160
  rw [w32_id (x := i + 1) (by omega) (by omega), w32_id (x := j + 1) (by omega) (by omega), if_pos (by omega), if_pos (by omega), a2, c2]
  by_cases h : C.2.1 < A.2.1
  · rw [oneIf_t h]
    show (if A.2.1 ≤ C.2.1 then _ else _) = _
    rw [if_neg (by omega), if_pos (by omega), if_pos (by omega)]
    show (g_m_sets t (k0 + 4 * (m : Int)) (w32 (C.2.1 + 1)) A.2.1 lo hi σ).bind _ = _
    rw [w32_id (x := C.2.1 + 1) (by omega) (by omega), s_sets (by omega) h8 h9, Option.bind_some, w32_id (x := k0 + 4 * (m : Int) + 4) (by omega) (by omega)]
    show g_m_rests_L199 a c t k0 (k0 + 4 * (m : Int) + 4) (zb σ t (k0 + 4 * (m : Int)) (C.2.1 + 1, A.2.1, lo, hi)) = _
    rw [show k0 + 4 * (m : Int) + 4 = k0 + 4 * ((m + 1 : Nat) : Int) by omega, s_rests_199 (by omega)]
    rfl
  · rw [oneIf_f h]
    show (if A.2.1 ≤ C.2.1 then _ else _) = _
    rw [if_pos (by omega), s_rests_199 (by omega)]
    rfl
theorem s_rests_129 {a c t : Nat} {i j k0 lo hi : Int} {m : Nat} {σ : zS} {A C : Bx} (hA : bxA σ a i = A) (hC : bxA σ c j = C) (okC : bOk C) (ta : a ≠ t) (tc : c ≠ t) (h1 : 0 ≤ i) (h2 : i + 3 < zLI a) (h3 : zLI a ≤ 100000) (h4 : 0 ≤ j) (h5 : j + 3 < zLI c) (h6 : zLI c ≤ 100000) (h7 : 0 ≤ k0) (h8 : k0 + 4 * (m : Int) + 7 < zLI t) (h9 : zLI t ≤ 100000) (hm : m ≤ 2) : g_m_rests_L129 a c t i j k0 (k0 + 4 * (m : Int)) lo hi σ = some (((m + (oneIf (A.1 < C.1) (A.1, C.1 - 1, lo, hi) ++ oneIf (C.2.1 < A.2.1) (C.2.1 + 1, A.2.1, lo, hi)).length : Nat) : Int), zbs t σ (k0 + 4 * (m : Int)) (oneIf (A.1 < C.1) (A.1, C.1 - 1, lo, hi) ++ oneIf (C.2.1 < A.2.1) (C.2.1 + 1, A.2.1, lo, hi))) := by
  obtain ⟨a1, a2, a3, a4⟩ := bx1 hA
  obtain ⟨c1, c2, c3, c4⟩ := bx1 hC
  dsimp only [bOk] at okC
  unfold g_m_rests_L129
  rw [if_pos (by omega), if_pos (by omega), a1, c1]
  by_cases h : A.1 < C.1
  · rw [oneIf_t h]
    show (if C.1 ≤ A.1 then _ else _) = _
    rw [if_neg (by omega), if_pos (by omega), if_pos (by omega)]
    show (g_m_sets t (k0 + 4 * (m : Int)) A.1 (w32 (C.1 - 1)) lo hi σ).bind _ = _
    rw [w32_id (x := C.1 - 1) (by omega) (by omega), s_sets (by omega) (by omega) h9, Option.bind_some, w32_id (x := k0 + 4 * (m : Int) + 4) (by omega) (by omega)]
    show g_m_rests_L160 a c t i j k0 (k0 + 4 * (m : Int) + 4) lo hi (zb σ t (k0 + 4 * (m : Int)) (A.1, C.1 - 1, lo, hi)) = _
    rw [show k0 + 4 * (m : Int) + 4 = k0 + 4 * ((m + 1 : Nat) : Int) by omega, s_rests_160 (A := A) (C := C) (by rw [zb_bxa ta]; exact hA) (by rw [zb_bxa tc]; exact hC) okC h1 h2 h3 h4 h5 h6 h7 (by omega) h9 (by omega)]
    rw [List.singleton_append, List.length_cons, Nat.add_right_comm, Nat.add_assoc]
    show _ = some (_, zbs t (zb σ t (k0 + 4 * (m : Int)) (A.1, C.1 - 1, lo, hi)) (k0 + 4 * (m : Int) + 4) _)
    rw [show k0 + 4 * ((m + 1 : Nat) : Int) = k0 + 4 * (m : Int) + 4 by omega]
  · rw [oneIf_f h, List.nil_append]
    show (if C.1 ≤ A.1 then _ else _) = _
    rw [if_pos (by omega), s_rests_160 hA hC okC h1 h2 h3 h4 h5 h6 h7 (by omega) h9 (by omega)]
theorem s_rests_92 {a c t : Nat} {i j k0 lo hi : Int} {m : Nat} {σ : zS} {A C : Bx} (hA : bxA σ a i = A) (hC : bxA σ c j = C) (okC : bOk C) (hhi : -10 ≤ hi ∧ hi ≤ 100) (ta : a ≠ t) (tc : c ≠ t) (h1 : 0 ≤ i) (h2 : i + 3 < zLI a) (h3 : zLI a ≤ 100000) (h4 : 0 ≤ j) (h5 : j + 3 < zLI c) (h6 : zLI c ≤ 100000) (h7 : 0 ≤ k0) (h8 : k0 + 4 * (m : Int) + 11 < zLI t) (h9 : zLI t ≤ 100000) (hm : m ≤ 1) : g_m_rests_L92 a c t i j k0 (k0 + 4 * (m : Int)) lo hi σ = some (((m + (oneIf (hi < A.2.2.2) (A.1, A.2.1, hi + 1, A.2.2.2) ++ (oneIf (A.1 < C.1) (A.1, C.1 - 1, lo, hi) ++ oneIf (C.2.1 < A.2.1) (C.2.1 + 1, A.2.1, lo, hi))).length : Nat) : Int), zbs t σ (k0 + 4 * (m : Int)) (oneIf (hi < A.2.2.2) (A.1, A.2.1, hi + 1, A.2.2.2) ++ (oneIf (A.1 < C.1) (A.1, C.1 - 1, lo, hi) ++ oneIf (C.2.1 < A.2.1) (C.2.1 + 1, A.2.1, lo, hi)))) := by
  obtain ⟨a1, a2, a3, a4⟩ := bx1 hA
  unfold g_m_rests_L92
  rw [w32_id (x := i + 1) (by omega) (by omega), w32_id (x := i + 3) (by omega) (by omega), if_pos (by omega), a4]
  by_cases h : hi < A.2.2.2
  · rw [oneIf_t h]
    show (if A.2.2.2 ≤ hi then _ else _) = _
    rw [if_neg (by omega), if_pos (by omega), if_pos (by omega), if_pos (by omega)]
    rw [a1, a2]
    show (g_m_sets t (k0 + 4 * (m : Int)) A.1 A.2.1 (w32 (hi + 1)) A.2.2.2 σ).bind _ = _
    rw [w32_id (x := hi + 1) (by omega) (by omega), s_sets (by omega) (by omega) h9, Option.bind_some, w32_id (x := k0 + 4 * (m : Int) + 4) (by omega) (by omega)]
    show g_m_rests_L129 a c t i j k0 (k0 + 4 * (m : Int) + 4) lo hi (zb σ t (k0 + 4 * (m : Int)) (A.1, A.2.1, hi + 1, A.2.2.2)) = _
    rw [show k0 + 4 * (m : Int) + 4 = k0 + 4 * ((m + 1 : Nat) : Int) by omega, s_rests_129 (A := A) (C := C) (by rw [zb_bxa ta]; exact hA) (by rw [zb_bxa tc]; exact hC) okC ta tc h1 h2 h3 h4 h5 h6 h7 (by omega) h9 (by omega)]
    rw [List.singleton_append, List.length_cons, Nat.add_right_comm, Nat.add_assoc]
    show _ = some (_, zbs t (zb σ t (k0 + 4 * (m : Int)) (A.1, A.2.1, hi + 1, A.2.2.2)) (k0 + 4 * (m : Int) + 4) _)
    rw [show k0 + 4 * ((m + 1 : Nat) : Int) = k0 + 4 * (m : Int) + 4 by omega]
  · rw [oneIf_f h, List.nil_append]
    show (if A.2.2.2 ≤ hi then _ else _) = _
    rw [if_pos (by omega), s_rests_129 hA hC okC ta tc h1 h2 h3 h4 h5 h6 h7 (by omega) h9 (by omega)]
theorem bRest_one {A C : Bx} (h : bMt A C) : bRest A C = oneIf (A.2.2.1 < zmx A.2.2.1 C.2.2.1) (A.1, A.2.1, A.2.2.1, zmx A.2.2.1 C.2.2.1 - 1) ++ (oneIf (zmn A.2.2.2 C.2.2.2 < A.2.2.2) (A.1, A.2.1, zmn A.2.2.2 C.2.2.2 + 1, A.2.2.2) ++ (oneIf (A.1 < C.1) (A.1, C.1 - 1, zmx A.2.2.1 C.2.2.1, zmn A.2.2.2 C.2.2.2) ++ oneIf (C.2.1 < A.2.1) (C.2.1 + 1, A.2.1, zmx A.2.2.1 C.2.2.1, zmn A.2.2.2 C.2.2.2))) := by
  unfold bRest
  rw [if_pos h]
  have e1 : (if A.2.2.1 < C.2.2.1 then [((A.1, A.2.1, A.2.2.1, C.2.2.1 - 1) : Bx)] else []) = oneIf (A.2.2.1 < zmx A.2.2.1 C.2.2.1) (A.1, A.2.1, A.2.2.1, zmx A.2.2.1 C.2.2.1 - 1) := by
    unfold zmx
    by_cases h : A.2.2.1 < C.2.2.1
    · rw [if_pos h, if_pos h, oneIf_t h]
    · rw [if_neg h, if_neg h, oneIf_f (by omega)]
  have e2 : (if C.2.2.2 < A.2.2.2 then [((A.1, A.2.1, C.2.2.2 + 1, A.2.2.2) : Bx)] else []) = oneIf (zmn A.2.2.2 C.2.2.2 < A.2.2.2) (A.1, A.2.1, zmn A.2.2.2 C.2.2.2 + 1, A.2.2.2) := by
    unfold zmn
    by_cases h : C.2.2.2 < A.2.2.2
    · rw [if_pos h, if_neg (by omega), oneIf_t h]
    · rw [if_neg h]
      by_cases h2 : A.2.2.2 < C.2.2.2
      · rw [if_pos h2, oneIf_f (by omega)]
      · rw [if_neg h2, oneIf_f (by omega)]
  rw [e1, e2]
  rfl
theorem s_rests {a c t : Nat} {i j k0 : Int} {σ : zS} (okA : bOk (bxA σ a i)) (okC : bOk (bxA σ c j)) (ta : a ≠ t) (tc : c ≠ t) (h1 : 0 ≤ i) (h2 : i + 3 < zLI a) (h3 : zLI a ≤ 100000) (h4 : 0 ≤ j) (h5 : j + 3 < zLI c) (h6 : zLI c ≤ 100000) (h7 : 0 ≤ k0) (h8 : k0 + 16 ≤ zLI t) (h9 : zLI t ≤ 100000) : g_m_rests a c t i j k0 σ = some (((bRest (bxA σ a i) (bxA σ c j)).length : Int), zbs t σ k0 (bRest (bxA σ a i) (bxA σ c j))) := by
  generalize hA : bxA σ a i = A at okA ⊢
  generalize hC : bxA σ c j = C at okC ⊢
  obtain ⟨a1, a2, a3, a4⟩ := bx1 hA
  obtain ⟨c1, c2, c3, c4⟩ := bx1 hC
  have oA := okA
  have oC := okC
  dsimp only [bOk] at oA oC
  unfold g_m_rests
  rw [s_doMeet h1 h2 h3 h4 h5 h6, Option.bind_some, hA, hC]
  by_cases hm : bMt A C
  · rw [if_pos hm]
    show (if (1 : Int) ≠ 0 then _ else _) = _
    have z1 := @zmx_le A.2.2.1 C.2.2.1
    have z2 := @zmn_le A.2.2.2 C.2.2.2
    rw [if_pos (by decide), w32_id (x := i + 1) (by omega) (by omega), w32_id (x := i + 2) (by omega) (by omega), w32_id (x := i + 3) (by omega) (by omega), w32_id (x := j + 2) (by omega) (by omega), w32_id (x := j + 3) (by omega) (by omega), if_pos (by omega), if_pos (by omega)]
    simp only [s_more, s_less, Option.bind_some, zmx_c]
    rw [a3, c3, if_pos (by omega), if_pos (by omega), a4, c4, if_pos (by omega)]
    generalize hlo : zmx A.2.2.1 C.2.2.1 = lo at z1
    generalize hhi : zmn A.2.2.2 C.2.2.2 = hi at z2
    rw [bRest_one hm, hlo, hhi]
    by_cases h : A.2.2.1 < lo
    · rw [oneIf_t h, if_neg (by omega), if_pos (by omega), if_pos (by omega), if_pos (by omega), a1, a2, w32_id (x := lo - 1) (by omega) (by omega), s_sets (by omega) (by omega) h9, Option.bind_some, w32_id (x := k0 + 4) (by omega) (by omega)]
      show g_m_rests_L92 a c t i j k0 (k0 + 4) lo hi (zb σ t k0 (A.1, A.2.1, A.2.2.1, lo - 1)) = _
      rw [show k0 + 4 = k0 + 4 * ((1 : Nat) : Int) by omega, s_rests_92 (A := A) (C := C) (by rw [zb_bxa ta]; exact hA) (by rw [zb_bxa tc]; exact hC) okC (by omega) ta tc h1 h2 h3 h4 h5 h6 h7 (by omega) h9 (by omega)]
      rw [List.singleton_append, List.length_cons, Nat.add_comm 1]
      rfl
    · rw [oneIf_f h, List.nil_append, if_pos (by omega)]
      have := s_rests_92 (m := 0) (lo := lo) hA hC okC (show -10 ≤ hi ∧ hi ≤ 100 by omega) ta tc h1 h2 h3 h4 h5 h6 h7 (by omega) h9 (by omega)
      rw [show k0 + 4 * ((0 : Nat) : Int) = k0 by omega, Nat.zero_add] at this
      exact this
  · rw [if_neg hm]
    show (if (0 : Int) ≠ 0 then _ else _) = _
    rw [if_neg (by decide), s_copies h1 h2 h3 h7 (by omega) h9, hA, Option.bind_some]
    have e : bRest A C = [A] := by
      unfold bRest
      rw [if_neg hm]
    rw [e]
    rfl
/-- the boxes from the start of an array on -/
def lstA (σ : zS) (a : Nat) (n : Nat) : List Bx := (List.range n).map (fun k : Nat => bxA σ a (4 * (k : Int)))
/-- the boxes of the reference's regions -/
def rbx (σ : zS) (n : Nat) : List Bx := (List.range n).map (fun k : Nat => bxA σ 144 (340 + 10 * (k : Int)))
theorem lstA_get {σ : zS} {a n k : Nat} (h : k < n) : (lstA σ a n)[k]? = some (bxA σ a (4 * (k : Int))) := by
  unfold lstA
  rw [List.getElem?_map, List.getElem?_range h]
  rfl
theorem rbx_get {σ : zS} {n k : Nat} (h : k < n) : (rbx σ n)[k]? = some (bxA σ 144 (340 + 10 * (k : Int))) := by
  unfold rbx
  rw [List.getElem?_map, List.getElem?_range h]
  rfl
theorem lstA_len {σ : zS} {a n : Nat} : (lstA σ a n).length = n := by unfold lstA; rw [List.length_map, List.length_range]
theorem rbx_len {σ : zS} {n : Nat} : (rbx σ n).length = n := by unfold rbx; rw [List.length_map, List.length_range]
theorem lstA_ext {σ : zS} {a : Nat} {l : List Bx} (h : ∀ (k : Nat) (hk : k < l.length), bxA σ a (4 * (k : Int)) = l[k]) : lstA σ a l.length = l := by
  apply List.ext_getElem?
  intro k
  by_cases hk : k < l.length
  · rw [lstA_get hk, h k hk, List.getElem?_eq_getElem hk]
  · rw [List.getElem?_eq_none (by rw [lstA_len]; omega), List.getElem?_eq_none (by omega)]
