/-! SORTED ROWS: lists by a key; the class's and the reference's gathering tell the same -/
theorem SL_eq {K : Int → Int} : ∀ {L1 L2 : List Int}, L1.Pairwise (fun a b => K a < K b) → L2.Pairwise (fun a b => K a < K b) → (∀ v, v ∈ L1 ↔ v ∈ L2) → L1 = L2
  | [], [], _, _, _ => rfl
  | [], b :: t, _, _, h => absurd ((h b).mpr List.mem_cons_self) List.not_mem_nil
  | a :: t, [], _, _, h => absurd ((h a).mp List.mem_cons_self) List.not_mem_nil
  | a :: t1, b :: t2, h1, h2, h => by
    obtain ⟨p1, q1⟩ := List.pairwise_cons.mp h1
    obtain ⟨p2, q2⟩ := List.pairwise_cons.mp h2
    have e : a = b := by
      rcases List.mem_cons.mp ((h a).mp List.mem_cons_self) with e | m1
      · exact e
      · rcases List.mem_cons.mp ((h b).mpr List.mem_cons_self) with e | m2
        · exact e.symm
        · have e1 := p1 b m2
          have e2 := p2 a m1
          omega
    subst e
    have ht : t1 = t2 := SL_eq q1 q2 (fun v => by
      constructor
      · intro hv
        rcases List.mem_cons.mp ((h v).mp (List.mem_cons_of_mem _ hv)) with e | m
        · subst e
          have := p1 v hv
          omega
        · exact m
      · intro hv
        rcases List.mem_cons.mp ((h v).mpr (List.mem_cons_of_mem _ hv)) with e | m
        · subst e
          have := p2 v hv
          omega
        · exact m)
    rw [ht]
def SL (K : Int → Int) (sel : Int → Prop) (L : List Int) : Prop := L.Pairwise (fun a b => K a < K b) ∧ ∀ v, v ∈ L ↔ sel v
theorem SL.uniq {K K2 : Int → Int} {s1 s2 : Int → Prop} {L1 L2 : List Int} (h1 : SL K s1 L1) (h2 : SL K2 s2 L2) (hs : ∀ v, s1 v ↔ s2 v) (hk : ∀ v, s1 v → K2 v = K v) : L1 = L2 := by
  refine SL_eq (K := K) h1.1 (List.Pairwise.imp_of_mem (fun {a b} ha hb h => ?_) h2.1) (fun v => (h1.2 v).trans ((hs v).trans (h2.2 v).symm))
  rw [hk a ((hs a).mpr ((h2.2 a).mp ha)), hk b ((hs b).mpr ((h2.2 b).mp hb))] at h
  exact h
theorem sg_get {f : Int → Int} : ∀ (n : Nat) (a : Int) (j : Nat), j < n → (sg f a n).getD j 0 = f (a + (j : Int))
  | 0, _, _, h => absurd h (Nat.not_lt_zero _)
  | n + 1, a, 0, _ => by
    show f a = f (a + ((0 : Nat) : Int))
    rw [show a + ((0 : Nat) : Int) = a by omega]
  | n + 1, a, j + 1, h => by
    show (sg f (a + 1) n).getD j 0 = _
    rw [sg_get n (a + 1) j (by omega), show a + 1 + (j : Int) = a + ((j + 1 : Nat) : Int) by omega]
/-- one comes in at its place -/
theorem ins_SL {K : Int → Int} {f h : Int → Int} {n p : Nat} {r : Int} (hp : p ≤ n) (c1 : ∀ j : Nat, j < p → h (j : Int) = f (j : Int)) (c2 : h (p : Int) = r) (c3 : ∀ j : Nat, p ≤ j → j < n → h ((j : Int) + 1) = f (j : Int)) (k1 : ∀ j : Nat, j < p → K (f (j : Int)) < K r) (k2 : ∀ j : Nat, p ≤ j → j < n → K r < K (f (j : Int))) (S : (sg f 0 n).Pairwise (fun a b => K a < K b)) : (sg h 0 (n + 1)).Pairwise (fun a b => K a < K b) ∧ ∀ v, v ∈ sg h 0 (n + 1) ↔ v = r ∨ v ∈ sg f 0 n := by
  obtain ⟨d, rfl⟩ : ∃ d, n = p + d := ⟨n - p, by omega⟩
  have e1 : sg h 0 (p + d + 1) = sg f 0 p ++ (r :: sg f (p : Int) d) := by
    rw [show p + d + 1 = p + (d + 1) by omega, sg_app h p (d + 1) 0]
    have a1 : sg h 0 p = sg f 0 p := sg_ext p 0 0 (fun j hj => by rw [show (0 : Int) + (j : Int) = (j : Int) by omega]; exact c1 j hj)
    have a2 : sg h (0 + (p : Int)) (d + 1) = r :: sg f (p : Int) d := by
      show h (0 + (p : Int)) :: sg h (0 + (p : Int) + 1) d = _
      rw [show (0 : Int) + (p : Int) = (p : Int) by omega, c2]
      have a3 : sg h ((p : Int) + 1) d = sg f (p : Int) d := sg_ext d _ _ (fun j hj => by
        have e := c3 (p + j) (by omega) (by omega)
        rw [show (p : Int) + 1 + (j : Int) = ((p + j : Nat) : Int) + 1 by omega, e, show ((p + j : Nat) : Int) = (p : Int) + (j : Int) by omega])
      rw [a3]
    rw [a1, a2]
  have e2 : sg f 0 (p + d) = sg f 0 p ++ sg f (p : Int) d := by
    rw [sg_app f p d 0, show (0 : Int) + (p : Int) = (p : Int) by omega]
  rw [e2] at S
  obtain ⟨s1, s2, s3⟩ := List.pairwise_append.mp S
  have lo : ∀ a, a ∈ sg f 0 p → K a < K r := fun a ha => by
    obtain ⟨j, h1, h2⟩ := (sg_mem p 0).mp ha
    rw [show (0 : Int) + (j : Int) = (j : Int) by omega] at h2
    rw [← h2]
    exact k1 j h1
  have hi : ∀ a, a ∈ sg f (p : Int) d → K r < K a := fun a ha => by
    obtain ⟨j, h1, h2⟩ := (sg_mem d (p : Int)).mp ha
    have e := k2 (p + j) (by omega) (by omega)
    rw [show ((p + j : Nat) : Int) = (p : Int) + (j : Int) by omega, h2] at e
    exact e
  rw [e1, e2]
  constructor
  · refine List.pairwise_append.mpr ⟨s1, List.pairwise_cons.mpr ⟨hi, s2⟩, fun a ha b hb => ?_⟩
    rcases List.mem_cons.mp hb with e | m
    · rw [e]; exact lo a ha
    · exact s3 a ha b m
  · intro v
    rw [List.mem_append, List.mem_append, List.mem_cons]
    constructor
    · rintro (h1 | h1 | h1)
      · exact Or.inr (Or.inl h1)
      · exact Or.inl h1
      · exact Or.inr (Or.inr h1)
    · rintro (h1 | h1 | h1)
      · exact Or.inr (Or.inl h1)
      · exact Or.inl h1
      · exact Or.inr (Or.inr h1)
/-! the class gathers -/
theorem p_gath8 {a : Nat} (ha : a = 60 ∨ a = 70) {rows : Int} {P : Int → Bool} (hP : ∀ q : Nat, q < 60 → bq rows q = P (q : Int)) {C : Nat} (hC2 : C ≤ 60) : ∀ (n k m : Nat) (σ : zS), σ 41 4 = (C : Int) → k ≤ C → σ a 2 = (m : Int) → (∀ j : Nat, j < C → 0 ≤ σ 45 (j : Int) ∧ σ 45 (j : Int) < 60) → zP' (g_fi_gather_L8 a n rows (k : Int) σ) (fun _ s => (∀ b j, b ≠ a + 1 → b ≠ a + 2 → (b ≠ a ∨ j ≠ 2) → s b j = σ b j) ∧ ∃ d : Nat, s a 2 = ((m + d : Nat) : Int) ∧ sg (s (a + 1)) 0 (m + d) = sg (σ (a + 1)) 0 m ++ (sg (σ 45) (k : Int) (C - k)).filter P ∧ (∀ j : Nat, j < m → s (a + 2) (j : Int) = σ (a + 2) (j : Int)) ∧ ∀ j : Nat, m ≤ j → j < m + d → s (a + 2) (j : Int) = σ 44 (s (a + 1) (j : Int)))
  | 0, _, _, _, _, _, _, _ => zP'.no
  | n + 1, k, m, σ, hC, hk, hm, hv => by
    unfold g_fi_gather_L8
    try dsimp +instances only
    have fin : k = C → zP' (some ((), σ)) (fun (_ : Unit) (s : zS) => (∀ b j, b ≠ a + 1 → b ≠ a + 2 → (b ≠ a ∨ j ≠ 2) → s b j = σ b j) ∧ ∃ d : Nat, s a 2 = ((m + d : Nat) : Int) ∧ sg (s (a + 1)) 0 (m + d) = sg (σ (a + 1)) 0 m ++ (sg (σ 45) (k : Int) (C - k)).filter P ∧ (∀ j : Nat, j < m → s (a + 2) (j : Int) = σ (a + 2) (j : Int)) ∧ ∀ j : Nat, m ≤ j → j < m + d → s (a + 2) (j : Int) = σ 44 (s (a + 1) (j : Int))) := fun e => by
      subst e
      refine zP'.ret ⟨fun _ _ _ _ _ => rfl, 0, hm, ?_, fun _ _ => rfl, fun j h1 h2 => absurd h2 (by omega)⟩
      rw [Nat.sub_self]
      show _ = _ ++ []
      rw [List.append_nil]
      rfl
    refine zP'.ite (fun c => fin (by omega)) (fun c => zP'.ite (fun c2 => fin (by omega)) (fun c2 => zP'.gd (fun _ => ?_)))
    obtain ⟨v1, v2⟩ := hv k (by omega)
    obtain ⟨r, hr⟩ : ∃ r : Nat, σ 45 (k : Int) = (r : Int) := ⟨(σ 45 (k : Int)).toNat, by omega⟩
    have hr6 : r < 60 := by omega
    have ek : w32 ((k : Int) + 1) = ((k + 1 : Nat) : Int) := by
      rw [w32_id (by omega) (by omega)]
      omega
    have eC : C - k = (C - (k + 1)) + 1 := by omega
    try dsimp +instances only
    rw [hr, p_isRow, if_pos (by omega)]
    rw [Option.bind_some]
    try dsimp +instances only
    rw [if_neg (by decide)]
    have ht := bq_tst (v := rows) (r := r) (by omega)
    have hPr := hP r hr6
    have step : sg (σ 45) (k : Int) (C - k) = (r : Int) :: sg (σ 45) ((k + 1 : Nat) : Int) (C - (k + 1)) := by
      rw [eC]
      show σ 45 (k : Int) :: sg (σ 45) ((k : Int) + 1) (C - (k + 1)) = _
      rw [hr, show (k : Int) + 1 = ((k + 1 : Nat) : Int) by omega]
    refine zP'.ite (fun c3 => ?_) (fun c3 => ?_)
    · unfold g_fi_gather_L89
      rw [ek]
      refine (p_gath8 ha hP hC2 n (k + 1) m σ hC (by omega) hm hv).imp (fun _ s p => ?_)
      obtain ⟨p1, d, p2, p3, p4, p5⟩ := p
      refine ⟨p1, d, p2, ?_, p4, p5⟩
      have hb : P (r : Int) = false := by
        rw [← hPr]
        exact ht.mp c3
      rw [p3, step, List.filter_cons_of_neg (by rw [hb]; decide)]
    · have hb : P (r : Int) = true := by
        cases hb : P (r : Int) with
        | true => rfl
        | false => exact absurd (ht.mpr (by rw [hPr, hb])) c3
      rw [hm]
      refine zP'.gd (fun c4 => ?_)
      try dsimp +instances only
      rw [show zu σ (a + 1) (m : Int) (r : Int) a 2 = (m : Int) from (zu_a (by omega)).trans hm]
      refine zP'.gd (fun _ => zP'.gd (fun _ => ?_))
      try dsimp +instances only
      rw [show zu (zu σ (a + 1) (m : Int) (r : Int)) (a + 2) (m : Int) (zu σ (a + 1) (m : Int) (r : Int) 44 (r : Int)) a 2 = (m : Int) from (zu_a (by omega)).trans ((zu_a (by omega)).trans hm)]
      rw [show zu σ (a + 1) (m : Int) (r : Int) 44 (r : Int) = σ 44 (r : Int) from zu_a (by omega)]
      rw [w32_id (x := (m : Int) + 1) (by omega) (by omega)]
      generalize hs : zu (zu (zu σ (a + 1) (m : Int) (r : Int)) (a + 2) (m : Int) (σ 44 (r : Int))) a 2 ((m : Int) + 1) = s1
      have q : ∀ b j, b ≠ a + 1 → b ≠ a + 2 → (b ≠ a ∨ j ≠ 2) → s1 b j = σ b j := fun b j h1 h2 h3 => by
        rw [← hs, zu_c h3, zu_a h2, zu_a h1]
      have q1 : ∀ j : Int, s1 (a + 1) j = if j = (m : Int) then (r : Int) else σ (a + 1) j := fun j => by
        rw [← hs, zu_a (by omega), zu_a (by omega)]
        by_cases cj : j = (m : Int)
        · rw [zu_e cj, if_pos cj]
        · rw [zu_i cj, if_neg cj]
      have q2 : ∀ j : Int, s1 (a + 2) j = if j = (m : Int) then σ 44 (r : Int) else σ (a + 2) j := fun j => by
        rw [← hs, zu_a (by omega)]
        by_cases cj : j = (m : Int)
        · rw [zu_e cj, if_pos cj]
        · rw [zu_i cj, if_neg cj, zu_a (by omega)]
      have qm : s1 a 2 = ((m + 1 : Nat) : Int) := by
        rw [← hs, zu_e rfl]
        omega
      unfold g_fi_gather_L89
      rw [ek]
      refine (p_gath8 ha hP hC2 n (k + 1) (m + 1) s1 (by rw [q 41 4 (by omega) (by omega) (by omega)]; exact hC) (by omega) qm (fun j hj => by rw [q 45 _ (by omega) (by omega) (by omega)]; exact hv j hj)).imp (fun _ s p => ?_)
      obtain ⟨p1, d, p2, p3, p4, p5⟩ := p
      have e45 : sg (s1 45) ((k + 1 : Nat) : Int) (C - (k + 1)) = sg (σ 45) ((k + 1 : Nat) : Int) (C - (k + 1)) := sg_ext _ _ _ (fun j _ => q 45 _ (by omega) (by omega) (by omega))
      have e1 : sg (s1 (a + 1)) 0 (m + 1) = sg (σ (a + 1)) 0 m ++ [(r : Int)] := by
        rw [sg_snoc, q1, if_pos (by omega)]
        rw [sg_ext (f := s1 (a + 1)) (g := σ (a + 1)) m 0 0 (fun j hj => by rw [q1, if_neg (by omega)])]
      refine ⟨fun b j h1 h2 h3 => (p1 b j h1 h2 h3).trans (q b j h1 h2 h3), d + 1, by rw [p2]; omega, ?_, fun j hj => ?_, fun j j1 j2 => ?_⟩
      · rw [show m + (d + 1) = m + 1 + d by omega, p3, e1, step, e45, List.filter_cons_of_pos hb, List.append_assoc]
        rfl
      · rw [p4 j (by omega), q2, if_neg (by omega)]
      · by_cases cj : j = m
        · subst cj
          have e2 : s (a + 1) (j : Int) = (r : Int) := by
            have h := congrArg (fun l => l.getD j 0) p3
            try dsimp only at h
            rw [sg_get _ _ _ (by omega), show (0 : Int) + (j : Int) = (j : Int) by omega] at h
            rw [h, e1]
            have hl := sg_len (σ (a + 1)) j 0
            rw [List.append_assoc, List.getD_eq_getElem?_getD, List.getElem?_append_right (by omega), hl, Nat.sub_self]
            rfl
          rw [e2, p4 j (by omega), q2, if_pos rfl]
        · rw [p5 j (by omega) (by omega)]
          exact q 44 _ (by omega) (by omega) (by omega)
theorem p_gather {a : Nat} (ha : a = 60 ∨ a = 70) {rows : Int} {P : Int → Bool} (hP : ∀ q : Nat, q < 60 → bq rows q = P (q : Int)) {σ : zS} (h4 : 0 ≤ σ 41 4 ∧ σ 41 4 ≤ 60) (hv : ∀ j : Nat, (j : Int) < σ 41 4 → 0 ≤ σ 45 (j : Int) ∧ σ 45 (j : Int) < 60) : zP' (g_fi_gather a rows σ) (fun _ s => (∀ b j, b ≠ a + 1 → b ≠ a + 2 → (b ≠ a ∨ j ≠ 2) → s b j = σ b j) ∧ ∃ d : Nat, s a 2 = (d : Int) ∧ sg (s (a + 1)) 0 d = (ordL σ 41).filter P ∧ ∀ j : Nat, j < d → s (a + 2) (j : Int) = σ 44 (s (a + 1) (j : Int))) := by
  obtain ⟨C, hC⟩ : ∃ C : Nat, σ 41 4 = (C : Int) := ⟨(σ 41 4).toNat, by omega⟩
  unfold g_fi_gather
  try dsimp +instances only
  have q : ∀ b j, (b ≠ a ∨ j ≠ 2) → zu σ a 2 0 b j = σ b j := fun b j h => zu_c h
  refine (p_gath8 ha hP (C := C) (by omega) zK 0 0 (zu σ a 2 0) (by rw [q 41 4 (by omega)]; exact hC) (Nat.zero_le _) (zu_e rfl) (fun j hj => by rw [q 45 _ (by omega)]; exact hv j (by omega))).imp (fun _ s p => ?_)
  obtain ⟨p1, d, p2, p3, p4, p5⟩ := p
  refine ⟨fun b j h1 h2 h3 => (p1 b j h1 h2 h3).trans (q b j h3), d, by rw [p2]; omega, ?_, fun j hj => by rw [p5 j (by omega) (by omega), q 44 _ (by omega)]⟩
  rw [Nat.zero_add] at p3
  rw [p3]
  show [] ++ (sg (zu σ a 2 0 45) ((0 : Nat) : Int) (C - 0)).filter P = (sg (σ 45) 0 (σ 41 4).toNat).filter P
  rw [List.nil_append, hC, show ((C : Int)).toNat = C by omega, Nat.sub_zero]
  rw [sg_ext (f := zu σ a 2 0 45) (g := σ 45) C ((0 : Nat) : Int) 0 (fun j _ => q 45 _ (by omega))]
