/-! BOXES: what is missing of a box among regions that do not meet has at most 169 boxes -/
abbrev Bx : Type := Int × Int × Int × Int
abbrev bOk (b : Bx) : Prop := 0 ≤ b.1 ∧ b.1 ≤ b.2.1 ∧ b.2.1 ≤ 31 ∧ 0 ≤ b.2.2.1 ∧ b.2.2.1 ≤ b.2.2.2 ∧ b.2.2.2 ≤ 31
abbrev bIn (b : Bx) (x y : Int) : Prop := b.1 ≤ x ∧ x ≤ b.2.1 ∧ b.2.2.1 ≤ y ∧ y ≤ b.2.2.2
abbrev bMt (a b : Bx) : Prop := a.1 ≤ b.2.1 ∧ b.1 ≤ a.2.1 ∧ a.2.2.1 ≤ b.2.2.2 ∧ b.2.2.1 ≤ a.2.2.2
abbrev bSub (a b : Bx) : Prop := b.1 ≤ a.1 ∧ a.2.1 ≤ b.2.1 ∧ b.2.2.1 ≤ a.2.2.1 ∧ a.2.2.2 ≤ b.2.2.2
def zmx (a b : Int) : Int := if a < b then b else a
def zmn (a b : Int) : Int := if a < b then a else b
def bRest (a b : Bx) : List Bx :=
  if bMt a b then
    (if a.2.2.1 < b.2.2.1 then [(a.1, a.2.1, a.2.2.1, b.2.2.1 - 1)] else []) ++
    ((if b.2.2.2 < a.2.2.2 then [(a.1, a.2.1, b.2.2.2 + 1, a.2.2.2)] else []) ++
    ((if a.1 < b.1 then [(a.1, b.1 - 1, zmx a.2.2.1 b.2.2.1, zmn a.2.2.2 b.2.2.2)] else []) ++
    (if b.2.1 < a.2.1 then [(b.2.1 + 1, a.2.1, zmx a.2.2.1 b.2.2.1, zmn a.2.2.2 b.2.2.2)] else [])))
  else [a]
theorem mem_ifl {P : Prop} [Decidable P] {c d : Bx} : c ∈ (if P then [d] else []) ↔ P ∧ c = d := by
  by_cases h : P
  · rw [if_pos h, List.mem_singleton]; exact ⟨fun e => ⟨h, e⟩, fun e => e.2⟩
  · rw [if_neg h]; exact ⟨fun e => absurd e List.not_mem_nil, fun e => absurd e.1 h⟩
theorem bRest_mem {a b c : Bx} (hc : c ∈ bRest a b) : (¬ bMt a b ∧ c = a) ∨ (bMt a b ∧ ((a.2.2.1 < b.2.2.1 ∧ c = (a.1, a.2.1, a.2.2.1, b.2.2.1 - 1)) ∨ (b.2.2.2 < a.2.2.2 ∧ c = (a.1, a.2.1, b.2.2.2 + 1, a.2.2.2)) ∨ (a.1 < b.1 ∧ c = (a.1, b.1 - 1, zmx a.2.2.1 b.2.2.1, zmn a.2.2.2 b.2.2.2)) ∨ (b.2.1 < a.2.1 ∧ c = (b.2.1 + 1, a.2.1, zmx a.2.2.1 b.2.2.1, zmn a.2.2.2 b.2.2.2)))) := by
  unfold bRest at hc
  by_cases h : bMt a b
  · rw [if_pos h] at hc
    simp only [List.mem_append, mem_ifl] at hc
    exact Or.inr ⟨h, hc⟩
  · rw [if_neg h, List.mem_singleton] at hc
    exact Or.inl ⟨h, hc⟩
theorem zmx_le {a b : Int} : a ≤ zmx a b ∧ b ≤ zmx a b ∧ (zmx a b = a ∨ zmx a b = b) := by
  unfold zmx; split <;> omega
theorem zmn_le {a b : Int} : zmn a b ≤ a ∧ zmn a b ≤ b ∧ (zmn a b = a ∨ zmn a b = b) := by
  unfold zmn; split <;> omega
theorem bRest_sub {a b c : Bx} (ha : bOk a) (hb : bOk b) (hc : c ∈ bRest a b) : bOk c ∧ bSub c a := by
  have h1 := @zmx_le a.2.2.1 b.2.2.1
  have h2 := @zmn_le a.2.2.2 b.2.2.2
  rcases bRest_mem hc with ⟨-, rfl⟩ | ⟨hm, ⟨h, rfl⟩ | ⟨h, rfl⟩ | ⟨h, rfl⟩ | ⟨h, rfl⟩⟩
  · exact ⟨ha, by omega, by omega, by omega, by omega⟩
  all_goals
    dsimp only [bOk, bSub]
    refine ⟨⟨?_, ?_, ?_, ?_, ?_, ?_⟩, ?_, ?_, ?_, ?_⟩ <;> omega
theorem bRest_off {a b c : Bx} (hb : bOk b) (hc : c ∈ bRest a b) : ¬ bMt c b := by
  have h1 := @zmx_le a.2.2.1 b.2.2.1
  have h2 := @zmn_le a.2.2.2 b.2.2.2
  rcases bRest_mem hc with ⟨h, rfl⟩ | ⟨hm, ⟨h, rfl⟩ | ⟨h, rfl⟩ | ⟨h, rfl⟩ | ⟨h, rfl⟩⟩
  · exact h
  all_goals
    dsimp only [bMt]
    omega
theorem bMt_sub {a b c d : Bx} (h1 : bSub a c) (h2 : bSub b d) (h : bMt a b) : bMt c d := by
  dsimp only [bSub, bMt] at *
  omega
/-- on each line that both have, a place between them lies in one of the regions -/
def bSep (rs : List Bx) (c d : Bx) : Prop := ∀ y, c.2.2.1 ≤ y → y ≤ c.2.2.2 → d.2.2.1 ≤ y → y ≤ d.2.2.2 → ∃ r ∈ rs, ∃ x, bIn r x y ∧ ((c.2.1 < x ∧ x < d.1) ∨ (d.2.1 < x ∧ x < c.1))
theorem bSep_mono {rs rs' : List Bx} {c d c' d' : Bx} (h : bSep rs c d) (hr : ∀ r ∈ rs, r ∈ rs') (hc : bSub c' c) (hd : bSub d' d) : bSep rs' c' d' := by
  intro y h1 h2 h3 h4
  obtain ⟨r, hr1, x, hx, hcase⟩ := h y (by omega) (by omega) (by omega) (by omega)
  exact ⟨r, hr r hr1, x, hx, by omega⟩
theorem bSep_not {rs : List Bx} {c d : Bx} (hc : bOk c) (hd : bOk d) (h : bSep rs c d) : ¬ bMt c d := by
  intro hm
  have h1 := @zmx_le c.2.2.1 d.2.2.1
  obtain ⟨r, -, x, -, hcase⟩ := h (zmx c.2.2.1 d.2.2.1) (by omega) (by omega) (by omega) (by omega)
  omega
theorem bRest_sep {a b : Bx} (ha : bOk a) (hb : bOk b) (rs : List Bx) (hr : b ∈ rs) : (bRest a b).Pairwise (bSep rs) := by
  have h1 := @zmx_le a.2.2.1 b.2.2.1
  have h2 := @zmn_le a.2.2.2 b.2.2.2
  unfold bRest
  by_cases hm : bMt a b
  · rw [if_pos hm]
    simp only [List.pairwise_append, List.mem_append, mem_ifl]
    have one : ∀ (P : Prop) [Decidable P] (d : Bx), (if P then [d] else []).Pairwise (bSep rs) := by
      intro P _ d
      by_cases h : P
      · rw [if_pos h]; exact List.pairwise_singleton _ _
      · rw [if_neg h]; exact List.Pairwise.nil
    refine ⟨one _ _, ⟨one _ _, ⟨one _ _, one _ _, ?_⟩, ?_⟩, ?_⟩
    · rintro c ⟨-, rfl⟩ d ⟨-, rfl⟩ y k1 k2 k3 k4
      dsimp only at k1 k2 k3 k4
      exact ⟨b, hr, b.1, ⟨by omega, by omega, by omega, by omega⟩, Or.inl ⟨by dsimp only; omega, by dsimp only; omega⟩⟩
    · rintro c ⟨-, rfl⟩ d (⟨-, rfl⟩ | ⟨-, rfl⟩) y k1 k2 k3 k4 <;> (dsimp only at k1 k2 k3 k4; omega)
    · rintro c ⟨-, rfl⟩ d (⟨-, rfl⟩ | ⟨-, rfl⟩ | ⟨-, rfl⟩) y k1 k2 k3 k4 <;> (dsimp only at k1 k2 k3 k4; omega)
  · rw [if_neg hm]; exact List.pairwise_singleton _ _
theorem nd_len : ∀ (M Y : List Int), M.Pairwise (· ≠ ·) → (∀ a ∈ M, a ∈ Y) → M.length ≤ Y.length
  | [], _, _, _ => Nat.zero_le _
  | a :: M, Y, hp, hs => by
    have h1 := hs a List.mem_cons_self
    have hp' := List.pairwise_cons.mp hp
    have h2 : ∀ b ∈ M, b ∈ Y.erase a := fun b hb => (List.mem_erase_of_ne (Ne.symm (hp'.1 b hb))).mpr (hs b (List.mem_cons_of_mem _ hb))
    have h3 := nd_len M (Y.erase a) hp'.2 h2
    rw [List.length_erase_of_mem h1] at h3
    have h4 : 0 < Y.length := List.length_pos_of_mem h1
    show M.length + 1 ≤ _
    omega
theorem pw_false_len {α : Type} : ∀ {l : List α}, l.Pairwise (fun _ _ => False) → l.length ≤ 1
  | [], _ => Nat.zero_le _
  | [_], _ => Nat.le_refl _
  | a :: b :: l, h => by
    have := (List.pairwise_cons.mp h).1 b List.mem_cons_self
    exact this.elim
theorem bRest_len (a b : Bx) : (bRest a b).length ≤ 1 + (if bMt a b then 1 else 0) + (if bMt a b ∧ a.2.2.1 < b.2.2.1 then 1 else 0) + (if bMt a b ∧ b.2.2.2 < a.2.2.2 then 1 else 0) := by
  have one : ∀ (P : Prop) [Decidable P] (d : Bx), (if P then [d] else []).length = if P then 1 else 0 := by
    intro P _ d
    by_cases h : P
    · rw [if_pos h, if_pos h]; rfl
    · rw [if_neg h, if_neg h]; rfl
  unfold bRest
  by_cases hm : bMt a b
  · rw [if_pos hm, if_pos hm]
    simp only [List.length_append, one]
    have e1 : (if bMt a b ∧ a.2.2.1 < b.2.2.1 then (1 : Nat) else 0) = if a.2.2.1 < b.2.2.1 then 1 else 0 := by
      by_cases h : a.2.2.1 < b.2.2.1
      · rw [if_pos h, if_pos ⟨hm, h⟩]
      · rw [if_neg h, if_neg (fun e => h e.2)]
    have e2 : (if bMt a b ∧ b.2.2.2 < a.2.2.2 then (1 : Nat) else 0) = if b.2.2.2 < a.2.2.2 then 1 else 0 := by
      by_cases h : b.2.2.2 < a.2.2.2
      · rw [if_pos h, if_pos ⟨hm, h⟩]
      · rw [if_neg h, if_neg (fun e => h e.2)]
    rw [e1, e2]
    have e3 : (if a.1 < b.1 then (1 : Nat) else 0) ≤ 1 := by split <;> omega
    have e4 : (if b.2.1 < a.2.1 then (1 : Nat) else 0) ≤ 1 := by split <;> omega
    omega
  · rw [if_neg hm]
    simp only [List.length_singleton]
    omega
def bMiss (ps : List Bx) (r : Bx) : List Bx := ps.flatMap (fun p => bRest p r)
theorem bMiss_len (r : Bx) : ∀ ps : List Bx, (bMiss ps r).length ≤ ps.length + (ps.filter (fun p => decide (bMt p r))).length + (ps.filter (fun p => decide (bMt p r ∧ p.2.2.1 < r.2.2.1))).length + (ps.filter (fun p => decide (bMt p r ∧ r.2.2.2 < p.2.2.2))).length
  | [] => Nat.zero_le _
  | p :: ps => by
    have ih := bMiss_len r ps
    have h := bRest_len p r
    unfold bMiss at ih ⊢
    rw [List.flatMap_cons, List.length_append, List.filter_cons, List.filter_cons, List.filter_cons]
    have e : ∀ (P : Prop) [Decidable P] (l : List Bx), (if decide P = true then p :: l else l).length = l.length + if P then 1 else 0 := by
      intro P _ l
      by_cases hP : P
      · rw [if_pos (decide_eq_true hP), if_pos hP]; rfl
      · rw [if_neg (by rw [decide_eq_false hP]; exact Bool.false_ne_true), if_neg hP]; rfl
    rw [e, e, e, List.length_cons]
    omega
/-- what holds of the missing boxes of q behind the regions rs -/
def bInv (q : Bx) (rs ps : List Bx) : Prop := (∀ p ∈ ps, bOk p ∧ bSub p q ∧ (p.2.2.1 = q.2.2.1 ∨ ∃ r ∈ rs, p.2.2.1 = r.2.2.1 ∨ p.2.2.1 = r.2.2.2 + 1) ∧ ∀ r ∈ rs, ¬ bMt p r) ∧ ps.Pairwise (bSep rs)
theorem bInv_0 {q : Bx} (hq : bOk q) : bInv q [] [q] := by
  refine ⟨fun p hp => ?_, List.pairwise_singleton _ _⟩
  rw [List.mem_singleton] at hp
  subst hp
  exact ⟨hq, ⟨Int.le_refl _, Int.le_refl _, Int.le_refl _, Int.le_refl _⟩, Or.inl rfl, fun r hr => absurd hr List.not_mem_nil⟩
theorem bInv_1 {q r : Bx} {rs ps : List Bx} (h : bInv q rs ps) (hr : bOk r) : bInv q (rs ++ [r]) (bMiss ps r) := by
  obtain ⟨h1, h2⟩ := h
  have hmem : r ∈ rs ++ [r] := List.mem_append_right _ (List.mem_singleton.mpr rfl)
  have hold : ∀ s ∈ rs, s ∈ rs ++ [r] := fun s hs => List.mem_append_left _ hs
  refine ⟨fun c hc => ?_, ?_⟩
  · obtain ⟨p, hp, hc⟩ := List.mem_flatMap.mp hc
    obtain ⟨k1, k2, k3, k4⟩ := h1 p hp
    obtain ⟨s1, s2⟩ := bRest_sub k1 hr hc
    refine ⟨s1, ⟨by omega, by omega, by omega, by omega⟩, ?_, fun s hs hm => ?_⟩
    · have z1 := @zmx_le p.2.2.1 r.2.2.1
      have base : (p.2.2.1 = q.2.2.1 ∨ ∃ s ∈ rs ++ [r], p.2.2.1 = s.2.2.1 ∨ p.2.2.1 = s.2.2.2 + 1) := by
        rcases k3 with k3 | ⟨s, hs, k3⟩
        · exact Or.inl k3
        · exact Or.inr ⟨s, hold s hs, k3⟩
      rcases bRest_mem hc with ⟨-, rfl⟩ | ⟨-, ⟨-, rfl⟩ | ⟨-, rfl⟩ | ⟨-, rfl⟩ | ⟨-, rfl⟩⟩
      · exact base
      · exact base
      · exact Or.inr ⟨r, hmem, Or.inr rfl⟩
      · rcases z1.2.2 with e | e
        · dsimp only; rw [e]; exact base
        · exact Or.inr ⟨r, hmem, Or.inl e⟩
      · rcases z1.2.2 with e | e
        · dsimp only; rw [e]; exact base
        · exact Or.inr ⟨r, hmem, Or.inl e⟩
    · rcases List.mem_append.mp hs with hs | hs
      · exact k4 s hs (bMt_sub s2 ⟨Int.le_refl _, Int.le_refl _, Int.le_refl _, Int.le_refl _⟩ hm)
      · rw [List.mem_singleton] at hs
        subst hs
        exact bRest_off hr hc hm
  · unfold bMiss
    rw [List.pairwise_flatMap]
    refine ⟨fun p hp => bRest_sep (h1 p hp).1 hr _ hmem, ?_⟩
    refine List.Pairwise.imp_of_mem ?_ h2
    intro a b ha hb hab c hc d hd
    exact bSep_mono hab hold (bRest_sub (h1 a ha).1 hr hc).2 (bRest_sub (h1 b hb).1 hr hd).2
/-- two of the missing boxes that a further region meets have no line in common where it meets both -/
theorem bSep_line {rs : List Bx} {c d r : Bx} (hs : bSep rs c d) (hr : ∀ s ∈ rs, ¬ bMt s r) (h1 : bMt c r) (h2 : bMt d r) {y : Int} (hy : c.2.2.1 ≤ y ∧ y ≤ c.2.2.2 ∧ d.2.2.1 ≤ y ∧ y ≤ d.2.2.2 ∧ r.2.2.1 ≤ y ∧ y ≤ r.2.2.2) : False := by
  obtain ⟨s, hs1, x, hx, hcase⟩ := hs y hy.1 hy.2.1 hy.2.2.1 hy.2.2.2.1
  refine hr s hs1 ?_
  dsimp only [bMt, bIn] at *
  omega
theorem bMiss_grow {q r : Bx} {rs ps : List Bx} (h : bInv q rs ps) (hr : bOk r) (hd : ∀ s ∈ rs, ¬ bMt s r) : (bMiss ps r).length ≤ ps.length + (2 * rs.length + 1) + 2 := by
  obtain ⟨h1, h2⟩ := h
  have h3 := bMiss_len r ps
  have hA : (ps.filter (fun p => decide (bMt p r ∧ p.2.2.1 < r.2.2.1))).length ≤ 1 := by
    refine pw_false_len (List.Pairwise.imp_of_mem ?_ (h2.filter _))
    intro a b ha hb hab
    rw [List.mem_filter, decide_eq_true_eq] at ha hb
    exact bSep_line hab hd ha.2.1 hb.2.1 (y := r.2.2.1) (by have := ha.2; have := hb.2; dsimp only [bMt] at *; omega)
  have hB : (ps.filter (fun p => decide (bMt p r ∧ r.2.2.2 < p.2.2.2))).length ≤ 1 := by
    refine pw_false_len (List.Pairwise.imp_of_mem ?_ (h2.filter _))
    intro a b ha hb hab
    rw [List.mem_filter, decide_eq_true_eq] at ha hb
    exact bSep_line hab hd ha.2.1 hb.2.1 (y := r.2.2.2) (by have := ha.2; have := hb.2; dsimp only [bMt] at *; omega)
  have hM : (ps.filter (fun p => decide (bMt p r))).length ≤ 2 * rs.length + 1 := by
    have e := nd_len ((ps.filter (fun p => decide (bMt p r))).map (fun p => if p.2.2.1 ≤ r.2.2.1 then q.2.2.1 else p.2.2.1)) (q.2.2.1 :: rs.flatMap (fun s => [s.2.2.1, s.2.2.2 + 1])) ?_ ?_
    · rw [List.length_map, List.length_cons] at e
      have e2 : ∀ l : List Bx, (l.flatMap (fun s => [s.2.2.1, s.2.2.2 + 1])).length = 2 * l.length := by
        intro l
        induction l with
        | nil => rfl
        | cons a l ih =>
          rw [List.flatMap_cons, List.length_append, ih, List.length_cons]
          show 2 + 2 * l.length = 2 * (l.length + 1)
          omega
      rw [e2] at e
      exact e
    · rw [List.pairwise_map]
      refine List.Pairwise.imp_of_mem ?_ (h2.filter _)
      intro a b ha hb hab he
      rw [List.mem_filter, decide_eq_true_eq] at ha hb
      have qa := (h1 a ha.1).2.1
      have qb := (h1 b hb.1).2.1
      have ma := ha.2
      have mb := hb.2
      by_cases ca : a.2.2.1 ≤ r.2.2.1
      · by_cases cb : b.2.2.1 ≤ r.2.2.1
        · exact bSep_line hab hd ha.2 hb.2 (y := r.2.2.1) (by dsimp only [bMt] at *; omega)
        · rw [if_pos ca, if_neg cb] at he
          dsimp only [bSub] at *
          omega
      · by_cases cb : b.2.2.1 ≤ r.2.2.1
        · rw [if_neg ca, if_pos cb] at he
          dsimp only [bSub] at *
          omega
        · rw [if_neg ca, if_neg cb] at he
          exact bSep_line hab hd ha.2 hb.2 (y := a.2.2.1) (by have := (h1 a ha.1).1; have := (h1 b hb.1).1; dsimp only [bMt, bOk] at *; omega)
    · intro v hv
      obtain ⟨p, hp, rfl⟩ := List.mem_map.mp hv
      rw [List.mem_filter] at hp
      by_cases c : p.2.2.1 ≤ r.2.2.1
      · rw [if_pos c]; exact List.mem_cons_self
      · rw [if_neg c]
        rcases (h1 p hp.1).2.2.1 with e | ⟨s, hs, e⟩
        · rw [e]; exact List.mem_cons_self
        · refine List.mem_cons_of_mem _ (List.mem_flatMap.mpr ⟨s, hs, ?_⟩)
          rcases e with e | e
          · rw [e]; exact List.mem_cons_self
          · rw [e]; exact List.mem_cons_of_mem _ List.mem_cons_self
  omega
def bMissAll (q : Bx) (rs : List Bx) : List Bx := rs.foldl bMiss [q]
theorem bMissAll_inv {q : Bx} (hq : bOk q) : ∀ (rs : List Bx), (∀ r ∈ rs, bOk r) → rs.Pairwise (fun a b => ¬ bMt a b) → bInv q rs (bMissAll q rs) ∧ (bMissAll q rs).length ≤ (rs.length + 1) * (rs.length + 1) := by
  intro rs
  suffices H : ∀ (rs done ps : List Bx), bInv q done ps → ps.length ≤ (done.length + 1) * (done.length + 1) → (∀ r ∈ rs, bOk r) → rs.Pairwise (fun a b => ¬ bMt a b) → (∀ s ∈ done, ∀ r ∈ rs, ¬ bMt s r) → bInv q (done ++ rs) (rs.foldl bMiss ps) ∧ (rs.foldl bMiss ps).length ≤ (done.length + rs.length + 1) * (done.length + rs.length + 1) by
    intro h1 h2
    have := H rs [] [q] (bInv_0 hq) (Nat.le_refl 1) h1 h2 (fun s hs => absurd hs List.not_mem_nil)
    rw [List.nil_append, List.length_nil, Nat.zero_add] at this
    exact this
  intro rs
  induction rs with
  | nil =>
    intro done ps h1 h2 _ _ _
    rw [List.append_nil]
    exact ⟨h1, h2⟩
  | cons r rs ih =>
    intro done ps h1 h2 h3 h4 h5
    have h4' := List.pairwise_cons.mp h4
    have hr := h3 r List.mem_cons_self
    have g := bMiss_grow h1 hr (fun s hs => h5 s hs r List.mem_cons_self)
    have := ih (done ++ [r]) (bMiss ps r) (bInv_1 h1 hr) ?_ (fun s hs => h3 s (List.mem_cons_of_mem _ hs)) h4'.2 ?_
    · rw [List.append_assoc, List.singleton_append, List.length_append, List.length_singleton] at this
      rw [List.foldl_cons, List.length_cons]
      rw [show done.length + (rs.length + 1) + 1 = done.length + 1 + rs.length + 1 by omega]
      exact this
    · rw [List.length_append, List.length_singleton]
      have e : (done.length + 1 + 1) * (done.length + 1 + 1) = (done.length + 1) * (done.length + 1) + 2 * done.length + 3 := by
        rw [Nat.add_mul, Nat.mul_add]
        omega
      omega
    · intro s hs t ht
      rcases List.mem_append.mp hs with hs | hs
      · exact h5 s hs t (List.mem_cons_of_mem _ ht)
      · rw [List.mem_singleton] at hs
        subst hs
        exact h4'.1 t ht
theorem bMissAll_169 {q : Bx} (hq : bOk q) {rs : List Bx} (h1 : ∀ r ∈ rs, bOk r) (h2 : rs.Pairwise (fun a b => ¬ bMt a b)) (h3 : rs.length ≤ 12) : (bMissAll q rs).length ≤ 169 := by
  refine Nat.le_trans (bMissAll_inv hq rs h1 h2).2 ?_
  exact Nat.mul_le_mul (show rs.length + 1 ≤ 13 by omega) (show rs.length + 1 ≤ 13 by omega)
