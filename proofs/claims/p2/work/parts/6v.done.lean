/-! A QUERY DONE, of both sides: the rows that a test leaves, told alike -/
/-- what run() answers -/
def runAns : Sum Int (List zQy) → Int
  | .inl q => -100 - q
  | .inr l => (l.length : Int)
def liT (σ : zS) (c : Nat) (B : Bx) (T : Int → Bool) : List Int := (ordL σ c).filter (fun v => decide (bIn B (σ (c + 1) v) (σ (c + 2) v)) && T v)
def valT (σ : zS) (c : Nat) (B : Bx) (T : Int → Bool) (ms : Int) : Int := msF (fun j => σ (c + 3) ((liT σ c B T).getD j.toNat 0)) (liT σ c B T).length ms
theorem liT_E {σ s : zS} {B : Bx} {T : Int → Bool} (e : stE σ s) : liT s 41 B T = liT σ 41 B T := by
  have e42 : s 42 = σ 42 := funext (fun j => e 42 j (by unfold stK; omega))
  have e43 : s 43 = σ 43 := funext (fun j => e 43 j (by unfold stK; omega))
  have e45 : s 45 = σ 45 := funext (fun j => e 45 j (by unfold stK; omega))
  have e4 : s 41 4 = σ 41 4 := e 41 4 (by unfold stK; omega)
  show (sg (s 45) 0 (s 41 4).toNat).filter (fun v => decide (bIn B (s 42 v) (s 43 v)) && T v) = (sg (σ 45) 0 (σ 41 4).toNat).filter (fun v => decide (bIn B (σ 42 v) (σ 43 v)) && T v)
  rw [e42, e43, e45, e4]
theorem valT_E {σ s : zS} {B : Bx} {T : Int → Bool} {ms : Int} (e : stE σ s) : valT s 41 B T ms = valT σ 41 B T ms := by
  have e44 : s 44 = σ 44 := funext (fun j => e 44 j (by unfold stK; omega))
  show msF (fun j => s 44 ((liT s 41 B T).getD j.toNat 0)) (liT s 41 B T).length ms = msF (fun j => σ 44 ((liT σ 41 B T).getD j.toNat 0)) (liT σ 41 B T).length ms
  rw [e44, liT_E e]
theorem liT_mem {σ : zS} {I : Nat → Bool} (S : ST σ 41 I) {B : Bx} {T : Int → Bool} {v : Int} (h : v ∈ liT σ 41 B T) : 0 ≤ v ∧ v < 60 := by
  obtain ⟨q, e, hq⟩ := (S.2.2.2 v).mp (List.mem_filter.mp h).1
  have := S.1 q hq
  omega
theorem p_fiMeasT {a : Nat} (ha : a = 60 ∨ a = 70) {σ : zS} {I : Nat → Bool} {B : Bx} {T : Int → Bool} {ms rows : Int} (H : CI σ) (S : ST σ 41 I) (hms : 0 ≤ ms ∧ ms ≤ 6) (ok : ∀ r : Nat, r < 60 → okL (σ 44 (r : Int))) (hr : ∀ q : Nat, q < 60 → bq rows q = (I q && (decide (bIn B (σ 42 (q : Int)) (σ 43 (q : Int))) && T (q : Int)))) : zP' (g_fi_gather a rows σ) (fun _ s => (∀ b j, b ≠ a + 1 → b ≠ a + 2 → (b ≠ a ∨ j ≠ 2) → s b j = σ b j) ∧ s a 2 = ((liT σ 41 B T).length : Int) ∧ sg (s (a + 1)) 0 (liT σ 41 B T).length = liT σ 41 B T ∧ (∀ j : Nat, j < (liT σ 41 B T).length → s (a + 2) (j : Int) = σ 44 ((liT σ 41 B T).getD j 0)) ∧ zP' (g_fi_measured a ms s) (fun v t => t = s ∧ v = valT σ 41 B T ms)) := by
  have h4 := CI.c4 (a := 41) H (by omega)
  refine (p_gather ha (P := fun v => I v.toNat && (decide (bIn B (σ 42 v) (σ 43 v)) && T v)) (rows := rows) (σ := σ) (fun q hq => by
    rw [hr q hq]
    try dsimp only
    rw [show ((q : Nat) : Int).toNat = q by omega]) h4 (ST_val S)).imp (fun _ s p => ?_)
  obtain ⟨p1, d, p2, p3, p4⟩ := p
  have eL : (ordL σ 41).filter (fun v => I v.toNat && (decide (bIn B (σ 42 v) (σ 43 v)) && T v)) = liT σ 41 B T := by
    unfold liT
    refine List.filter_congr (fun v hv => ?_)
    obtain ⟨q, e, hq⟩ := (S.2.2.2 v).mp hv
    subst e
    rw [show ((q : Nat) : Int).toNat = q by omega, hq, Bool.true_and]
  rw [eL] at p3
  have hd : d = (liT σ 41 B T).length := by rw [← p3, sg_len]
  have hl : d ≤ 60 := by
    have h1 := List.length_filter_le (fun v => decide (bIn B (σ (41 + 1) v) (σ (41 + 2) v)) && T v) (ordL σ 41)
    have h2 : (ordL σ 41).length = (σ 41 4).toNat := sg_len _ _ _
    unfold liT at hd
    omega
  have cell : ∀ j : Nat, j < d → s (a + 1) (j : Int) = (liT σ 41 B T).getD j 0 := fun j hj => by
    rw [← p3, sg_get d 0 j hj, show (0 : Int) + (j : Int) = (j : Int) by omega]
  have wc : ∀ j : Nat, j < d → s (a + 2) (j : Int) = σ 44 ((liT σ 41 B T).getD j 0) := fun j hj => by rw [p4 j hj, cell j hj]
  have okd : ∀ j : Nat, j < d → okL (s (a + 2) (j : Int)) := fun j hj => by
    rw [wc j hj]
    have hm := liT_mem S (getD_mem (L := liT σ 41 B T) (j := j) (by omega))
    have h := ok ((liT σ 41 B T).getD j 0).toNat (by omega)
    rw [show ((((liT σ 41 B T).getD j 0).toNat : Nat) : Int) = (liT σ 41 B T).getD j 0 by omega] at h
    exact h
  refine ⟨p1, by rw [p2, hd], by rw [← hd]; exact p3, fun j hj => wc j (by omega), ?_⟩
  refine (p_measured p2 hl hms okd).imp (fun v t q => ⟨q.1, ?_⟩)
  rw [q.2]
  unfold valT
  rw [← hd]
  exact msF_ext (fun j hj => by
    rw [wc j hj]
    rfl)
/-- the class's find is that of a box and a test -/
def fnT (σ s : zS) (B : Bx) (T : Int → Bool) : Prop := s 60 2 = ((liT σ 41 B T).length : Int) ∧ sg (s 61) 0 (liT σ 41 B T).length = liT σ 41 B T ∧ ∀ j : Nat, j < (liT σ 41 B T).length → s 62 (j : Int) = σ 44 ((liT σ 41 B T).getD j 0)
theorem fnT_E {σ0 σ s : zS} {B : Bx} {T : Int → Bool} (e : stE σ0 σ) (h : fnT σ s B T) : fnT σ0 s B T := by
  have e44 : σ 44 = σ0 44 := funext (fun j => e 44 j (by unfold stK; omega))
  unfold fnT at *
  rw [liT_E e, e44] at h
  exact h
theorem p_doneT {σ : zS} {I : Nat → Bool} {B : Bx} {T : Int → Bool} {m y : Int} (H : CI σ) (S : ST σ 41 I) (hb : bOk B) (hm : 0 ≤ m ∧ m ≤ 6) (ok : ok44 σ) (hy : btE I y T) : zP' (g_c_done m (enc B) y σ) (fun v s => v = valT σ 41 B T m ∧ fnT σ s B T) := by
  unfold g_c_done
  refine zP'.bind (zP'.of (g_ca_serve_sp (a0 := 48) (by omega) H)) (fun _ s1 p1 => ?_)
  obtain ⟨H1, G1, -⟩ := p1
  have e : stE σ s1 := stE.of G1 (fun _ => ⟨rfl, rfl, rfl, rfl, rfl, rfl, rfl⟩)
  have S1 := ST_E S e
  try dsimp +instances only
  obtain ⟨rows, e1, e2⟩ := p_rowsIn (σ := s1) (b := B) S1.2.1 hb
  rw [e1]
  rw [Option.bind_some]
  try dsimp +instances only
  have e44 : s1 44 = σ 44 := funext (fun j => e 44 j (by unfold stK; omega))
  refine zP'.bind (p_fiMeasT (a := 60) (by omega) (B := B) (T := T) H1 S1 hm (fun r hr => by rw [e44]; exact ok r hr) (fun q hq => by
    rw [bq_and, e2 q (by omega)]
    cases hI : I q with
    | false => rfl
    | true => rw [hy q hq hI, Bool.true_and, Bool.true_and])) (fun _ s p => ?_)
  obtain ⟨-, p2, p3, p4, p5⟩ := p
  try dsimp +instances only
  refine zP'.bind p5 (fun v t q => ?_)
  refine zP'.ret ⟨?_, ?_⟩
  · dsimp only
    rw [q.2, valT_E e]
  · dsimp only
    rw [q.1]
    exact fnT_E e ⟨p2, p3, p4⟩
/-- the two lists are one -/
theorem liT_eq {σ : zS} {c m mw : Nat} (R : RW σ c m mw) (B : Bx) (T : Int → Bool) : liT σ c B T = liR (σ m) B T ∧ ∀ v, v ∈ liT σ c B T → (0 ≤ v ∧ v < 60) ∧ σ (c + 3) v = σ mw (1 + v) := by
  obtain ⟨⟨b1, b2, b3, b5⟩, hr⟩ := R
  have mem : ∀ a, a ∈ ordL σ c → ∃ q : Nat, a = (q : Int) ∧ q < 60 ∧ inS σ m q = true := fun a ha => by
    obtain ⟨q, h1, h2⟩ := (b5 a).mp ha
    exact ⟨q, h1, b1 q h2, h2⟩
  have hS : SL (KF (σ m)) (selF (σ m) B T) (liT σ c B T) := by
    refine ⟨?_, fun v => ?_⟩
    · refine List.Pairwise.imp_of_mem (fun {a b} ha hb h => ?_) (List.Pairwise.filter _ b3)
      obtain ⟨q1, rfl, h1, -⟩ := mem a (List.mem_filter.mp ha).1
      obtain ⟨q2, rfl, h2, -⟩ := mem b (List.mem_filter.mp hb).1
      obtain ⟨-, x1, y1, -⟩ := hr q1 h1
      obtain ⟨-, x2, y2, -⟩ := hr q2 h2
      unfold rkA at h
      rw [x1, y1, x2, y2] at h
      exact h
    · unfold liT
      rw [List.mem_filter]
      constructor
      · rintro ⟨h1, h2⟩
        obtain ⟨q, rfl, h3, h4⟩ := mem v h1
        obtain ⟨-, x1, y1, -⟩ := hr q h3
        obtain ⟨h2, hT⟩ := Bool.and_eq_true_iff.mp h2
        have h2 := of_decide_eq_true h2
        rw [x1, y1] at h2
        have h5 := of_decide_eq_true h4
        exact ⟨q, h3, rfl, by omega, h2, hT⟩
      · rintro ⟨q, h1, rfl, h2, h3, hT⟩
        obtain ⟨z1, x1, y1, -⟩ := hr q h1
        refine ⟨(b5 _).mpr ⟨q, rfl, decide_eq_true ⟨h1, by omega⟩⟩, Bool.and_eq_true_iff.mpr ⟨decide_eq_true ?_, hT⟩⟩
        rw [x1, y1]
        exact h3
  refine ⟨(liR_eq hS).symm, fun v hv => ?_⟩
  obtain ⟨q, rfl, h1, -⟩ := mem v (List.mem_filter.mp hv).1
  obtain ⟨-, -, -, w1, -⟩ := hr q h1
  exact ⟨by omega, w1⟩
theorem valT_eq {σ : zS} {c m mw : Nat} (R : RW σ c m mw) (B : Bx) (T : Int → Bool) (ms : Int) : valT σ c B T ms = valR (σ m) (σ mw) B T ms := by
  obtain ⟨e, g⟩ := liT_eq R B T
  unfold valT valR
  rw [← e]
  refine msF_ext (fun j hj => ?_)
  obtain ⟨hb, w1⟩ := g _ (getD_mem hj)
  rw [show ((j : Nat) : Int).toNat = j by omega, w1]
  exact (if_pos (by omega)).symm
/-- the find of both sides is one -/
def FNe (s : zS) : Prop := s 60 2 = s 144 8 ∧ ∀ j : Nat, j < 60 → (j : Int) < s 60 2 → s 61 (j : Int) = s 144 (200 + (j : Int)) ∧ s 62 (j : Int) = s 147 (61 + (j : Int))
theorem FN_of {σ s t : zS} {B : Bx} {T : Int → Bool} (R : RW σ 41 144 147) (h1 : fnT σ s B T) (h2 : fnR σ t B T) (e : ∀ a j, (a = 60 ∧ j = 2) ∨ a = 61 ∨ a = 62 → t a j = s a j) : FNe t := by
  obtain ⟨el, g⟩ := liT_eq R B T
  obtain ⟨a1, a2, a3⟩ := h1
  obtain ⟨b1, b2, b3⟩ := h2
  rw [← el] at b1 b2 b3
  generalize liT σ 41 B T = L at a1 a2 a3 b1 b2 b3 g
  refine ⟨by rw [e 60 2 (by omega), a1, b1], fun j _ hj => ?_⟩
  rw [e 60 2 (by omega), a1] at hj
  have hj : j < L.length := by omega
  have c1 := sg_get (f := s 61) L.length 0 j hj
  have c2 := sg_get (f := fun j => t 144 (200 + j)) L.length 0 j hj
  rw [a2] at c1
  rw [b2] at c2
  rw [show (0 : Int) + (j : Int) = (j : Int) by omega] at c1 c2
  obtain ⟨-, w⟩ := g _ (getD_mem hj)
  refine ⟨?_, ?_⟩
  · rw [e 61 _ (by omega), ← c1]
    exact c2
  · rw [e 62 _ (by omega), a3 j hj, b3 j hj, w]
