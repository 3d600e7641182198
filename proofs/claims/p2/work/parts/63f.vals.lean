/-! VALUES: a measure of a box's rows, of the class's and of the reference's cells -/
def liC (σ : zS) (c : Nat) (B : Bx) : List Int := (ordL σ c).filter (fun v => decide (bIn B (σ (c + 1) v) (σ (c + 2) v)))
def valC (σ : zS) (c : Nat) (B : Bx) (ms : Int) : Int := msF (fun j => σ (c + 3) ((liC σ c B).getD j.toNat 0)) (liC σ c B).length ms
theorem valC_E {σ s : zS} {B : Bx} {ms : Int} (e : stE σ s) : valC s 41 B ms = valC σ 41 B ms := by
  have e42 : s 42 = σ 42 := funext (fun j => e 42 j (by unfold stK; omega))
  have e43 : s 43 = σ 43 := funext (fun j => e 43 j (by unfold stK; omega))
  have e44 : s 44 = σ 44 := funext (fun j => e 44 j (by unfold stK; omega))
  have e45 : s 45 = σ 45 := funext (fun j => e 45 j (by unfold stK; omega))
  have e4 : s 41 4 = σ 41 4 := e 41 4 (by unfold stK; omega)
  have el : liC s 41 B = liC σ 41 B := by
    show (sg (s 45) 0 (s 41 4).toNat).filter (fun v => decide (bIn B (s 42 v) (s 43 v))) = (sg (σ 45) 0 (σ 41 4).toNat).filter (fun v => decide (bIn B (σ 42 v) (σ 43 v)))
    rw [e42, e43, e45, e4]
  show msF (fun j => s 44 ((liC s 41 B).getD j.toNat 0)) (liC s 41 B).length ms = msF (fun j => σ 44 ((liC σ 41 B).getD j.toNat 0)) (liC σ 41 B).length ms
  rw [e44, el]
theorem liC_mem {σ : zS} {I : Nat → Bool} (S : ST σ 41 I) {B : Bx} {v : Int} (h : v ∈ liC σ 41 B) : 0 ≤ v ∧ v < 60 := by
  obtain ⟨q, e, hq⟩ := (S.2.2.2 v).mp (List.mem_filter.mp h).1
  have := S.1 q hq
  omega
theorem getD_mem {L : List Int} {j : Nat} (h : j < L.length) : L.getD j 0 ∈ L := by
  rw [List.getD_eq_getElem?_getD, List.getElem?_eq_getElem h]
  exact List.getElem_mem h
/-- the class gathers a box's rows and measures them -/
theorem p_fiMeas {a : Nat} (ha : a = 60 ∨ a = 70) {σ : zS} {I : Nat → Bool} {B : Bx} {ms rows : Int} (H : CI σ) (S : ST σ 41 I) (hms : 0 ≤ ms ∧ ms ≤ 6) (ok : ∀ r : Nat, r < 60 → okL (σ 44 (r : Int))) (hr : ∀ q : Nat, q < 60 → bq rows q = (I q && decide (bIn B (σ 42 (q : Int)) (σ 43 (q : Int))))) : zP' (g_fi_gather a rows σ) (fun _ s => (∀ b j, b ≠ a + 1 → b ≠ a + 2 → (b ≠ a ∨ j ≠ 2) → s b j = σ b j) ∧ s a 2 = ((liC σ 41 B).length : Int) ∧ sg (s (a + 1)) 0 (liC σ 41 B).length = liC σ 41 B ∧ (∀ j : Nat, j < (liC σ 41 B).length → s (a + 2) (j : Int) = σ 44 ((liC σ 41 B).getD j 0)) ∧ zP' (g_fi_measured a ms s) (fun v t => t = s ∧ v = valC σ 41 B ms)) := by
  have h4 := CI.c4 (a := 41) H (by omega)
  refine (p_gather ha (P := fun v => I v.toNat && decide (bIn B (σ 42 v) (σ 43 v))) (rows := rows) (σ := σ) (fun q hq => by
    rw [hr q hq]
    try dsimp only
    rw [show ((q : Nat) : Int).toNat = q by omega]) h4 (ST_val S)).imp (fun _ s p => ?_)
  obtain ⟨p1, d, p2, p3, p4⟩ := p
  have eL : (ordL σ 41).filter (fun v => I v.toNat && decide (bIn B (σ 42 v) (σ 43 v))) = liC σ 41 B := by
    unfold liC
    refine List.filter_congr (fun v hv => ?_)
    obtain ⟨q, e, hq⟩ := (S.2.2.2 v).mp hv
    subst e
    rw [show ((q : Nat) : Int).toNat = q by omega, hq, Bool.true_and]
  rw [eL] at p3
  have hd : d = (liC σ 41 B).length := by rw [← p3, sg_len]
  have hl : d ≤ 60 := by
    have h1 := List.length_filter_le (fun v => decide (bIn B (σ (41 + 1) v) (σ (41 + 2) v))) (ordL σ 41)
    have h2 : (ordL σ 41).length = (σ 41 4).toNat := sg_len _ _ _
    unfold liC at hd
    omega
  have cell : ∀ j : Nat, j < d → s (a + 1) (j : Int) = (liC σ 41 B).getD j 0 := fun j hj => by
    rw [← p3, sg_get d 0 j hj, show (0 : Int) + (j : Int) = (j : Int) by omega]
  have wc : ∀ j : Nat, j < d → s (a + 2) (j : Int) = σ 44 ((liC σ 41 B).getD j 0) := fun j hj => by rw [p4 j hj, cell j hj]
  have okd : ∀ j : Nat, j < d → okL (s (a + 2) (j : Int)) := fun j hj => by
    rw [wc j hj]
    have hm := liC_mem S (getD_mem (L := liC σ 41 B) (j := j) (by omega))
    have h := ok ((liC σ 41 B).getD j 0).toNat (by omega)
    rw [show ((((liC σ 41 B).getD j 0).toNat : Nat) : Int) = (liC σ 41 B).getD j 0 by omega] at h
    exact h
  refine ⟨p1, by rw [p2, hd], by rw [← hd]; exact p3, fun j hj => wc j (by omega), ?_⟩
  refine (p_measured p2 hl hms okd).imp (fun v t q => ⟨q.1, ?_⟩)
  rw [q.2]
  unfold valC
  rw [← hd]
  exact msF_ext (fun j hj => by
    rw [wc j hj]
    rfl)
theorem p_valueOf {σ : zS} {I : Nat → Bool} {B : Bx} {k : Int} (H : CI σ) (S : ST σ 41 I) (hk : 0 ≤ k ∧ k < σ 65 5) (hb : bOk B) (eB : σ 67 k = enc B) (hms : 0 ≤ σ 66 k ∧ σ 66 k ≤ 6) (ok : ∀ r : Nat, r < 60 → okL (σ 44 (r : Int))) : zP' (g_wa_valueOf k σ) (fun v s => v = valC σ 41 B (σ 66 k) ∧ ∀ b j, b ≠ 71 → b ≠ 72 → (b ≠ 70 ∨ j ≠ 2) → s b j = σ b j) := by
  have hw := CI.cw (a := 65) H (by omega)
  unfold g_wa_valueOf g_wa_has
  try dsimp +instances only
  rw [if_neg (by omega), if_neg (by omega), if_neg (by omega)]
  rw [Option.bind_some]
  try dsimp +instances only
  rw [if_pos (by decide), if_pos (by omega)]
  rw [eB]
  obtain ⟨rows, e1, e2⟩ := p_rowsIn (σ := σ) (b := B) S.2.1 hb
  rw [e1]
  rw [Option.bind_some]
  try dsimp +instances only
  refine zP'.bind (p_fiMeas (a := 70) (by omega) (B := B) H S hms ok (fun q hq => e2 q (by omega))) (fun _ s p => ?_)
  obtain ⟨p1, -, -, -, p5⟩ := p
  try dsimp +instances only
  rw [if_pos (by omega), p1 66 k (by decide) (by decide) (Or.inl (by decide))]
  refine zP'.bind p5 (fun v t q => ?_)
  refine zP'.ret ⟨q.2, fun b j h1 h2 h3 => ?_⟩
  dsimp only
  rw [q.1]
  exact p1 b j h1 h2 h3
/-! the reference's -/
def KF (f : Int → Int) (v : Int) : Int := (f (21 + 3 * v) * 32 + f (22 + 3 * v)) * 60 + v
def selF (f : Int → Int) (B : Bx) (T : Int → Bool) (v : Int) : Prop := ∃ q : Nat, q < 60 ∧ v = (q : Int) ∧ f (20 + 3 * (q : Int)) ≠ 0 ∧ bIn B (f (21 + 3 * (q : Int))) (f (22 + 3 * (q : Int))) ∧ T (q : Int) = true
def rsF (f : Int → Int) (j : Int) : Int := if 20 ≤ j ∧ j < 200 then f j else 0
def wsF (w : Int → Int) (j : Int) : Int := if 1 ≤ j ∧ j < 61 then w j else 0
noncomputable def liR (f : Int → Int) (B : Bx) (T : Int → Bool) : List Int := Classical.epsilon (fun L => SL (KF (rsF f)) (selF (rsF f) B T) L)
noncomputable def valR (f w : Int → Int) (B : Bx) (T : Int → Bool) (ms : Int) : Int := msF (fun j => wsF w (1 + (liR f B T).getD j.toNat 0)) (liR f B T).length ms
theorem rsF_i {f : Int → Int} {j : Int} (h : 20 ≤ j ∧ j < 200) : rsF f j = f j := if_pos h
theorem rsF_ext {f g : Int → Int} (h : ∀ j, 20 ≤ j → j < 200 → f j = g j) : rsF f = rsF g := by
  funext j
  unfold rsF
  by_cases c : 20 ≤ j ∧ j < 200
  · rw [if_pos c, if_pos c]
    exact h j c.1 c.2
  · rw [if_neg c, if_neg c]
theorem wsF_ext {f g : Int → Int} (h : ∀ j, 1 ≤ j → j < 61 → f j = g j) : wsF f = wsF g := by
  funext j
  unfold wsF
  by_cases c : 1 ≤ j ∧ j < 61
  · rw [if_pos c, if_pos c]
    exact h j c.1 c.2
  · rw [if_neg c, if_neg c]
theorem liR_ext {f g : Int → Int} {B : Bx} {T : Int → Bool} (h : ∀ j, 20 ≤ j → j < 200 → f j = g j) : liR f B T = liR g B T := by
  unfold liR
  rw [rsF_ext h]
theorem valR_ext {f g w u : Int → Int} {B : Bx} {T : Int → Bool} {ms : Int} (h : ∀ j, 20 ≤ j → j < 200 → f j = g j) (h2 : ∀ j, 1 ≤ j → j < 61 → w j = u j) : valR f w B T ms = valR g u B T ms := by
  unfold valR
  rw [liR_ext h, wsF_ext h2]
theorem selF_rs {f : Int → Int} {B : Bx} {T : Int → Bool} {v : Int} : selF (rsF f) B T v ↔ selF f B T v := by
  constructor
  · rintro ⟨q, h1, h2, h3, h4, h5⟩
    rw [rsF_i (by omega)] at h3 h4
    rw [rsF_i (by omega)] at h4
    exact ⟨q, h1, h2, h3, h4, h5⟩
  · rintro ⟨q, h1, h2, h3, h4, h5⟩
    refine ⟨q, h1, h2, ?_, ?_, h5⟩
    · rw [rsF_i (by omega)]; exact h3
    · rw [rsF_i (by omega), rsF_i (by omega)]; exact h4
theorem KF_rs {f : Int → Int} {v : Int} (h : 0 ≤ v ∧ v < 60) : KF (rsF f) v = KF f v := by
  unfold KF
  rw [rsF_i (by omega), rsF_i (by omega)]
theorem selF_bd {f : Int → Int} {B : Bx} {T : Int → Bool} {v : Int} (h : selF f B T v) : 0 ≤ v ∧ v < 60 := by
  obtain ⟨q, h1, h2, -⟩ := h
  omega
theorem liR_eq {f : Int → Int} {B : Bx} {T : Int → Bool} {L : List Int} (h : SL (KF f) (selF f B T) L) : liR f B T = L := by
  have h2 : SL (KF (rsF f)) (selF (rsF f) B T) L := by
    refine ⟨List.Pairwise.imp_of_mem (fun {a b} ha hb h0 => ?_) h.1, fun v => (h.2 v).trans selF_rs.symm⟩
    rw [KF_rs (selF_bd ((h.2 a).mp ha)), KF_rs (selF_bd ((h.2 b).mp hb))]
    exact h0
  have h3 : SL (KF (rsF f)) (selF (rsF f) B T) (liR f B T) := Classical.epsilon_spec (p := fun L => SL (KF (rsF f)) (selF (rsF f) B T) L) ⟨L, h2⟩
  exact SL.uniq h3 h2 (fun _ => Iff.rfl) (fun _ _ => rfl)
theorem t_gath {a : Nat} {i t ms : Int} {σ : zS} {T : Int → Bool} {B : Bx} (h1 : 0 ≤ i) (h2 : i + 3 < zLI a) (h3 : zLI a ≤ 100000) (h4 : a ≠ 143) (h5 : a ≠ 154) (h6 : a ≠ 155) (hB : bxA σ a i = B) (hp : plR σ) (ht : tstT σ t T) (hms : 0 ≤ ms ∧ ms ≤ 6) (ok : ∀ r : Nat, r < 60 → okL (σ 147 (1 + (r : Int)))) : ∃ s, g_m_gathers a i t σ = some ((), s) ∧ (liR (σ 144) B T).length ≤ 60 ∧ frG σ s ∧ s 143 14 = ((liR (σ 144) B T).length : Int) ∧ sg (s 154) 0 (liR (σ 144) B T).length = liR (σ 144) B T ∧ (∀ j : Nat, j < (liR (σ 144) B T).length → s 155 (j : Int) = σ 147 (1 + (liR (σ 144) B T).getD j 0)) ∧ ∀ s2 : zS, s2 143 14 = s 143 14 → (∀ j, s2 155 j = s 155 j) → ∃ o, g_m_measured ms s2 = some (valR (σ 144) (σ 147) B T ms, zu s2 143 15 o) := by
  obtain ⟨s, m, e1, e2, e3, e4, e5, e6⟩ := t_gathers h1 h2 h3 h4 h5 h6 hB hp ht
  have eL : liR (σ 144) B T = sg (s 154) 0 m := liR_eq e5
  have hl : (liR (σ 144) B T).length = m := by rw [eL, sg_len]
  have cell : ∀ j : Nat, j < m → s 154 (j : Int) = (liR (σ 144) B T).getD j 0 := fun j hj => by
    rw [eL, sg_get m 0 j hj, show (0 : Int) + (j : Int) = (j : Int) by omega]
  have bd : ∀ j : Nat, j < m → 0 ≤ (liR (σ 144) B T).getD j 0 ∧ (liR (σ 144) B T).getD j 0 < 60 := fun j hj => by
    have hm := getD_mem (L := liR (σ 144) B T) (j := j) (by omega)
    have hm : (liR (σ 144) B T).getD j 0 ∈ sg (s 154) 0 m := eL ▸ hm
    exact selF_bd (f := σ 144) (B := B) (T := T) ((e5.2 _).mp hm)
  have wc : ∀ j : Nat, j < m → s 155 (j : Int) = σ 147 (1 + (liR (σ 144) B T).getD j 0) := fun j hj => by rw [e6 j hj, cell j hj]
  refine ⟨s, e1, by omega, e3, by rw [e4, hl], by rw [hl]; exact eL.symm, fun j hj => wc j (by omega), fun s2 g1 g2 => ?_⟩
  obtain ⟨o, f1⟩ := s_msF (σ := s2) (M := m) (m := ms) (by rw [g1]; exact e4) e2 hms (fun j hj => by
    rw [g2, wc j hj]
    have hb := bd j hj
    have h := ok ((liR (σ 144) B T).getD j 0).toNat (by omega)
    rw [show ((((liR (σ 144) B T).getD j 0).toNat : Nat) : Int) = (liR (σ 144) B T).getD j 0 by omega] at h
    exact h)
  refine ⟨o, ?_⟩
  rw [f1]
  have e : msF (s2 155) m ms = valR (σ 144) (σ 147) B T ms := by
    unfold valR
    rw [hl]
    refine msF_ext (fun j hj => ?_)
    have hb := bd j hj
    rw [g2, wc j hj]
    show _ = wsF (σ 147) (1 + (liR (σ 144) B T).getD ((j : Nat) : Int).toNat 0)
    rw [show ((j : Nat) : Int).toNat = j by omega]
    exact (if_pos (by omega)).symm
  rw [e]
theorem t_value {k : Int} {σ : zS} {B : Bx} (hW : 0 ≤ σ 144 10 ∧ σ 144 10 ≤ 6) (hk : 0 ≤ k ∧ k < σ 144 10) (hp : plR σ) (hB : bxA σ 144 (301 + 6 * k) = B) (hms : 0 ≤ σ 144 (300 + 6 * k) ∧ σ 144 (300 + 6 * k) ≤ 6) (ok : ∀ r : Nat, r < 60 → okL (σ 147 (1 + (r : Int)))) : ∃ s, g_m_value k σ = some (valR (σ 144) (σ 147) B (fun _ => true) (σ 144 (300 + 6 * k)), s) ∧ frG σ s := by
  have l := l144
  unfold g_m_value
  rw [s_isWatch hW]
  rw [Option.bind_some]
  try dsimp +instances only
  rw [if_pos hk, if_pos (by decide), w32_id (x := 6 * k) (by omega) (by omega), w32_id (x := 300 + 6 * k) (by omega) (by omega), w32_id (x := 300 + 6 * k + 1) (by omega) (by omega), show 300 + 6 * k + 1 = 301 + 6 * k by omega]
  obtain ⟨s, e1, -, e3, -, -, -, e7⟩ := t_gath (a := 144) (i := 301 + 6 * k) (t := -1) (σ := σ) (B := B) (ms := σ 144 (300 + 6 * k)) (T := fun _ => true) (by omega) (by omega) (by omega) (by decide) (by decide) (by decide) hB hp (tstT.no σ) hms ok
  rw [e1]
  rw [Option.bind_some]
  try dsimp +instances only
  rw [if_pos (by omega), e3 144 _ (Or.inl (by decide)) (by decide) (by decide)]
  obtain ⟨o, f⟩ := e7 s rfl (fun _ => rfl)
  rw [f]
  exact ⟨_, rfl, e3.trans frG.of15⟩
