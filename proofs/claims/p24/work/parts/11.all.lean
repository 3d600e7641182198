section
/-! 14.wp -/
/-! WHAT IS KNOWN OF A MEMORY, as a table, and runs to an end that a predicate holds of -/
abbrev wR : Type := Nat × Nat × List (Nat × Value) × Option Value
abbrev wT : Type := List (Nat × wR)
def w_at (r : wR) (j : Nat) : Option Value := match r.2.2.1.find? (fun p => p.1 == j) with
  | some p => some p.2
  | none => r.2.2.2
def w_row (T : wT) (a : Nat) : Option wR := (T.find? (fun p => p.1 == a)).map (fun p => p.2)
def w_el (t : Nat) (f : Nat → Value) : Prop := (t = 0 ∨ t = 2 → ∀ j, ∃ x : Int32, f j = .int x) ∧ (t = 1 → ∀ j, ∃ x : Int64, f j = .long x)
def w_ok (L : Nat) (xs : Nat → Int32) (N S : Nat) (T : wT) (μ : zM) : Prop :=
  μ.1.length = N ∧ z_slt μ = S + z_slt (z_mu0 L xs) ∧ 39 ≤ N ∧ (∀ a, a < 39 → μ.1[a]? = (z_sh0 L)[a]? ∧ ∀ j, μ.2 a j = z_m0 xs a j) ∧ ∀ a r, w_row T a = some r → 39 ≤ a ∧ μ.1[a]? = some (r.1, r.2.1) ∧ w_el r.1 (μ.2 a) ∧ ∀ j v, j < r.2.1 → w_at r j = some v → μ.2 a j = v
def w_g (T : wT) (tg a f : Nat) : Option Value := match w_row T a with
  | some r => if r.1 = tg then (if f < r.2.1 then w_at r f else none) else none
  | none => none
def w_put (r : wR) (f : Nat) (u : Value) : wR := (r.1, r.2.1, (f, u) :: r.2.2.1.filter (fun p => !(p.1 == f)), r.2.2.2)
def w_pr (T : wT) (tg a f : Nat) (u : Value) : Option wR := match w_row T a with
  | some r => if r.1 = tg then (if f < r.2.1 then some (w_put r f u) else none) else none
  | none => none
def w_new (c : Nat) : wR := (10 + c, (z_cls.getD c ("", z_T0, 0)).2.2, (List.range (z_cls.getD c ("", z_T0, 0)).2.2).map (fun k => (k, z_dv ((z_tys.getD c []).getD k .int))), none)
/-- runs from there to an end of which Q holds -/
def z_W (d k pc : Nat) (L : zL) (st : List Value) (μ : zM) (Q : Option Value → zM → Prop) : Prop := ∃ v μ', z_Ev d k pc L st μ v μ' ∧ Q v μ'
theorem w_row_cons (a b : Nat) (r : wR) (T : wT) : w_row ((a, r) :: T) b = if a = b then some r else w_row T b := by
  unfold w_row
  rw [List.find?_cons]
  by_cases h : a = b
  · subst h; simp
  · rw [if_neg h]
    have : ((a, r).1 == b) = false := by simpa using h
    rw [this]
theorem w_put_at (r : wR) (f : Nat) (u : Value) (j : Nat) (v : Value) (h : w_at (w_put r f u) j = some v) : if j = f then v = u else w_at r j = some v := by
  unfold w_at w_put at h
  dsimp only at h
  rw [List.find?_cons] at h
  by_cases hj : j = f
  · subst hj
    rw [if_pos rfl]
    simp at h
    exact h.symm
  · rw [if_neg hj]
    have h1 : (((f, u) : Nat × Value).1 == j) = false := by simpa using fun e => hj e.symm
    rw [h1] at h
    have h2 : (r.2.2.1.filter (fun p => !(p.1 == f))).find? (fun p => p.1 == j) = r.2.2.1.find? (fun p => p.1 == j) := by
      rw [List.find?_filter]
      congr 1
      funext p
      by_cases hp : p.1 = j
      · have : ¬ p.1 = f := fun e => hj (hp.symm.trans e)
        simp [hp, hj]
      · simp [hp]
    dsimp only at h
    rw [h2] at h
    exact h
section ZWP
variable {xl : Nat} {xs : Nat → Int32} {N S : Nat} {T : wT}
variable {q : z_R} {d k pc pc' : Nat} {L L' : zL} {st st' r : List Value} {μ : zM} {Q : Option Value → zM → Prop}
theorem w_ok.g (H : w_ok xl xs N S T μ) {tg a f : Nat} {u : Value} (h : w_g T tg a f = some u) : z_tg μ a = tg ∧ f < z_n μ a ∧ μ.2 a f = u := by
  unfold w_g at h
  cases hr : w_row T a with
  | none => rw [hr] at h; cases h
  | some r =>
    rw [hr] at h
    dsimp only at h
    obtain ⟨h1, h⟩ := z_ifo_some h
    obtain ⟨h2, h⟩ := z_ifo_some h
    obtain ⟨g1, g2, g3, g4⟩ := H.2.2.2.2 a r hr
    refine ⟨?_, ?_, g4 f u h2 h⟩
    · unfold z_tg; rw [g2]; exact h1
    · unfold z_n; rw [g2]; exact h2
theorem w_ok.t (H : w_ok xl xs N S T μ) {tg a : Nat} (h : (w_row T a).map (fun r => r.1) = some tg) : z_tg μ a = tg := by
  obtain ⟨r, hr, rfl⟩ := Option.map_eq_some_iff.mp h
  unfold z_tg
  rw [(H.2.2.2.2 a r hr).2.1]
  rfl
theorem w_ok.te (H : w_ok xl xs N S T μ) {tg n a : Nat} (ha : a < 39) (h : (z_sh0 xl)[a]? = some (tg, n)) : z_tg μ a = tg ∧ z_n μ a = n := by
  have := (H.2.2.2.1 a ha).1.trans h
  unfold z_tg z_n
  rw [this]
  exact ⟨rfl, rfl⟩
theorem w_slt_wr (μ : zM) (a i : Nat) (v : Value) : z_slt (z_wr μ a i v) = z_slt μ := rfl
theorem w_ok.wr (H : w_ok xl xs N S T μ) {tg a f : Nat} {u : Value} {r' : wR} (h : w_pr T tg a f u = some r') (hu : (tg = 0 ∨ tg = 2 → ∃ x : Int32, u = .int x) ∧ (tg = 1 → ∃ x : Int64, u = .long x)) : 39 ≤ a ∧ z_tg μ a = tg ∧ f < z_n μ a ∧ w_ok xl xs N S ((a, r') :: T) (z_wr μ a f u) := by
  unfold w_pr at h
  cases hr : w_row T a with
  | none => rw [hr] at h; cases h
  | some r =>
    rw [hr] at h
    dsimp only at h
    obtain ⟨h1, h⟩ := z_ifo_some h
    obtain ⟨h2, rfl⟩ := z_if_some h
    obtain ⟨H1, H2, H3, H4, H5⟩ := H
    obtain ⟨g1, g2, g3, g4⟩ := H5 a r hr
    refine ⟨g1, ?_, ?_, H1, H2, H3, fun b hb => ⟨(H4 b hb).1, fun j => ?_⟩, fun b r2 hb => ?_⟩
    · unfold z_tg; rw [g2]; exact h1
    · unfold z_n; rw [g2]; exact h2
    · show (if b = a then _ else μ.2 b j) = _
      rw [if_neg (by omega)]
      exact (H4 b hb).2 j
    · rw [w_row_cons] at hb
      by_cases hab : a = b
      · subst hab
        rw [if_pos rfl] at hb
        cases hb
        refine ⟨g1, g2, ⟨fun ht j => ?_, fun ht j => ?_⟩, fun j v hj hv => ?_⟩
        · show ∃ x : Int32, (if a = a then (if j = f then u else μ.2 a j) else μ.2 a j) = .int x
          rw [if_pos rfl]
          by_cases hjf : j = f
          · rw [if_pos hjf]; exact hu.1 (by rw [← h1]; exact ht)
          · rw [if_neg hjf]; exact g3.1 ht j
        · show ∃ x : Int64, (if a = a then (if j = f then u else μ.2 a j) else μ.2 a j) = .long x
          rw [if_pos rfl]
          by_cases hjf : j = f
          · rw [if_pos hjf]; exact hu.2 (by rw [← h1]; exact ht)
          · rw [if_neg hjf]; exact g3.2 ht j
        · have hw := w_put_at r f u j v hv
          show (if a = a then (if j = f then u else μ.2 a j) else μ.2 a j) = v
          rw [if_pos rfl]
          by_cases hjf : j = f
          · rw [if_pos hjf] at hw ⊢; exact hw.symm
          · rw [if_neg hjf] at hw ⊢; exact g4 j v hj hw
      · rw [if_neg hab] at hb
        obtain ⟨k1, k2, k3, k4⟩ := H5 b r2 hb
        have e : (z_wr μ a f u).2 b = μ.2 b := funext fun j => if_neg (fun e => hab e.symm)
        refine ⟨k1, k2, ?_, ?_⟩
        · rw [e]; exact k3
        · rw [e]; exact k4
theorem w_ok.al (H : w_ok xl xs N S T μ) {t n : Nat} {g : Nat → Value} {r' : wR} (ht : r'.1 = t) (hn : r'.2.1 = n) (hel : w_el t g) (hv : ∀ j v, j < n → w_at r' j = some v → g j = v) {N' S' : Nat} (hN : N + 1 = N') (hS : S + n = S') : w_ok xl xs N' S' ((N, r') :: T) (z_al μ t n g) := by
  obtain ⟨H1, H2, H3, H4, H5⟩ := H
  subst hN hS ht hn
  refine ⟨by simp [z_al, H1], by rw [z_slt_al, H2]; omega, by omega, fun b hb => ⟨?_, fun j => ?_⟩, fun b r2 hb => ?_⟩
  · rw [← (H4 b hb).1]
    show (μ.1 ++ [_])[b]? = _
    exact List.getElem?_append_left (by omega)
  · show (if b = μ.1.length then g j else μ.2 b j) = _
    rw [if_neg (by omega)]
    exact (H4 b hb).2 j
  · rw [w_row_cons] at hb
    by_cases hab : N = b
    · subst hab
      rw [if_pos rfl] at hb
      cases hb
      have e : (z_al μ r'.1 r'.2.1 g).2 N = g := funext fun j => if_pos H1.symm
      refine ⟨H3, ?_, by rw [e]; exact hel, by rw [e]; exact hv⟩
      show (μ.1 ++ [_])[N]? = _
      rw [List.getElem?_append_right (by omega), H1, Nat.sub_self]
      rfl
    · rw [if_neg hab] at hb
      obtain ⟨k1, k2, k3, k4⟩ := H5 b r2 hb
      have hlt : b < μ.1.length := (List.getElem?_eq_some_iff.mp k2).1
      have e : (z_al μ r'.1 r'.2.1 g).2 b = μ.2 b := funext fun j => if_neg (by omega)
      refine ⟨k1, ?_, by rw [e]; exact k3, by rw [e]; exact k4⟩
      show (μ.1 ++ [_])[b]? = _
      rw [List.getElem?_append_left hlt]
      exact k2
theorem w_ok.sub (H : w_ok xl xs N S T μ) {T' : wT} (h : ∀ a r, w_row T' a = some r → w_row T a = some r) : w_ok xl xs N S T' μ :=
  ⟨H.1, H.2.1, H.2.2.1, H.2.2.2.1, fun a r hr => H.2.2.2.2 a r (h a r hr)⟩
/-- one step, or some -/
theorem w_x {μ2 : zM} {d' k' : Nat} (h : ∀ v μ', z_Ev d' k' pc' L' st' μ2 v μ' → z_Ev d k pc L st μ v μ') (kk : z_W d' k' pc' L' st' μ2 Q) : z_W d k pc L st μ Q := by
  obtain ⟨v, μ', h1, h2⟩ := kk
  exact ⟨v, μ', h v μ' h1, h2⟩
theorem w_p (hq : z_mth k = some q) (n : Nat) (h : z_rn q k n (pc, L, st, μ) = some (pc', L', st', μ)) (kk : z_W d k pc' L' st' μ Q) : z_W d k pc L st μ Q := w_x (fun _ _ e => ev_r hq n h e) kk
theorem w_gf (H : w_ok xl xs N S T μ) {idx a tg f wp : Nat} {u : Value} (hq : z_mth k = some q) (hi : z_at q pc (.getfield idx)) (hl : z_lk z_FL q.2.2.2.2.1 idx = some (tg, f, wp)) (h : w_g T tg a f = some u) (e1 : pc + 3 = pc') (e2 : z_can k pc' L = L') (kk : z_W d k pc' L' (u :: r) μ Q) : z_W d k pc L (.ref a :: r) μ Q := by
  subst e1
  obtain ⟨g1, -, g3⟩ := H.g h
  exact w_x (fun _ _ e => ev_s hq hi rfl (z_getf_step hl g1 g3) e2 e) kk
theorem w_gs (H : w_ok xl xs N S T μ) {idx a tg f wp n : Nat} {u : Value} (hq : z_mth k = some q) (hi : z_at q pc (.getfield idx)) (hl : z_lk z_FL q.2.2.2.2.1 idx = some (tg, f, wp)) (ha : a < 39) (h1 : (z_sh0 xl)[a]? = some (tg, n)) (h2 : z_m0 xs a f = u) (e1 : pc + 3 = pc') (e2 : z_can k pc' L = L') (kk : z_W d k pc' L' (u :: r) μ Q) : z_W d k pc L (.ref a :: r) μ Q := by
  subst e1
  exact w_x (fun _ _ e => ev_s hq hi rfl (z_getf_step hl (H.te ha h1).1 (((H.2.2.2.1 a ha).2 f).trans h2)) e2 e) kk
theorem w_pf (H : w_ok xl xs N S T μ) {idx a tg f wp : Nat} {u : Value} (r' : wR) (hq : z_mth k = some q) (hi : z_at q pc (.putfield idx)) (hl : z_lk z_FL q.2.2.2.2.1 idx = some (tg, f, wp)) (h10 : 10 ≤ tg) (hf : z_fit ((z_tys.getD (tg - 10) []).getD f .int) u = true) (hn : ((z_cls.getD (tg - 10) ("", z_T0, 0)).2.1 f).2.2.2 = false ∨ ((q.1.name == "<init>") = true ∧ tg - 10 = q.2.2.2.2.1 ∧ q.2.2.2.2.1 < 13)) (h : w_pr T tg a f u = some r') (e1 : pc + 3 = pc') (e2 : z_can k pc' L = L') (kk : ∀ μ2, w_ok xl xs N S ((a, r') :: T) μ2 → z_W d k pc' L' r μ2 Q) : z_W d k pc L (u :: .ref a :: r) μ Q := by
  subst e1
  obtain ⟨g1, g2, g3, g4⟩ := H.wr h ⟨fun h => by omega, fun h => by omega⟩
  exact w_x (fun _ _ e => ev_s hq hi rfl (z_putf_step hl ⟨g1, h10, g2, hf, hn⟩) e2 e) (kk _ g4)
theorem w_al {i : Instr} (H : w_ok xl xs N S T μ) {a t j : Nat} {y : Int32} {u : Value} (hq : z_mth k = some q) (hi : z_at q pc i) (hr : (match i with | .return_ | .ireturn | .lreturn | .areturn | .invokevirtual _ => false | _ => true) = true) (hz : z_step q.2.2.2.2.1 q.2.2.1 (q.1.name == "<init>") i pc L (.int y :: .ref a :: r) μ = z_ld μ t pc L a y r) (hy : y.toInt = j) (h : w_g T t a j = some u) (e1 : pc + 1 = pc') (e2 : z_can k pc' L = L') (kk : z_W d k pc' L' (u :: r) μ Q) : z_W d k pc L (.int y :: .ref a :: r) μ Q := by
  subst e1
  obtain ⟨g1, g2, g3⟩ := H.g h
  have e : y.toNatClampNeg = j := by
    show y.toInt.toNat = j
    omega
  refine w_x (fun _ _ e => ev_s hq hi hr (hz.trans (z_ld_ok g1 ?_ (by rw [‹y.toNatClampNeg = j›]; exact g3))) e2 e) kk
  unfold z_in
  rw [decide_eq_true (show 0 ≤ y.toInt by omega), decide_eq_true (show y.toInt < z_n μ a by omega)]
  rfl
theorem w_ae {i : Instr} (H : w_ok xl xs N S T μ) {a t j n : Nat} {y : Int32} {u : Value} (hq : z_mth k = some q) (hi : z_at q pc i) (hr : (match i with | .return_ | .ireturn | .lreturn | .areturn | .invokevirtual _ => false | _ => true) = true) (hz : z_step q.2.2.2.2.1 q.2.2.1 (q.1.name == "<init>") i pc L (.int y :: .ref a :: r) μ = z_ld μ t pc L a y r) (hy : y.toInt = j) (ha : a < 39) (h1 : (z_sh0 xl)[a]? = some (t, n)) (hjn : j < n) (h2 : z_m0 xs a j = u) (e1 : pc + 1 = pc') (e2 : z_can k pc' L = L') (kk : z_W d k pc' L' (u :: r) μ Q) : z_W d k pc L (.int y :: .ref a :: r) μ Q := by
  subst e1
  obtain ⟨g1, g2⟩ := H.te ha h1
  have e : y.toNatClampNeg = j := by
    show y.toInt.toNat = j
    omega
  refine w_x (fun _ _ e => ev_s hq hi hr (hz.trans (z_ld_ok g1 ?_ (by rw [‹y.toNatClampNeg = j›]; exact ((H.2.2.2.1 a ha).2 j).trans h2))) e2 e) kk
  unfold z_in
  rw [g2, decide_eq_true (show 0 ≤ y.toInt by omega), decide_eq_true (show y.toInt < n by omega)]
  rfl
theorem w_as {i : Instr} (H : w_ok xl xs N S T μ) {a t j : Nat} {y : Int32} {u w : Value} (r' : wR) (hq : z_mth k = some q) (hi : z_at q pc i) (hr : (match i with | .return_ | .ireturn | .lreturn | .areturn | .invokevirtual _ => false | _ => true) = true) (hz : z_step q.2.2.2.2.1 q.2.2.1 (q.1.name == "<init>") i pc L (w :: .int y :: .ref a :: r) μ = z_sd μ t pc L a y u r) (hu : (t = 0 ∨ t = 2 → ∃ x : Int32, u = .int x) ∧ (t = 1 → ∃ x : Int64, u = .long x)) (hy : y.toInt = j) (h : w_pr T t a j u = some r') (e1 : pc + 1 = pc') (e2 : z_can k pc' L = L') (kk : ∀ μ2, w_ok xl xs N S ((a, r') :: T) μ2 → z_W d k pc' L' r μ2 Q) : z_W d k pc L (w :: .int y :: .ref a :: r) μ Q := by
  subst e1
  obtain ⟨g1, g2, g3, g4⟩ := H.wr h hu
  have e : y.toNatClampNeg = j := by
    show y.toInt.toNat = j
    omega
  subst e
  refine w_x (fun _ _ e => ev_s hq hi hr (hz.trans (?_ : z_sd μ t pc L a y u r = some (pc + 1, L, r, z_wr μ a y.toNatClampNeg u))) e2 e) (kk _ g4)
  unfold z_sd
  rw [if_pos (show zE ≤ a from g1), if_pos g2, if_pos]
  unfold z_in
  rw [decide_eq_true (show 0 ≤ y.toInt by omega), decide_eq_true (show y.toInt < z_n μ a by omega)]
  rfl
theorem w_ui (t : Nat) (x : Int32) (h : t ≠ 1) : (t = 0 ∨ t = 2 → ∃ y : Int32, Value.int x = .int y) ∧ (t = 1 → ∃ y : Int64, Value.int x = .long y) := ⟨fun _ => ⟨x, rfl⟩, fun e => absurd e h⟩
theorem w_ul (x : Int64) : ((1 : Nat) = 0 ∨ (1 : Nat) = 2 → ∃ y : Int32, Value.long x = .int y) ∧ ((1 : Nat) = 1 → ∃ y : Int64, Value.long x = .long y) := ⟨fun h => by omega, fun _ => ⟨x, rfl⟩⟩
theorem w_len (H : w_ok xl xs N S T μ) {a t n : Nat} {x : Int32} (hq : z_mth k = some q) (hi : z_at q pc .arraylength) (h : (w_row T a).map (fun r => (r.1, r.2.1)) = some (t, n)) (ht : t < 4) (hx : Int32.ofNat n = x) (e1 : pc + 1 = pc') (e2 : z_can k pc' L = L') (kk : z_W d k pc' L' (.int x :: r) μ Q) : z_W d k pc L (.ref a :: r) μ Q := by
  subst hx
  obtain ⟨rr, hr, he⟩ := Option.map_eq_some_iff.mp h
  have g2 := (H.2.2.2.2 a rr hr).2.1
  cases he
  have hn : z_n μ a = rr.2.1 := by unfold z_n; rw [g2]; rfl
  have htt : z_tg μ a = rr.1 := by unfold z_tg; rw [g2]; rfl
  exact w_x (fun _ _ e => ev_le hq hi (show (if z_tg μ a < 4 then some (Int32.ofNat (z_n μ a)) else none) = _ by rw [htt, hn, if_pos ht]) e1 e2 e) kk
theorem w_lene (H : w_ok xl xs N S T μ) {a t n : Nat} {x : Int32} (hq : z_mth k = some q) (hi : z_at q pc .arraylength) (ha : a < 39) (h : (z_sh0 xl)[a]? = some (t, n)) (ht : t < 4) (hx : Int32.ofNat n = x) (e1 : pc + 1 = pc') (e2 : z_can k pc' L = L') (kk : z_W d k pc' L' (.int x :: r) μ Q) : z_W d k pc L (.ref a :: r) μ Q := by
  subst hx
  obtain ⟨g1, g2⟩ := H.te ha h
  exact w_x (fun _ _ e => ev_le hq hi (show (if z_tg μ a < 4 then some (Int32.ofNat (z_n μ a)) else none) = _ by rw [g1, g2, if_pos ht]) e1 e2 e) kk
theorem w_nw (H : w_ok xl xs N S T μ) {idx c : Nat} {w3 : Nat × Nat × Nat} (r' : wR) {N' S' : Nat} (hq : z_mth k = some q) (hi : z_at q pc (.new idx)) (hl : z_lk z_CL q.2.2.2.2.1 idx = some (c, w3)) (h : w_new c = r') (hN : N + 1 = N') (hS : S + r'.2.1 = S') (e1 : pc + 3 = pc') (e2 : z_can k pc' L = L') (kk : ∀ μ2, w_ok xl xs N' S' ((N, r') :: T) μ2 → z_W d k pc' L' (.ref N :: r) μ2 Q) : z_W d k pc L r μ Q := by
  subst h
  have H2 := H.al (t := 10 + c) (n := (z_cls.getD c ("", z_T0, 0)).2.2) (g := fun k => z_dv ((z_tys.getD c []).getD k .int)) (r' := w_new c) rfl rfl ⟨fun h => by omega, fun h => by omega⟩ (fun j v hj hv => by
    unfold w_at w_new at hv
    dsimp only at hv
    cases hf : ((List.range (z_cls.getD c ("", z_T0, 0)).2.2).map (fun k => (k, z_dv ((z_tys.getD c []).getD k .int)))).find? (fun p => p.1 == j) with
    | none => rw [hf] at hv; cases hv
    | some p =>
      rw [hf] at hv
      cases hv
      have h1 := List.mem_of_find?_eq_some hf
      have h2 := List.find?_some hf
      obtain ⟨i, -, rfl⟩ := List.mem_map.mp h1
      have h3 : i = j := by simpa using h2
      rw [h3]) hN hS
  refine w_x (fun _ _ e => ev_new (o := (μ.1.length, _)) hq hi hl rfl e1 e2 e) ?_
  rw [H.1]
  exact kk _ H2
theorem w_na (H : w_ok xl xs N S T μ) {t : ArrayType} {ti n : Nat} {x : Int32} (dv : Value) {N' S' : Nat} (hq : z_mth k = some q) (hi : z_at q pc (.newarray t)) (ht : z_ati t = some ti) (h3 : ti < 3) (hx : x.toInt = n) (hx2 : n ≤ 60000000) (hd : z_dv (z_aty ti) = dv) (hN : N + 1 = N') (hS : S + n = S') (e1 : pc + 2 = pc') (e2 : z_can k pc' L = L') (kk : ∀ μ2, w_ok xl xs N' S' ((N, (ti, n, [], some dv)) :: T) μ2 → z_W d k pc' L' (.ref N :: r) μ2 Q) : z_W d k pc L (.int x :: r) μ Q := by
  subst hd
  have hx1 : x.toNatClampNeg = n := by
    show x.toInt.toNat = n
    omega
  have H2 := H.al (t := ti) (n := n) (g := fun _ => z_dv (z_aty ti)) (r' := (ti, n, [], some (z_dv (z_aty ti)))) rfl rfl ⟨fun h j => by rcases h with rfl | rfl <;> exact ⟨0, rfl⟩, fun h j => by subst h; exact ⟨0, rfl⟩⟩ (fun j v _ hv => Option.some.inj hv) hN hS
  refine w_x (fun _ _ e => ev_ma (o := (μ.1.length, _)) hq hi ht (show (if 0 ≤ x.toInt ∧ x.toInt ≤ 60000000 then some (μ.1.length, z_al μ ti x.toNatClampNeg (fun _ => z_dv (z_aty ti))) else none) = _ by rw [if_pos ⟨by omega, by omega⟩]) e1 e2 e) ?_
  rw [H.1, hx1]
  exact kk _ H2
theorem w_t1 {o : ClassFile.Cond} {off : Int} {x : Int32} (hq : z_mth k = some q) (hi : z_at q pc (.ifCond o off)) (hf : z_fw pc off = true) (hc : z_c o x 0 = true) (e1 : z_to pc off = pc') (e2 : z_can k pc' L = L') (kk : z_W d k pc' L' r μ Q) : z_W d k pc L (.int x :: r) μ Q := w_x (fun _ _ e => ev_t1 hq hi hf hc e1 e2 e) kk
theorem w_f1 {o : ClassFile.Cond} {off : Int} {x : Int32} (hq : z_mth k = some q) (hi : z_at q pc (.ifCond o off)) (hf : z_fw pc off = true) (hc : z_c o x 0 = false) (e1 : pc + 3 = pc') (e2 : z_can k pc' L = L') (kk : z_W d k pc' L' r μ Q) : z_W d k pc L (.int x :: r) μ Q := w_x (fun _ _ e => ev_f1 hq hi hf hc e1 e2 e) kk
theorem w_t2 {o : ClassFile.Cond} {off : Int} {x y : Int32} (hq : z_mth k = some q) (hi : z_at q pc (.if_icmp o off)) (hf : z_fw pc off = true) (hc : z_c o x y = true) (e1 : z_to pc off = pc') (e2 : z_can k pc' L = L') (kk : z_W d k pc' L' r μ Q) : z_W d k pc L (.int y :: .int x :: r) μ Q := w_x (fun _ _ e => ev_t2 hq hi hf hc e1 e2 e) kk
theorem w_f2 {o : ClassFile.Cond} {off : Int} {x y : Int32} (hq : z_mth k = some q) (hi : z_at q pc (.if_icmp o off)) (hf : z_fw pc off = true) (hc : z_c o x y = false) (e1 : pc + 3 = pc') (e2 : z_can k pc' L = L') (kk : z_W d k pc' L' r μ Q) : z_W d k pc L (.int y :: .int x :: r) μ Q := w_x (fun _ _ e => ev_f2 hq hi hf hc e1 e2 e) kk
theorem w_sw {dflt lo up off : Int} {offs : Array Int} {x : Int32} (hq : z_mth k = some q) (hi : z_at q pc (.tableswitch dflt lo up offs)) (ho : z_off lo up dflt offs x = some off) (hf : z_fw pc off = true) (e1 : z_to pc off = pc') (e2 : z_can k pc' L = L') (kk : z_W d k pc' L' r μ Q) : z_W d k pc L (.int x :: r) μ Q := w_x (fun _ _ e => ev_sw hq hi ho hf e1 e2 e) kk
theorem w_ci {idx : Nat} {x y : Int32} {r3 : Nat × Nat × List Nat} (hq : z_mth k = some q) (hi : z_at q pc (.invokestatic idx)) (hl : z_lk z_ML q.2.2.2.2.1 idx = some (7, r3)) (hcat : z_cat r ≤ 8) (h : 0 ≤ x.toInt ∧ x.toInt < y.toInt) (e1 : pc + 3 = pc') (e2 : z_can k pc' L = L') (kk : z_W d k pc' L' r μ Q) : z_W d k pc L (.int y :: .int x :: r) μ Q := w_x (fun _ _ e => ev_ci hq hi hl hcat h e1 e2 e) kk
theorem w_cs {idx j : Nat} {i : Instr} {ks : List Nat} {As rest : List Value} {L0 : zL} (hq : z_mth k = some q) (hi : z_at q pc i) (hk : (i = .invokestatic idx ∧ ks = [0]) ∨ (i = .invokespecial idx ∧ ks = [2, 3, 4])) (hs : z_step q.2.2.2.2.1 q.2.2.1 (q.1.name == "<init>") i pc L st μ = none) (hv : z_inv q.2.2.2.2.1 idx ks st μ = some (.inr (.inr (j, As, rest)))) (e0 : z_can j 0 (lv_args 0 As) = L0) (e1 : pc + 3 = pc') (e2 : z_can k pc' L = L') (kk : z_W d j 0 L0 [] μ (fun u μ2 => z_W (d + 1) k pc' L' (u.toList ++ rest) μ2 Q)) : z_W (d + 1) k pc L st μ Q := by
  subst e0
  obtain ⟨u, μ2, h1, v, μ', h2, h3⟩ := kk
  exact ⟨v, μ', ev_cs hq hi hk hs hv (Nat.le_refl _) h1 e1 e2 rfl h2, h3⟩
theorem w_cv {idx j kd tg a : Nat} {i : Instr} {ks ps : List Nat} {qc : z_R} {Ps rest : List Value} {L0 : zL} (htg : z_tg μ a = tg) (hq : z_mth k = some q) (hi : z_at q pc i) (hk : (i = .invokevirtual idx ∧ ks = [1, 5]) ∨ (i = .invokespecial idx ∧ ks = [2, 3, 4] ∧ kd = 4)) (hl : z_lk z_ML q.2.2.2.2.1 idx = some (kd, j, tg, ps)) (hks : ks.contains kd = true) (hk0 : kd ≠ 0) (hk9 : kd ≠ 9) (hr : z_r j = some qc) (h1 : Nat.ble qc.2.2.2.2.2.1 st.length = true) (h2 : st.drop qc.2.2.2.2.2.1 = .ref a :: rest) (h3 : (st.take qc.2.2.2.2.2.1).reverse = Ps) (h4 : Nat.ble (z_cat rest) 8 = true) (h5 : Nat.ble (lg_sl (.ref a :: Ps)).length qc.2.2.1 = true) (h6 : qc.2.2.1 ≤ 41) (e0 : z_can j 0 (lv_args 0 (.ref a :: Ps)) = L0) (e1 : pc + 3 = pc') (e2 : z_can k pc' L = L') (kk : z_W d j 0 L0 [] μ (fun u μ2 => z_W (d + 1) k pc' L' (u.toList ++ rest) μ2 Q)) : z_W (d + 1) k pc L st μ Q := by
  subst e0
  obtain ⟨u, μ2, g1, v, μ', g2, g3⟩ := kk
  exact ⟨v, μ', ev_cv hq hi hk hl hks hk0 hk9 hr (Nat.not_lt.mpr (Nat.le_of_ble_eq_true h1)) h2 h3 (Nat.le_of_ble_eq_true h4) (Nat.le_of_ble_eq_true h5) h6 htg (Nat.le_refl _) g1 e1 e2 rfl g2, g3⟩
theorem w_rv (hq : z_mth k = some q) (hi : z_at q pc .return_) (hr : q.2.2.2.1 = none) (kk : Q none μ) : z_W d k pc L [] μ Q := ⟨_, _, ev_rv hq hi hr, kk⟩
theorem w_ri {x : Int32} {ty : FieldType} (hq : z_mth k = some q) (hi : z_at q pc .ireturn) (hr : q.2.2.2.1 = some ty) (ht : z_rty ty x = true) (kk : Q (some (.int x)) μ) : z_W d k pc L [.int x] μ Q := ⟨_, _, ev_ri hq hi hr ht, kk⟩
theorem w_rl {x : Int64} (hq : z_mth k = some q) (hi : z_at q pc .lreturn) (hr : q.2.2.2.1 = some .long) (kk : Q (some (.long x)) μ) : z_W d k pc L [.long x] μ Q := ⟨_, _, ev_rl hq hi hr, kk⟩
theorem w_ra {x : Nat} (hq : z_mth k = some q) (hi : z_at q pc .areturn) (hr : (match q.2.2.2.1 with | some (.object _) => true | some (.array _) => true | _ => false) = true) (kk : Q (some (.ref x)) μ) : z_W d k pc L [.ref x] μ Q := ⟨_, _, ev_ra hq hi hr, kk⟩
theorem w_cpf (H : w_ok xl xs N S T μ) {idx a b n : Nat} {r3 : Nat × Nat × List Nat} {y : Int32} {ra : wR} (hq : z_mth k = some q) (hi : z_at q pc (.invokestatic idx)) (hl : z_lk z_ML q.2.2.2.2.1 idx = some (8, r3)) (hcat : z_cat r ≤ 8) (hra : w_row T a = some ra) (hrb : (w_row T b).map (fun r => (r.1, r.2.1)) = some (ra.1, n)) (hn : ra.2.1 = n) (hy : y.toInt = n) (h3 : ra.1 < 3) (e1 : pc + 3 = pc') (e2 : z_can k pc' L = L') (kk : ∀ μ2, w_ok xl xs N S ((b, (ra.1, ra.2.1, ra.2.2.1, ra.2.2.2)) :: T) μ2 → z_W d k pc' L' r μ2 Q) : z_W d k pc L (.int y :: .int 0 :: .ref b :: .int 0 :: .ref a :: r) μ Q := by
  obtain ⟨rb, hrb, he⟩ := Option.map_eq_some_iff.mp hrb
  obtain ⟨H1, H2, H3, H4, H5⟩ := id H
  obtain ⟨ga1, ga2, ga3, ga4⟩ := H5 a ra hra
  obtain ⟨gb1, gb2, gb3, gb4⟩ := H5 b rb hrb
  have he1 : rb.1 = ra.1 := (Prod.mk.inj he).1
  have he2 : rb.2.1 = n := (Prod.mk.inj he).2
  have ta : z_tg μ a = ra.1 := by unfold z_tg; rw [ga2]; rfl
  have na : z_n μ a = n := by unfold z_n; rw [ga2, ← hn]; rfl
  have tb : z_tg μ b = ra.1 := by unfold z_tg; rw [gb2, ← he1]; rfl
  have nb : z_n μ b = n := by unfold z_n; rw [gb2, ← he2]; rfl
  have hyn : y.toNatClampNeg = n := by
    show y.toInt.toNat = n
    omega
  have h00 : (0 : Int32).toNatClampNeg = 0 := rfl
  have h0i : (0 : Int32).toInt = 0 := rfl
  have hcp : z_cp μ a 0 b 0 y = some (μ.1, z_nw μ.2 b (z_cpy (μ.2 a) (μ.2 b) 0 0 n)) := by
    unfold z_cp
    rw [h00, hyn, h0i, if_pos ⟨gb1, ta.trans tb.symm, by rw [ta]; exact h3, Int.le_refl _, Int.le_refl _, by omega, by omega, by omega⟩]
  refine w_x (fun _ _ e => ev_cp hq hi hl hcat hcp e1 e2 e) (kk _ ?_)
  refine ⟨H1, H2, H3, fun c hc => ⟨(H4 c hc).1, fun j => ?_⟩, fun c rc hc => ?_⟩
  · show (if c = b then _ else μ.2 c j) = _
    rw [if_neg (by omega)]
    exact (H4 c hc).2 j
  · rw [w_row_cons] at hc
    by_cases hbc : b = c
    · subst hbc
      rw [if_pos rfl] at hc
      cases hc
      have e : ∀ j, z_nw μ.2 b (z_cpy (μ.2 a) (μ.2 b) 0 0 n) b j = if j < n then μ.2 a j else μ.2 b j := by
        intro j
        show (if b = b then z_cpy (μ.2 a) (μ.2 b) 0 0 n j else _) = _
        rw [if_pos rfl]
        show (if 0 ≤ j ∧ j < 0 + n then μ.2 a (0 + (j - 0)) else μ.2 b j) = _
        have e0 : 0 + (j - 0) = j := by omega
        by_cases hj : j < n
        · rw [if_pos (show 0 ≤ j ∧ j < 0 + n from ⟨by omega, by omega⟩), if_pos hj, e0]
        · rw [if_neg (show ¬ (0 ≤ j ∧ j < 0 + n) from fun h => by omega), if_neg hj]
      refine ⟨gb1, ?_, ⟨fun ht j => ?_, fun ht j => ?_⟩, fun j v hj hv => ?_⟩
      · show μ.1[b]? = some (ra.1, ra.2.1)
        rw [gb2, he1, he2, hn]
      · show ∃ x : Int32, z_nw μ.2 b (z_cpy (μ.2 a) (μ.2 b) 0 0 n) b j = .int x
        rw [e j]
        split
        · exact ga3.1 ht j
        · exact gb3.1 (by rw [he1]; exact ht) j
      · show ∃ x : Int64, z_nw μ.2 b (z_cpy (μ.2 a) (μ.2 b) 0 0 n) b j = .long x
        rw [e j]
        split
        · exact ga3.2 ht j
        · exact gb3.2 (by rw [he1]; exact ht) j
      · have hj : j < ra.2.1 := hj
        show z_nw μ.2 b (z_cpy (μ.2 a) (μ.2 b) 0 0 n) b j = v
        rw [e j, if_pos (by omega)]
        exact ga4 j v hj hv
    · rw [if_neg hbc] at hc
      obtain ⟨k1, k2, k3, k4⟩ := H5 c rc hc
      have e : z_nw μ.2 b (z_cpy (μ.2 a) (μ.2 b) 0 0 n) c = μ.2 c := funext fun j => if_neg (fun e => hbc e.symm)
      refine ⟨k1, k2, ?_, ?_⟩
      · show w_el rc.1 (z_nw μ.2 b (z_cpy (μ.2 a) (μ.2 b) 0 0 n) c)
        rw [e]; exact k3
      · show ∀ j v, j < rc.2.1 → w_at rc j = some v → z_nw μ.2 b (z_cpy (μ.2 a) (μ.2 b) 0 0 n) c j = v
        rw [e]; exact k4
def w_mmI (N k : Nat) : Nat → wT
  | 0 => []
  | n + 1 => (N + 1 + n, (1, k, [], some (.long 0))) :: w_mmI N k n
def w_mmT (N n k : Nat) : wT := w_mmI N k n ++ [(N, (3, n, (List.range n).map (fun j => (j, Value.ref (N + 1 + j))), none))]
theorem w_als {N1 S1 k : Nat} {T1 : wT} {μ1 : zM} (H : w_ok xl xs N1 S1 T1 μ1) (hN : N1 = N + 1) : ∀ n, w_ok xl xs (N1 + n) (S1 + n * k) (w_mmI N k n ++ T1) (z_als μ1 n k)
  | 0 => by
    have e : S1 + 0 * k = S1 := by omega
    rw [e]
    exact H
  | n + 1 => by
    have h := w_als (k := k) H hN n
    have := h.al (t := 1) (n := k) (g := fun _ => .long 0) (r' := (1, k, [], some (.long 0))) rfl rfl ⟨fun h => by omega, fun _ j => ⟨0, rfl⟩⟩ (fun j v _ hv => Option.some.inj hv) (N' := N1 + (n + 1)) (S' := S1 + (n + 1) * k) rfl (by rw [Nat.add_mul]; omega)
    rw [hN] at this
    rw [hN]
    exact this
theorem w_mm (H : w_ok xl xs N S T μ) {n k2 N' S' : Nat} {T' : wT} {x y : Int32} (hq : z_mth k = some q) (hi : z_at q pc (.multianewarray 11 2)) (hw : q.2.2.2.2.1 = 4) (hx : x.toInt = n) (hy : y.toInt = k2) (hn : n ≤ 60000) (hk : k2 ≤ 60000) (hN : N + 1 + n = N') (hS : S + n + n * k2 = S') (hT : w_mmT N n k2 = T') (e1 : pc + 4 = pc') (e2 : z_can k pc' L = L') (kk : ∀ μ2, w_ok xl xs N' S' (T' ++ T) μ2 → z_W d k pc' L' (.ref N :: r) μ2 Q) : z_W d k pc L (.int y :: .int x :: r) μ Q := by
  subst hT hN hS
  have hxn : x.toNatClampNeg = n := by
    show x.toInt.toNat = n
    omega
  have hyn : y.toNatClampNeg = k2 := by
    show y.toInt.toNat = k2
    omega
  have hz : z_mm μ x y = some (μ.1.length, z_als (z_al μ 3 n (fun j => .ref (μ.1.length + 1 + j))) n k2) := by
    unfold z_mm
    rw [hxn, hyn, if_pos ⟨by omega, by omega, by omega, by omega⟩]
  refine w_x (fun _ _ e => ev_mm (o := (μ.1.length, _)) hq hi hw hz e1 e2 e) ?_
  have hl := H.1
  rw [hl]
  refine kk _ ?_
  have h1 := H.al (t := 3) (n := n) (g := fun j => Value.ref (N + 1 + j)) (r' := (3, n, (List.range n).map (fun j => (j, Value.ref (N + 1 + j))), none)) rfl rfl ⟨fun h => by omega, fun h => by omega⟩ (fun j v hj hv => by
    unfold w_at at hv
    dsimp only at hv
    cases hf : ((List.range n).map (fun j => (j, Value.ref (N + 1 + j)))).find? (fun p => p.1 == j) with
    | none => rw [hf] at hv; cases hv
    | some p =>
      rw [hf] at hv
      cases hv
      have h1 := List.mem_of_find?_eq_some hf
      have h2 := List.find?_some hf
      obtain ⟨i, -, rfl⟩ := List.mem_map.mp h1
      have h3 : i = j := by simpa using h2
      rw [h3]) (N' := N + 1) (S' := S + n) rfl rfl
  have h2 := w_als (k := k2) h1 rfl n
  unfold w_mmT
  rw [List.append_assoc]
  exact h2
theorem w_top {v v' : Value} (h : v = v') (kk : z_W d k pc L (v' :: r) μ Q) : z_W d k pc L (v :: r) μ Q := h ▸ kk
def w_av (c : Int) : List (Nat × Value) → Prop
  | [] => True
  | p :: l => (p.1 : Int) ≠ c ∧ w_av c l
theorem w_av_n {c : Int} : w_av c [] := trivial
theorem w_av_c {c : Int} {j : Nat} {v : Value} {l : List (Nat × Value)} (h : (j : Int) ≠ c) (hl : w_av c l) : w_av c ((j, v) :: l) := ⟨h, hl⟩
theorem w_av_find {c : Int} {j : Nat} (hj : (j : Int) = c) : ∀ {l : List (Nat × Value)}, w_av c l → l.find? (fun p => p.1 == j) = none
  | [], _ => rfl
  | p :: l, h => by
    rw [List.find?_cons]
    have : (p.1 == j) = false := by
      have h1 := h.1
      simp
      omega
    rw [this]
    exact w_av_find hj h.2
theorem w_alx {i : Instr} (H : w_ok xl xs N S T μ) {a t n : Nat} {ov : List (Nat × Value)} {y : Int32} {c : Int} {u : Value} (hq : z_mth k = some q) (hi : z_at q pc i) (hr : (match i with | .return_ | .ireturn | .lreturn | .areturn | .invokevirtual _ => false | _ => true) = true) (hz : z_step q.2.2.2.2.1 q.2.2.1 (q.1.name == "<init>") i pc L (.int y :: .ref a :: r) μ = z_ld μ t pc L a y r) (hy : y.toInt = c) (h0 : 0 ≤ c) (h1 : c < n) (hrow : w_row T a = some (t, n, ov, some u)) (hav : w_av c ov) (e1 : pc + 1 = pc') (e2 : z_can k pc' L = L') (kk : z_W d k pc' L' (u :: r) μ Q) : z_W d k pc L (.int y :: .ref a :: r) μ Q := by
  have hj : ((c.toNat : Nat) : Int) = c := by omega
  refine w_al H (j := c.toNat) hq hi hr hz (by rw [hy, hj]) ?_ e1 e2 kk
  unfold w_g
  rw [hrow]
  dsimp only
  rw [if_pos rfl, if_pos (by omega)]
  unfold w_at
  dsimp only
  rw [w_av_find hj hav]
theorem w_aex {i : Instr} (H : w_ok xl xs N S T μ) {a t n : Nat} {y : Int32} {c : Int} (hq : z_mth k = some q) (hi : z_at q pc i) (hr : (match i with | .return_ | .ireturn | .lreturn | .areturn | .invokevirtual _ => false | _ => true) = true) (hz : z_step q.2.2.2.2.1 q.2.2.1 (q.1.name == "<init>") i pc L (.int y :: .ref a :: r) μ = z_ld μ t pc L a y r) (hy : y.toInt = c) (h0 : 0 ≤ c) (h1 : c < n) (ha : a < 39) (hrow : (z_sh0 xl)[a]? = some (t, n)) (h19 : 19 ≤ a) (e1 : pc + 1 = pc') (e2 : z_can k pc' L = L') (kk : ∀ x : Int32, z_W d k pc' L' (.int x :: r) μ Q) : z_W d k pc L (.int y :: .ref a :: r) μ Q := by
  have hj : ((c.toNat : Nat) : Int) = c := by omega
  have hm : ∃ x : Int32, z_m0 xs a c.toNat = .int x := by
    unfold z_m0
    rw [if_neg (by omega), if_neg (by omega)]
    split
    · exact ⟨_, rfl⟩
    · exact ⟨_, rfl⟩
  obtain ⟨x, hx⟩ := hm
  exact w_ae H (j := c.toNat) hq hi hr hz (by rw [hy, hj]) ha hrow (by omega) hx e1 e2 (kk x)
theorem w_unk {i : Instr} (H : w_ok xl xs N S T μ) {a t n : Nat} {y : Int32} {c : Int} (hq : z_mth k = some q) (hi : z_at q pc i) (hr : (match i with | .return_ | .ireturn | .lreturn | .areturn | .invokevirtual _ => false | _ => true) = true) (hz : z_step q.2.2.2.2.1 q.2.2.1 (q.1.name == "<init>") i pc L (.int y :: .ref a :: r) μ = z_ld μ t pc L a y r) (hy : y.toInt = c) (h0 : 0 ≤ c) (h1 : c < n) (hrow : (w_row T a).map (fun r => (r.1, r.2.1)) = some (t, n)) (e1 : pc + 1 = pc') (e2 : z_can k pc' L = L') (kk : w_el t (μ.2 a) → z_W d k pc' L' (μ.2 a c.toNat :: r) μ Q) : z_W d k pc L (.int y :: .ref a :: r) μ Q := by
  subst e1
  obtain ⟨rr, hrr, he⟩ := Option.map_eq_some_iff.mp hrow
  obtain ⟨g1, g2, g3, g4⟩ := H.2.2.2.2 a rr hrr
  have he1 : rr.1 = t := (Prod.mk.inj he).1
  have he2 : rr.2.1 = n := (Prod.mk.inj he).2
  have ht : z_tg μ a = t := by unfold z_tg; rw [g2]; exact he1
  have hn : z_n μ a = n := by unfold z_n; rw [g2]; exact he2
  have e : y.toNatClampNeg = c.toNat := by
    show y.toInt.toNat = _
    rw [hy]
  refine w_x (fun _ _ e => ev_s hq hi hr (hz.trans (z_ld_ok ht ?_ (by rw [‹y.toNatClampNeg = c.toNat›]))) e2 e) (kk (by rw [← he1]; exact g3))
  unfold z_in
  rw [hn, decide_eq_true (show 0 ≤ y.toInt by omega), decide_eq_true (show y.toInt < n by omega)]
  rfl
theorem w_alui {i : Instr} (H : w_ok xl xs N S T μ) {a t n : Nat} {y : Int32} {c : Int} (hq : z_mth k = some q) (hi : z_at q pc i) (hr : (match i with | .return_ | .ireturn | .lreturn | .areturn | .invokevirtual _ => false | _ => true) = true) (hz : z_step q.2.2.2.2.1 q.2.2.1 (q.1.name == "<init>") i pc L (.int y :: .ref a :: r) μ = z_ld μ t pc L a y r) (hy : y.toInt = c) (h0 : 0 ≤ c) (h1 : c < n) (hrow : (w_row T a).map (fun r => (r.1, r.2.1)) = some (t, n)) (ht : t = 0 ∨ t = 2) (e1 : pc + 1 = pc') (e2 : z_can k pc' L = L') (kk : ∀ x : Int32, z_W d k pc' L' (.int x :: r) μ Q) : z_W d k pc L (.int y :: .ref a :: r) μ Q :=
  w_unk H hq hi hr hz hy h0 h1 hrow e1 e2 (fun he => by
    obtain ⟨x, hx⟩ := he.1 ht c.toNat
    rw [hx]
    exact kk x)
theorem w_alul {i : Instr} (H : w_ok xl xs N S T μ) {a n : Nat} {y : Int32} {c : Int} (hq : z_mth k = some q) (hi : z_at q pc i) (hr : (match i with | .return_ | .ireturn | .lreturn | .areturn | .invokevirtual _ => false | _ => true) = true) (hz : z_step q.2.2.2.2.1 q.2.2.1 (q.1.name == "<init>") i pc L (.int y :: .ref a :: r) μ = z_ld μ 1 pc L a y r) (hy : y.toInt = c) (h0 : 0 ≤ c) (h1 : c < n) (hrow : (w_row T a).map (fun r => (r.1, r.2.1)) = some (1, n)) (ht : (1 : Nat) = 1) (e1 : pc + 1 = pc') (e2 : z_can k pc' L = L') (kk : ∀ x : Int64, z_W d k pc' L' (.long x :: r) μ Q) : z_W d k pc L (.int y :: .ref a :: r) μ Q :=
  w_unk H hq hi hr hz hy h0 h1 hrow e1 e2 (fun he => by
    obtain ⟨x, hx⟩ := he.2 rfl c.toNat
    rw [hx]
    exact kk x)
def w_kn (c : Int) (r0 : wR) : List (Nat × Value) → Prop
  | [] => True
  | p :: l => ((p.1 : Int) ≠ c ∧ w_at r0 p.1 = some p.2) ∧ w_kn c r0 l
theorem w_kn_n {c : Int} {r0 : wR} : w_kn c r0 [] := trivial
theorem w_kn_c {c : Int} {r0 : wR} {j : Nat} {v : Value} {l : List (Nat × Value)} (h : (j : Int) ≠ c) (h2 : w_at r0 j = some v) (hl : w_kn c r0 l) : w_kn c r0 ((j, v) :: l) := ⟨⟨h, h2⟩, hl⟩
theorem w_kn_mem {c : Int} {r0 : wR} : ∀ {l : List (Nat × Value)}, w_kn c r0 l → ∀ p ∈ l, (p.1 : Int) ≠ c ∧ w_at r0 p.1 = some p.2
  | _ :: _, h, p, hp => by
    rcases List.mem_cons.mp hp with rfl | hp
    · exact h.1
    · exact w_kn_mem h.2 p hp
theorem w_ok.wx (H : w_ok xl xs N S T μ) {a t n j : Nat} {u : Value} {r0 r' : wR} (hrow : (w_row T a).map (fun r => (r, r.1, r.2.1)) = some (r0, t, n)) (hn : r'.1 = t ∧ r'.2.1 = n) (hu : (t = 0 ∨ t = 2 → ∃ x : Int32, u = .int x) ∧ (t = 1 → ∃ x : Int64, u = .long x)) (hk : w_kn j r0 r'.2.2.1) (hd : r'.2.2.2 = none ∨ (r' = r0 ∧ r0.2.2.2 = some u)) (hj : j < n) : 39 ≤ a ∧ z_tg μ a = t ∧ z_n μ a = n ∧ w_ok xl xs N S ((a, r') :: T) (z_wr μ a j u) := by
  obtain ⟨rr, hrr, he⟩ := Option.map_eq_some_iff.mp hrow
  have he0 : rr = r0 := (Prod.mk.inj he).1
  subst he0
  have he1 : rr.1 = t := (Prod.mk.inj (Prod.mk.inj he).2).1
  have he2 : rr.2.1 = n := (Prod.mk.inj (Prod.mk.inj he).2).2
  obtain ⟨H1, H2, H3, H4, H5⟩ := H
  obtain ⟨g1, g2, g3, g4⟩ := H5 a rr hrr
  refine ⟨g1, ?_, ?_, H1, H2, H3, fun b hb => ⟨(H4 b hb).1, fun i => ?_⟩, fun b r2 hb => ?_⟩
  · unfold z_tg; rw [g2]; exact he1
  · unfold z_n; rw [g2]; exact he2
  · show (if b = a then _ else μ.2 b i) = _
    rw [if_neg (by omega)]
    exact (H4 b hb).2 i
  · rw [w_row_cons] at hb
    by_cases hab : a = b
    · subst hab
      rw [if_pos rfl] at hb
      cases hb
      have hw : ∀ i, (z_wr μ a j u).2 a i = if i = j then u else μ.2 a i := fun i => if_pos rfl
      refine ⟨g1, ?_, ⟨fun ht i => ?_, fun ht i => ?_⟩, fun i v hi hv => ?_⟩
      · show μ.1[a]? = _
        rw [g2, he1, he2, hn.1, hn.2]
      · rw [hw]
        split
        · exact hu.1 (by rw [← hn.1]; exact ht)
        · exact g3.1 (by rw [he1, ← hn.1]; exact ht) i
      · rw [hw]
        split
        · exact hu.2 (by rw [← hn.1]; exact ht)
        · exact g3.2 (by rw [he1, ← hn.1]; exact ht) i
      · rw [hw]
        have hi2 : i < rr.2.1 := by rw [he2, ← hn.2]; exact hi
        cases hf : r'.2.2.1.find? (fun p => p.1 == i) with
        | some p =>
          have h1 := List.mem_of_find?_eq_some hf
          have h2 : p.1 = i := by simpa using List.find?_some hf
          have h3 := w_kn_mem hk p h1
          have h4 : v = p.2 := by
            unfold w_at at hv
            rw [hf] at hv
            exact (Option.some.inj hv).symm
          rw [if_neg (by have := h3.1; omega), h4]
          rw [h2] at h3
          exact g4 i p.2 hi2 h3.2
        | none =>
          have hv' : r'.2.2.2 = some v := by
            unfold w_at at hv
            rw [hf] at hv
            exact hv
          rcases hd with hd | ⟨rfl, hd⟩
          · rw [hd] at hv'; cases hv'
          · split
            · rw [hd] at hv'
              exact Option.some.inj hv'
            · exact g4 i v hi2 hv
    · rw [if_neg hab] at hb
      obtain ⟨k1, k2, k3, k4⟩ := H5 b r2 hb
      have e : (z_wr μ a j u).2 b = μ.2 b := funext fun i => if_neg (fun e => hab e.symm)
      exact ⟨k1, k2, by rw [e]; exact k3, by rw [e]; exact k4⟩
theorem w_asx {i : Instr} (H : w_ok xl xs N S T μ) {a t n : Nat} {y : Int32} {c : Int} {u w : Value} {r0 : wR} (r' : wR) (hq : z_mth k = some q) (hi : z_at q pc i) (hr : (match i with | .return_ | .ireturn | .lreturn | .areturn | .invokevirtual _ => false | _ => true) = true) (hz : z_step q.2.2.2.2.1 q.2.2.1 (q.1.name == "<init>") i pc L (w :: .int y :: .ref a :: r) μ = z_sd μ t pc L a y u r) (hu : (t = 0 ∨ t = 2 → ∃ x : Int32, u = .int x) ∧ (t = 1 → ∃ x : Int64, u = .long x)) (hy : y.toInt = c) (h0 : 0 ≤ c) (h1 : c < n) (hrow : (w_row T a).map (fun r => (r, r.1, r.2.1)) = some (r0, t, n)) (hn : r'.1 = t ∧ r'.2.1 = n) (hk : w_kn c r0 r'.2.2.1) (hd : r'.2.2.2 = none ∨ (r' = r0 ∧ r0.2.2.2 = some u)) (e1 : pc + 1 = pc') (e2 : z_can k pc' L = L') (kk : ∀ μ2, w_ok xl xs N S ((a, r') :: T) μ2 → z_W d k pc' L' r μ2 Q) : z_W d k pc L (w :: .int y :: .ref a :: r) μ Q := by
  subst e1
  have hj : ((c.toNat : Nat) : Int) = c := by omega
  obtain ⟨g1, g2, g3, g4⟩ := H.wx (j := c.toNat) hrow hn hu (by rw [hj]; exact hk) hd (by omega)
  have ey : y.toNatClampNeg = c.toNat := by
    show y.toInt.toNat = _
    rw [hy]
  refine w_x (fun _ _ e => ev_s hq hi hr (hz.trans (?_ : z_sd μ t pc L a y u r = some (pc + 1, L, r, z_wr μ a c.toNat u))) e2 e) (kk _ g4)
  rw [← ey]
  unfold z_sd
  rw [if_pos (show zE ≤ a from g1), if_pos g2, if_pos]
  unfold z_in
  rw [g3, decide_eq_true (show 0 ≤ y.toInt by omega), decide_eq_true (show y.toInt < n by omega)]
  rfl
end ZWP
theorem zl_ushr0 (y : Int32) : ((0 : Int64).toUInt64 >>> (y.toInt64.toUInt64 &&& Int64.toUInt64 63)).toInt64 = 0 := by
  have h : (0 : Int64).toUInt64 = 0 := rfl
  rw [h, UInt64.zero_shiftRight]
  rfl
theorem lgc_eq {x y : Int64} (h : x = y) : (lg_cmp x y).toInt = 0 := by
  subst h
  unfold lg_cmp
  simp
theorem lgc_ne {x y : Int64} (h : ¬ x = y) : (lg_cmp x y).toInt ≠ 0 := by
  unfold lg_cmp
  by_cases h1 : y < x
  · rw [if_pos h1]; decide
  · rw [if_neg h1, if_neg h]; decide
theorem z_off_v {lo up dflt off v : Int} {offs : Array Int} {x : Int32} (h : x.toInt = v) (h2 : (if v < lo then some dflt else if up < v then some dflt else offs[(v - lo).toNat]?) = some off) : z_off lo up dflt offs x = some off := by
  unfold z_off
  rw [h]
  exact h2
theorem zi_lit {x y : Int32} {c : Int} (hx : x.toInt = c) (h : c = y.toInt) : x = y := Int32.toInt_inj.mp (hx.trans h)
def z_cI (o : ClassFile.Cond) (a b : Int) : Bool := match o with
  | .eq => decide (a = b)
  | .ne => decide (a ≠ b)
  | .lt => decide (a < b)
  | .ge => decide (b ≤ a)
  | .gt => decide (b < a)
  | .le => decide (a ≤ b)
theorem zc {o : ClassFile.Cond} {x y : Int32} {a b : Int} {v : Bool} (hx : x.toInt = a) (hy : y.toInt = b) (h : z_cI o a b = v) : z_c o x y = v := by
  subst hx hy
  rw [← h]
  cases o
  · exact decide_eq_decide.mpr Int32.toInt_inj.symm
  · exact decide_eq_decide.mpr (not_congr Int32.toInt_inj.symm)
  · exact decide_eq_decide.mpr Int32.lt_iff_toInt_lt
  · exact decide_eq_decide.mpr Int32.le_iff_toInt_le
  · exact decide_eq_decide.mpr Int32.lt_iff_toInt_lt
  · exact decide_eq_decide.mpr Int32.le_iff_toInt_le
theorem zi_bm {c : Int} (h1 : -2147483648 ≤ c) (h2 : c < 2147483648) : c.bmod (2 ^ 32) = c := by
  unfold Int.bmod
  simp only [Nat.reducePow]
  split <;> omega
theorem zi_add {x y : Int32} {a b c : Int} (hx : x.toInt = a) (hy : y.toInt = b) (h1 : -2147483648 ≤ c) (h2 : c < 2147483648) (h : a + b = c) : (x + y).toInt = c := by
  rw [Int32.toInt_add, hx, hy, h, zi_bm h1 h2]
theorem zi_sub {x y : Int32} {a b c : Int} (hx : x.toInt = a) (hy : y.toInt = b) (h1 : -2147483648 ≤ c) (h2 : c < 2147483648) (h : a - b = c) : (x - y).toInt = c := by
  rw [Int32.toInt_sub, hx, hy, h, zi_bm h1 h2]
theorem zi_mul {x y : Int32} {a b c : Int} (hx : x.toInt = a) (hy : y.toInt = b) (h1 : -2147483648 ≤ c) (h2 : c < 2147483648) (h : a * b = c) : (x * y).toInt = c := by
  rw [Int32.toInt_mul, hx, hy, h, zi_bm h1 h2]
theorem zi_neg {x : Int32} {a c : Int} (hx : x.toInt = a) (h1 : -2147483648 ≤ c) (h2 : c < 2147483648) (h : -a = c) : (-x).toInt = c := by
  rw [Int32.toInt_neg, hx, h, zi_bm h1 h2]
theorem zi_bd (x : Int32) : -2147483648 ≤ x.toInt ∧ x.toInt < 2147483648 := by
  have h1 := Int32.le_toInt x
  have h2 := Int32.toInt_lt x
  omega
def w_sub (T : wT) : wT → Prop
  | [] => True
  | p :: r => w_row T p.1 = some p.2 ∧ w_sub T r
theorem w_sub_ok {T : wT} : ∀ {T' : wT}, w_sub T T' → ∀ a r, w_row T' a = some r → w_row T a = some r
  | [], _, a, r, h => by cases h
  | p :: T', hs, a, r, h => by
    rw [w_row_cons] at h
    by_cases hp : p.1 = a
    · rw [if_pos hp] at h
      cases h
      rw [← hp]
      exact hs.1
    · rw [if_neg hp] at h
      exact w_sub_ok hs.2 a r h
def w_inB (r p : wR) : Bool := r.1 == p.1 && r.2.1 == p.2.1 && (List.range p.2.1).all (fun j => match w_at p j with
  | none => true
  | some v => w_at r j == some v)
def w_subB (T T' : wT) : Bool := T'.all (fun p => match w_row T p.1 with
  | some r => if r = p.2 then true else w_inB r p.2
  | none => false)
theorem w_ok.subB {xl : Nat} {xs : Nat → Int32} {N S : Nat} {T T' : wT} {μ : zM} (H : w_ok xl xs N S T μ) (h : w_subB T T' = true) : w_ok xl xs N S T' μ := by
  refine ⟨H.1, H.2.1, H.2.2.1, H.2.2.2.1, fun a r hr => ?_⟩
  have hm : (a, r) ∈ T' := by
    unfold w_row at hr
    obtain ⟨p, hp, rfl⟩ := Option.map_eq_some_iff.mp hr
    have h1 := List.mem_of_find?_eq_some hp
    have h2 : p.1 = a := by simpa using List.find?_some hp
    rw [← h2]
    exact h1
  have h1 := List.all_eq_true.mp h (a, r) hm
  dsimp only at h1
  cases hT : w_row T a with
  | none => rw [hT] at h1; cases h1
  | some r1 =>
    rw [hT] at h1
    dsimp only at h1
    obtain ⟨k1, k2, k3, k4⟩ := H.2.2.2.2 a r1 hT
    by_cases he : r1 = r
    · rw [← he]
      exact ⟨k1, k2, k3, k4⟩
    · rw [if_neg he] at h1
      unfold w_inB at h1
      rw [Bool.and_eq_true, Bool.and_eq_true] at h1
      obtain ⟨⟨e1, e2⟩, e3⟩ := h1
      have e1 : r1.1 = r.1 := by simpa using e1
      have e2 : r1.2.1 = r.2.1 := by simpa using e2
      refine ⟨k1, by rw [← e1, ← e2]; exact k2, by rw [← e1]; exact k3, fun j v hj hv => ?_⟩
      have e4 := List.all_eq_true.mp e3 j (List.mem_range.mpr hj)
      rw [hv] at e4
      have e5 : w_at r1 j = some v := by simpa using e4
      exact k4 j v (by rw [e2]; exact hj) e5
theorem w_start (L : Nat) (xs : Nat → Int32) : w_ok L xs 39 0 [] (z_mu0 L xs) :=
  ⟨(show (z_sh0 L).length = 39 from z_sh0_len), by omega, Nat.le_refl _, fun _ _ => ⟨rfl, fun _ => rfl⟩, fun _ _ h => by cases h⟩
theorem h_m0 : z_mth 0 = some z_r0 := rfl
theorem h_m1 : z_mth 1 = some z_r1 := rfl
theorem h_m2 : z_mth 2 = some z_r2 := rfl
theorem h_m3 : z_mth 3 = some z_r3 := rfl
theorem h_m4 : z_mth 4 = some z_r4 := rfl
theorem h_m5 : z_mth 5 = some z_r5 := rfl
theorem h_m6 : z_mth 6 = some z_r6 := rfl
theorem h_m7 : z_mth 7 = some z_r7 := rfl
theorem h_m8 : z_mth 8 = some z_r8 := rfl
theorem h_m9 : z_mth 9 = some z_r9 := rfl
theorem h_m10 : z_mth 10 = some z_r10 := rfl
theorem h_m11 : z_mth 11 = some z_r11 := rfl
theorem h_m12 : z_mth 12 = some z_r12 := rfl
theorem h_m13 : z_mth 13 = some z_r13 := rfl
theorem h_m14 : z_mth 14 = some z_r14 := rfl
theorem h_m15 : z_mth 15 = some z_r15 := rfl
theorem h_m16 : z_mth 16 = some z_r16 := rfl
theorem h_m17 : z_mth 17 = some z_r17 := rfl
theorem h_m18 : z_mth 18 = some z_r18 := rfl
theorem h_m19 : z_mth 19 = some z_r19 := rfl
theorem h_m20 : z_mth 20 = some z_r20 := rfl
theorem h_m21 : z_mth 21 = some z_r21 := rfl
theorem h_m22 : z_mth 22 = some z_r22 := rfl
theorem h_m23 : z_mth 23 = some z_r23 := rfl
theorem h_m24 : z_mth 24 = some z_r24 := rfl
theorem h_m25 : z_mth 25 = some z_r25 := rfl
theorem h_m26 : z_mth 26 = some z_r26 := rfl
theorem h_m27 : z_mth 27 = some z_r27 := rfl
theorem h_m28 : z_mth 28 = some z_r28 := rfl
theorem h_m29 : z_mth 29 = some z_r29 := rfl
theorem h_m30 : z_mth 30 = some z_r30 := rfl
theorem h_m31 : z_mth 31 = some z_r31 := rfl
theorem h_m32 : z_mth 32 = some z_r32 := rfl
theorem h_m33 : z_mth 33 = some z_r33 := rfl
theorem h_m34 : z_mth 34 = some z_r34 := rfl
theorem h_m35 : z_mth 35 = some z_r35 := rfl
theorem h_m36 : z_mth 36 = some z_r36 := rfl
theorem h_m37 : z_mth 37 = some z_r37 := rfl
theorem h_m38 : z_mth 38 = some z_r38 := rfl
theorem h_m39 : z_mth 39 = some z_r39 := rfl
theorem h_m40 : z_mth 40 = some z_r40 := rfl
theorem h_m41 : z_mth 41 = some z_r41 := rfl
theorem h_m42 : z_mth 42 = some z_r42 := rfl
theorem h_m43 : z_mth 43 = some z_r43 := rfl
theorem h_m44 : z_mth 44 = some z_r44 := rfl
theorem h_m45 : z_mth 45 = some z_r45 := rfl
theorem h_m46 : z_mth 46 = some z_r46 := rfl
theorem h_m47 : z_mth 47 = some z_r47 := rfl
theorem h_m48 : z_mth 48 = some z_r48 := rfl
theorem h_m49 : z_mth 49 = some z_r49 := rfl
theorem h_m50 : z_mth 50 = some z_r50 := rfl
theorem h_m51 : z_mth 51 = some z_r51 := rfl
theorem h_m52 : z_mth 52 = some z_r52 := rfl
theorem h_m53 : z_mth 53 = some z_r53 := rfl
theorem h_m54 : z_mth 54 = some z_r54 := rfl
theorem h_m55 : z_mth 55 = some z_r55 := rfl
theorem h_m56 : z_mth 56 = some z_r56 := rfl
theorem h_m57 : z_mth 57 = some z_r57 := rfl
theorem h_m58 : z_mth 58 = some z_r58 := rfl
theorem h_m59 : z_mth 59 = some z_r59 := rfl
theorem h_m60 : z_mth 60 = some z_r60 := rfl
theorem h_m61 : z_mth 61 = some z_r61 := rfl
theorem h_m62 : z_mth 62 = some z_r62 := rfl
theorem h_m63 : z_mth 63 = some z_r63 := rfl
theorem h_m64 : z_mth 64 = some z_r64 := rfl
theorem h_m65 : z_mth 65 = some z_r65 := rfl
theorem h_m66 : z_mth 66 = some z_r66 := rfl
theorem h_m67 : z_mth 67 = some z_r67 := rfl
theorem h_m68 : z_mth 68 = some z_r68 := rfl
theorem h_m69 : z_mth 69 = some z_r69 := rfl
theorem h_m70 : z_mth 70 = some z_r70 := rfl
theorem h_m71 : z_mth 71 = some z_r71 := rfl
theorem h_m72 : z_mth 72 = some z_r72 := rfl
theorem h_m73 : z_mth 73 = some z_r73 := rfl
theorem h_m74 : z_mth 74 = some z_r74 := rfl
theorem h_m75 : z_mth 75 = some z_r75 := rfl
theorem h_m76 : z_mth 76 = some z_r76 := rfl
theorem h_m77 : z_mth 77 = some z_r77 := rfl
theorem h_m78 : z_mth 78 = some z_r78 := rfl
theorem h_m79 : z_mth 79 = some z_r79 := rfl
theorem h_m80 : z_mth 80 = some z_r80 := rfl
theorem h_m81 : z_mth 81 = some z_r81 := rfl
theorem h_m82 : z_mth 82 = some z_r82 := rfl
theorem h_m83 : z_mth 83 = some z_r83 := rfl
theorem h_m84 : z_mth 84 = some z_r84 := rfl
theorem h_m85 : z_mth 85 = some z_r85 := rfl
theorem h_m86 : z_mth 86 = some z_r86 := rfl
theorem h_m87 : z_mth 87 = some z_r87 := rfl
theorem h_m88 : z_mth 88 = some z_r88 := rfl
theorem h_m89 : z_mth 89 = some z_r89 := rfl
theorem h_m90 : z_mth 90 = some z_r90 := rfl
theorem h_m91 : z_mth 91 = some z_r91 := rfl
theorem h_m92 : z_mth 92 = some z_r92 := rfl
theorem h_m93 : z_mth 93 = some z_r93 := rfl
theorem h_m94 : z_mth 94 = some z_r94 := rfl
theorem h_m95 : z_mth 95 = some z_r95 := rfl
theorem h_m96 : z_mth 96 = some z_r96 := rfl
theorem h_m97 : z_mth 97 = some z_r97 := rfl
theorem h_m98 : z_mth 98 = some z_r98 := rfl
theorem h_m99 : z_mth 99 = some z_r99 := rfl
theorem h_m100 : z_mth 100 = some z_r100 := rfl
theorem h_m101 : z_mth 101 = some z_r101 := rfl
theorem h_m102 : z_mth 102 = some z_r102 := rfl
theorem h_m103 : z_mth 103 = some z_r103 := rfl
theorem h_m104 : z_mth 104 = some z_r104 := rfl
theorem h_m105 : z_mth 105 = some z_r105 := rfl
theorem h_m106 : z_mth 106 = some z_r106 := rfl
theorem h_m107 : z_mth 107 = some z_r107 := rfl
theorem h_m108 : z_mth 108 = some z_r108 := rfl
theorem h_m109 : z_mth 109 = some z_r109 := rfl
theorem h_m110 : z_mth 110 = some z_r110 := rfl
theorem h_m111 : z_mth 111 = some z_r111 := rfl
theorem h_m112 : z_mth 112 = some z_r112 := rfl
theorem h_m113 : z_mth 113 = some z_r113 := rfl
theorem h_m114 : z_mth 114 = some z_r114 := rfl
theorem h_m115 : z_mth 115 = some z_r115 := rfl
theorem h_m116 : z_mth 116 = some z_r116 := rfl
theorem h_m117 : z_mth 117 = some z_r117 := rfl
theorem h_m118 : z_mth 118 = some z_r118 := rfl
theorem h_m119 : z_mth 119 = some z_r119 := rfl
theorem h_m120 : z_mth 120 = some z_r120 := rfl
theorem h_m121 : z_mth 121 = some z_r121 := rfl
theorem h_m122 : z_mth 122 = some z_r122 := rfl
theorem h_m123 : z_mth 123 = some z_r123 := rfl
theorem h_m124 : z_mth 124 = some z_r124 := rfl
theorem h_m125 : z_mth 125 = some z_r125 := rfl
theorem h_m126 : z_mth 126 = some z_r126 := rfl
theorem h_m127 : z_mth 127 = some z_r127 := rfl
theorem h_m128 : z_mth 128 = some z_r128 := rfl
theorem h_m129 : z_mth 129 = some z_r129 := rfl
theorem h_m130 : z_mth 130 = some z_r130 := rfl
theorem h_m131 : z_mth 131 = some z_r131 := rfl
theorem h_m132 : z_mth 132 = some z_r132 := rfl
theorem h_m133 : z_mth 133 = some z_r133 := rfl
theorem h_m134 : z_mth 134 = some z_r134 := rfl
theorem h_m135 : z_mth 135 = some z_r135 := rfl
theorem h_m136 : z_mth 136 = some z_r136 := rfl
theorem h_m137 : z_mth 137 = some z_r137 := rfl
theorem h_m138 : z_mth 138 = some z_r138 := rfl
theorem h_m139 : z_mth 139 = some z_r139 := rfl
theorem h_m140 : z_mth 140 = some z_r140 := rfl
theorem h_m141 : z_mth 141 = some z_r141 := rfl
theorem h_m142 : z_mth 142 = some z_r142 := rfl
theorem h_m143 : z_mth 143 = some z_r143 := rfl
theorem h_m144 : z_mth 144 = some z_r144 := rfl
theorem h_m145 : z_mth 145 = some z_r145 := rfl
theorem h_m146 : z_mth 146 = some z_r146 := rfl
theorem h_m147 : z_mth 147 = some z_r147 := rfl
theorem h_m148 : z_mth 148 = some z_r148 := rfl
theorem h_m149 : z_mth 149 = some z_r149 := rfl
theorem h_m150 : z_mth 150 = some z_r150 := rfl
theorem h_m151 : z_mth 151 = some z_r151 := rfl
theorem h_m152 : z_mth 152 = some z_r152 := rfl
theorem h_m153 : z_mth 153 = some z_r153 := rfl
theorem h_m154 : z_mth 154 = some z_r154 := rfl
theorem h_m155 : z_mth 155 = some z_r155 := rfl
theorem h_m156 : z_mth 156 = some z_r156 := rfl
theorem h_m157 : z_mth 157 = some z_r157 := rfl
theorem h_m158 : z_mth 158 = some z_r158 := rfl
theorem h_m159 : z_mth 159 = some z_r159 := rfl
theorem h_m160 : z_mth 160 = some z_r160 := rfl
theorem h_m161 : z_mth 161 = some z_r161 := rfl
theorem h_m162 : z_mth 162 = some z_r162 := rfl
theorem h_m163 : z_mth 163 = some z_r163 := rfl
theorem h_m164 : z_mth 164 = some z_r164 := rfl
theorem h_m165 : z_mth 165 = some z_r165 := rfl
theorem h_m166 : z_mth 166 = some z_r166 := rfl
theorem h_m167 : z_mth 167 = some z_r167 := rfl
theorem h_m168 : z_mth 168 = some z_r168 := rfl
theorem h_m169 : z_mth 169 = some z_r169 := rfl
theorem h_m170 : z_mth 170 = some z_r170 := rfl
theorem h_m171 : z_mth 171 = some z_r171 := rfl
theorem h_m172 : z_mth 172 = some z_r172 := rfl
theorem h_m173 : z_mth 173 = some z_r173 := rfl
theorem h_m174 : z_mth 174 = some z_r174 := rfl
theorem h_m175 : z_mth 175 = some z_r175 := rfl
theorem h_m176 : z_mth 176 = some z_r176 := rfl
theorem h_m177 : z_mth 177 = some z_r177 := rfl
theorem h_m178 : z_mth 178 = some z_r178 := rfl
theorem h_m179 : z_mth 179 = some z_r179 := rfl
theorem h_m180 : z_mth 180 = some z_r180 := rfl
theorem h_m181 : z_mth 181 = some z_r181 := rfl
theorem h_m182 : z_mth 182 = some z_r182 := rfl
theorem h_m183 : z_mth 183 = some z_r183 := rfl
theorem h_m184 : z_mth 184 = some z_r184 := rfl
theorem h_m185 : z_mth 185 = some z_r185 := rfl
theorem h_m186 : z_mth 186 = some z_r186 := rfl
theorem h_m187 : z_mth 187 = some z_r187 := rfl
theorem h_m188 : z_mth 188 = some z_r188 := rfl
theorem h_m189 : z_mth 189 = some z_r189 := rfl
theorem h_m190 : z_mth 190 = some z_r190 := rfl
theorem h_m191 : z_mth 191 = some z_r191 := rfl
theorem h_m192 : z_mth 192 = some z_r192 := rfl
theorem h_m193 : z_mth 193 = some z_r193 := rfl
theorem h_m194 : z_mth 194 = some z_r194 := rfl
theorem h_m195 : z_mth 195 = some z_r195 := rfl
theorem h_m196 : z_mth 196 = some z_r196 := rfl
theorem h_m197 : z_mth 197 = some z_r197 := rfl
theorem h_m198 : z_mth 198 = some z_r198 := rfl
theorem h_m199 : z_mth 199 = some z_r199 := rfl
theorem h_m200 : z_mth 200 = some z_r200 := rfl
theorem h_m201 : z_mth 201 = some z_r201 := rfl
theorem h_m202 : z_mth 202 = some z_r202 := rfl
theorem h_m203 : z_mth 203 = some z_r203 := rfl
theorem h_m204 : z_mth 204 = some z_r204 := rfl
theorem h_m205 : z_mth 205 = some z_r205 := rfl
theorem h_m206 : z_mth 206 = some z_r206 := rfl
theorem h_m207 : z_mth 207 = some z_r207 := rfl
theorem h_m208 : z_mth 208 = some z_r208 := rfl
theorem h_m209 : z_mth 209 = some z_r209 := rfl
theorem h_m210 : z_mth 210 = some z_r210 := rfl
theorem h_m211 : z_mth 211 = some z_r211 := rfl
theorem h_m212 : z_mth 212 = some z_r212 := rfl
theorem h_m213 : z_mth 213 = some z_r213 := rfl
theorem h_m214 : z_mth 214 = some z_r214 := rfl
theorem h_m215 : z_mth 215 = some z_r215 := rfl
theorem h_m216 : z_mth 216 = some z_r216 := rfl
theorem h_m217 : z_mth 217 = some z_r217 := rfl
theorem h_m218 : z_mth 218 = some z_r218 := rfl
theorem h_m219 : z_mth 219 = some z_r219 := rfl
theorem h_m220 : z_mth 220 = some z_r220 := rfl
theorem h_m221 : z_mth 221 = some z_r221 := rfl
theorem h_m222 : z_mth 222 = some z_r222 := rfl
theorem h_m223 : z_mth 223 = some z_r223 := rfl
theorem h_m224 : z_mth 224 = some z_r224 := rfl
theorem h_m225 : z_mth 225 = some z_r225 := rfl
theorem h_m226 : z_mth 226 = some z_r226 := rfl
theorem h_m227 : z_mth 227 = some z_r227 := rfl
theorem h_m228 : z_mth 228 = some z_r228 := rfl
theorem h_m229 : z_mth 229 = some z_r229 := rfl
theorem h_m230 : z_mth 230 = some z_r230 := rfl
theorem h_m231 : z_mth 231 = some z_r231 := rfl
theorem h_m232 : z_mth 232 = some z_r232 := rfl
theorem h_m233 : z_mth 233 = some z_r233 := rfl
theorem h_m234 : z_mth 234 = some z_r234 := rfl
theorem h_m235 : z_mth 235 = some z_r235 := rfl
theorem h_m236 : z_mth 236 = some z_r236 := rfl
theorem h_m237 : z_mth 237 = some z_r237 := rfl
theorem h_m238 : z_mth 238 = some z_r238 := rfl
theorem h_m239 : z_mth 239 = some z_r239 := rfl
theorem h_m240 : z_mth 240 = some z_r240 := rfl
theorem h_m241 : z_mth 241 = some z_r241 := rfl
theorem h_m242 : z_mth 242 = some z_r242 := rfl
theorem h_m243 : z_mth 243 = some z_r243 := rfl
theorem h_m244 : z_mth 244 = some z_r244 := rfl
theorem h_m245 : z_mth 245 = some z_r245 := rfl
theorem h_m246 : z_mth 246 = some z_r246 := rfl
theorem h_m247 : z_mth 247 = some z_r247 := rfl
theorem h_m248 : z_mth 248 = some z_r248 := rfl
theorem h_m249 : z_mth 249 = some z_r249 := rfl
theorem h_m250 : z_mth 250 = some z_r250 := rfl
theorem h_m251 : z_mth 251 = some z_r251 := rfl
theorem h_m252 : z_mth 252 = some z_r252 := rfl
theorem h_m253 : z_mth 253 = some z_r253 := rfl
theorem h_m254 : z_mth 254 = some z_r254 := rfl
theorem h_m255 : z_mth 255 = some z_r255 := rfl
theorem h_m256 : z_mth 256 = some z_r256 := rfl
theorem h_m257 : z_mth 257 = some z_r257 := rfl
theorem h_m258 : z_mth 258 = some z_r258 := rfl
theorem h_m259 : z_mth 259 = some z_r259 := rfl
theorem h_m260 : z_mth 260 = some z_r260 := rfl
theorem h_m261 : z_mth 261 = some z_r261 := rfl
theorem h_m262 : z_mth 262 = some z_r262 := rfl
theorem h_m263 : z_mth 263 = some z_r263 := rfl
theorem h_m264 : z_mth 264 = some z_r264 := rfl
theorem h_m265 : z_mth 265 = some z_r265 := rfl
theorem h_m266 : z_mth 266 = some z_r266 := rfl
theorem h_m267 : z_mth 267 = some z_r267 := rfl
theorem h_m268 : z_mth 268 = some z_r268 := rfl
theorem h_m269 : z_mth 269 = some z_r269 := rfl
theorem h_m270 : z_mth 270 = some z_r270 := rfl
theorem h_m271 : z_mth 271 = some z_r271 := rfl
theorem h_m272 : z_mth 272 = some z_r272 := rfl
theorem h_m273 : z_mth 273 = some z_r273 := rfl
theorem h_m274 : z_mth 274 = some z_r274 := rfl
theorem h_m275 : z_mth 275 = some z_r275 := rfl
theorem h_m276 : z_mth 276 = some z_r276 := rfl
theorem h_m277 : z_mth 277 = some z_r277 := rfl
theorem h_m278 : z_mth 278 = some z_r278 := rfl
theorem h_m279 : z_mth 279 = some z_r279 := rfl
theorem h_m280 : z_mth 280 = some z_r280 := rfl
theorem h_m281 : z_mth 281 = some z_r281 := rfl
theorem h_m282 : z_mth 282 = some z_r282 := rfl
theorem h_m283 : z_mth 283 = some z_r283 := rfl
theorem h_m284 : z_mth 284 = some z_r284 := rfl
theorem h_m285 : z_mth 285 = some z_r285 := rfl
theorem h_m286 : z_mth 286 = some z_r286 := rfl
theorem h_m287 : z_mth 287 = some z_r287 := rfl
theorem h_m288 : z_mth 288 = some z_r288 := rfl
theorem h_m289 : z_mth 289 = some z_r289 := rfl
theorem h_m290 : z_mth 290 = some z_r290 := rfl
theorem h_m291 : z_mth 291 = some z_r291 := rfl
theorem h_m292 : z_mth 292 = some z_r292 := rfl
theorem h_m293 : z_mth 293 = some z_r293 := rfl
theorem h_m294 : z_mth 294 = some z_r294 := rfl
theorem h_m295 : z_mth 295 = some z_r295 := rfl
theorem h_m296 : z_mth 296 = some z_r296 := rfl
theorem h_m297 : z_mth 297 = some z_r297 := rfl
theorem h_m298 : z_mth 298 = some z_r298 := rfl
theorem h_m299 : z_mth 299 = some z_r299 := rfl
theorem h_m300 : z_mth 300 = some z_r300 := rfl
theorem h_m301 : z_mth 301 = some z_r301 := rfl
theorem h_m302 : z_mth 302 = some z_r302 := rfl
theorem h_m303 : z_mth 303 = some z_r303 := rfl
theorem h_m304 : z_mth 304 = some z_r304 := rfl
theorem h_m305 : z_mth 305 = some z_r305 := rfl
theorem h_m306 : z_mth 306 = some z_r306 := rfl
theorem h_m307 : z_mth 307 = some z_r307 := rfl
theorem h_m308 : z_mth 308 = some z_r308 := rfl
theorem h_m309 : z_mth 309 = some z_r309 := rfl
theorem h_m310 : z_mth 310 = some z_r310 := rfl
theorem h_m311 : z_mth 311 = some z_r311 := rfl
theorem h_m312 : z_mth 312 = some z_r312 := rfl
theorem h_m313 : z_mth 313 = some z_r313 := rfl
theorem h_m314 : z_mth 314 = some z_r314 := rfl
theorem h_m315 : z_mth 315 = some z_r315 := rfl
theorem h_m316 : z_mth 316 = some z_r316 := rfl
theorem h_m317 : z_mth 317 = some z_r317 := rfl
theorem h_m318 : z_mth 318 = some z_r318 := rfl
theorem h_m1000 : z_mth 1000 = some z_rL := rfl
end
section
/-! 15.ctor -/
/-! THE ROAD OF THE CONSTRUCTORS (by wip/px_gen.py) -/
def w_T0 : wT := [(39, (21, 14, [(13, .ref 134), (12, .ref 133), (11, .ref 131), (10, .ref 129), (9, .int (0 : Int32)), (8, .ref 128), (7, .ref 126), (6, .ref 122), (5, .ref 120), (4, .ref 118), (3, .ref 106), (2, .int (0 : Int32)), (1, .ref 73), (0, .ref 40)], none)), (40, (17, 5, [(4, .ref 65), (3, .ref 63), (2, .ref 60), (1, .ref 48), (0, .ref 41)], none)), (41, (18, 7, [(6, .ref 47), (5, .ref 46), (4, .int (0 : Int32)), (3, .ref 45), (2, .ref 44), (1, .ref 43), (0, .ref 42)], none)), (42, (0, 60, [], some (.int (0 : Int32)))), (43, (0, 60, [], some (.int (0 : Int32)))), (44, (1, 60, [], some (.long (0 : Int64)))), (45, (0, 60, [], some (.int (0 : Int32)))), (46, (1, 33, [], some (.long (0 : Int64)))), (47, (1, 33, [], some (.long (0 : Int64)))), (48, (12, 18, [(0, .ref 41), (17, .ref 58), (16, .ref 56), (15, .int (0 : Int32)), (14, .int (0 : Int32)), (13, .int (0 : Int32)), (12, .int (0 : Int32)), (11, .int (0 : Int32)), (10, .int (0 : Int32)), (9, .long (0 : Int64)), (8, .int (0 : Int32)), (7, .ref 55), (6, .ref 54), (5, .ref 53), (4, .ref 52), (3, .ref 51), (2, .int (0 : Int32)), (1, .ref 49)], none)), (49, (16, 1, [(0, .ref 50)], none)), (50, (0, 7, [(6, .int (1024 : Int32)), (5, .int (1 : Int32)), (4, .int (1 : Int32)), (3, .int (0 : Int32)), (2, .int (12 : Int32)), (1, .int (40 : Int32)), (0, .int (10 : Int32))], some (.int (0 : Int32)))), (51, (0, 181, [], some (.int (0 : Int32)))), (52, (0, 181, [], some (.int (0 : Int32)))), (53, (0, 181, [], some (.int (0 : Int32)))), (54, (0, 181, [], some (.int (0 : Int32)))), (55, (1, 181, [], some (.long (0 : Int64)))), (56, (11, 2, [(0, .ref 57), (1, .int (0 : Int32))], none)), (57, (0, 169, [], some (.int (0 : Int32)))), (58, (11, 2, [(0, .ref 59), (1, .int (0 : Int32))], none)), (59, (0, 169, [], some (.int (0 : Int32)))), (60, (13, 3, [(2, .int (0 : Int32)), (1, .ref 62), (0, .ref 61)], none)), (61, (0, 60, [], some (.int (0 : Int32)))), (62, (1, 60, [], some (.long (0 : Int64)))), (63, (11, 2, [(0, .ref 64), (1, .int (0 : Int32))], none)), (64, (0, 10, [], some (.int (0 : Int32)))), (65, (20, 6, [(5, .int (0 : Int32)), (4, .ref 70), (3, .ref 69), (2, .ref 68), (1, .ref 67), (0, .ref 66)], none)), (66, (0, 6, [], some (.int (0 : Int32)))), (67, (0, 6, [], some (.int (0 : Int32)))), (68, (0, 6, [], some (.int (0 : Int32)))), (69, (1, 6, [], some (.long (0 : Int64)))), (70, (13, 3, [(2, .int (0 : Int32)), (1, .ref 72), (0, .ref 71)], none)), (71, (0, 60, [], some (.int (0 : Int32)))), (72, (1, 60, [], some (.long (0 : Int64)))), (73, (17, 5, [(4, .ref 98), (3, .ref 96), (2, .ref 93), (1, .ref 81), (0, .ref 74)], none)), (74, (18, 7, [(6, .ref 80), (5, .ref 79), (4, .int (0 : Int32)), (3, .ref 78), (2, .ref 77), (1, .ref 76), (0, .ref 75)], none)), (75, (0, 60, [], some (.int (0 : Int32)))), (76, (0, 60, [], some (.int (0 : Int32)))), (77, (1, 60, [], some (.long (0 : Int64)))), (78, (0, 60, [], some (.int (0 : Int32)))), (79, (1, 33, [], some (.long (0 : Int64)))), (80, (1, 33, [], some (.long (0 : Int64)))), (81, (12, 18, [(0, .ref 74), (17, .ref 91), (16, .ref 89), (15, .int (0 : Int32)), (14, .int (0 : Int32)), (13, .int (0 : Int32)), (12, .int (0 : Int32)), (11, .int (0 : Int32)), (10, .int (0 : Int32)), (9, .long (0 : Int64)), (8, .int (0 : Int32)), (7, .ref 88), (6, .ref 87), (5, .ref 86), (4, .ref 85), (3, .ref 84), (2, .int (0 : Int32)), (1, .ref 82)], none)), (82, (16, 1, [(0, .ref 83)], none)), (83, (0, 7, [(6, .int (1024 : Int32)), (5, .int (1 : Int32)), (4, .int (1 : Int32)), (3, .int (0 : Int32)), (2, .int (12 : Int32)), (1, .int (40 : Int32)), (0, .int (10 : Int32))], some (.int (0 : Int32)))), (84, (0, 181, [], some (.int (0 : Int32)))), (85, (0, 181, [], some (.int (0 : Int32)))), (86, (0, 181, [], some (.int (0 : Int32)))), (87, (0, 181, [], some (.int (0 : Int32)))), (88, (1, 181, [], some (.long (0 : Int64)))), (89, (11, 2, [(0, .ref 90), (1, .int (0 : Int32))], none)), (90, (0, 169, [], some (.int (0 : Int32)))), (91, (11, 2, [(0, .ref 92), (1, .int (0 : Int32))], none)), (92, (0, 169, [], some (.int (0 : Int32)))), (93, (13, 3, [(2, .int (0 : Int32)), (1, .ref 95), (0, .ref 94)], none)), (94, (0, 60, [], some (.int (0 : Int32)))), (95, (1, 60, [], some (.long (0 : Int64)))), (96, (11, 2, [(0, .ref 97), (1, .int (0 : Int32))], none)), (97, (0, 10, [], some (.int (0 : Int32)))), (98, (20, 6, [(5, .int (0 : Int32)), (4, .ref 103), (3, .ref 102), (2, .ref 101), (1, .ref 100), (0, .ref 99)], none)), (99, (0, 6, [], some (.int (0 : Int32)))), (100, (0, 6, [], some (.int (0 : Int32)))), (101, (0, 6, [], some (.int (0 : Int32)))), (102, (1, 6, [], some (.long (0 : Int64)))), (103, (13, 3, [(2, .int (0 : Int32)), (1, .ref 105), (0, .ref 104)], none)), (104, (0, 60, [], some (.int (0 : Int32)))), (105, (1, 60, [], some (.long (0 : Int64)))), (106, (12, 18, [(0, .ref 41), (17, .ref 116), (16, .ref 114), (15, .int (0 : Int32)), (14, .int (0 : Int32)), (13, .int (0 : Int32)), (12, .int (0 : Int32)), (11, .int (0 : Int32)), (10, .int (0 : Int32)), (9, .long (0 : Int64)), (8, .int (0 : Int32)), (7, .ref 113), (6, .ref 112), (5, .ref 111), (4, .ref 110), (3, .ref 109), (2, .int (0 : Int32)), (1, .ref 107)], none)), (107, (16, 1, [(0, .ref 108)], none)), (108, (0, 7, [(6, .int (1024 : Int32)), (5, .int (1 : Int32)), (4, .int (1 : Int32)), (3, .int (0 : Int32)), (2, .int (12 : Int32)), (1, .int (40 : Int32)), (0, .int (10 : Int32))], some (.int (0 : Int32)))), (109, (0, 181, [], some (.int (0 : Int32)))), (110, (0, 181, [], some (.int (0 : Int32)))), (111, (0, 181, [], some (.int (0 : Int32)))), (112, (0, 181, [], some (.int (0 : Int32)))), (113, (1, 181, [], some (.long (0 : Int64)))), (114, (11, 2, [(0, .ref 115), (1, .int (0 : Int32))], none)), (115, (0, 169, [], some (.int (0 : Int32)))), (116, (11, 2, [(0, .ref 117), (1, .int (0 : Int32))], none)), (117, (0, 169, [], some (.int (0 : Int32)))), (118, (16, 1, [(0, .ref 119)], none)), (119, (0, 7, [(6, .int (1024 : Int32)), (5, .int (1 : Int32)), (4, .int (1 : Int32)), (3, .int (0 : Int32)), (2, .int (12 : Int32)), (1, .int (40 : Int32)), (0, .int (10 : Int32))], some (.int (0 : Int32)))), (120, (19, 4, [(3, .int (-1 : Int32)), (2, .int (0 : Int32)), (1, .int (0 : Int32)), (0, .ref 121)], none)), (121, (2, 160, [], some (.int (0 : Int32)))), (122, (15, 6, [(1, .ref 41), (0, .ref 120), (5, .int (0 : Int32)), (4, .ref 125), (3, .ref 124), (2, .ref 123)], none)), (123, (0, 8, [], some (.int (0 : Int32)))), (124, (0, 8, [], some (.int (0 : Int32)))), (125, (1, 8, [], some (.long (0 : Int64)))), (126, (11, 2, [(0, .ref 127), (1, .int (0 : Int32))], none)), (127, (0, 12, [], some (.int (0 : Int32)))), (128, (1, 8, [], some (.long (0 : Int64)))), (129, (23, 4, [(1, .int (0 : Int32)), (0, .ref 130), (2, .int (0 : Int32)), (3, .int (0 : Int32))], none)), (130, (2, 16, [], some (.int (0 : Int32)))), (131, (11, 2, [(0, .ref 132), (1, .int (0 : Int32))], none)), (132, (0, 181, [], some (.int (0 : Int32)))), (133, (0, 181, [], some (.int (0 : Int32)))), (134, (14, 2, [(1, .ref 142), (0, .ref 135)], none)), (135, (3, 6, [(0, .ref 136), (1, .ref 137), (2, .ref 138), (3, .ref 139), (4, .ref 140), (5, .ref 141)], none)), (136, (1, 60, [], some (.long (0 : Int64)))), (137, (1, 60, [], some (.long (0 : Int64)))), (138, (1, 60, [], some (.long (0 : Int64)))), (139, (1, 60, [], some (.long (0 : Int64)))), (140, (1, 60, [], some (.long (0 : Int64)))), (141, (1, 60, [], some (.long (0 : Int64)))), (142, (0, 6, [], some (.int (-1 : Int32)))), (143, (22, 35, [(34, .ref 167), (33, .ref 166), (31, .ref 165), (30, .ref 164), (28, .ref 163), (26, .ref 162), (25, .ref 161), (24, .ref 160), (19, .ref 159), (18, .ref 158), (17, .ref 157), (16, .ref 156), (13, .ref 155), (12, .ref 154), (11, .ref 153), (9, .ref 152), (8, .ref 151), (7, .ref 150), (5, .ref 149), (4, .ref 148), (3, .ref 147), (2, .ref 146), (1, .ref 145), (0, .ref 144), (6, .int (0 : Int32)), (10, .int (0 : Int32)), (14, .int (0 : Int32)), (15, .int (0 : Int32)), (20, .int (0 : Int32)), (21, .int (0 : Int32)), (22, .int (0 : Int32)), (23, .int (0 : Int32)), (27, .int (0 : Int32)), (29, .int (0 : Int32)), (32, .int (0 : Int32))], none)), (144, (0, 2740, [(17, .int (1024 : Int32)), (16, .int (1 : Int32)), (15, .int (1 : Int32)), (13, .int (12 : Int32)), (12, .int (40 : Int32)), (11, .int (10 : Int32))], some (.int (0 : Int32)))), (145, (0, 2740, [], some (.int (0 : Int32)))), (146, (0, 2740, [], some (.int (0 : Int32)))), (147, (1, 361, [], some (.long (0 : Int64)))), (148, (1, 361, [], some (.long (0 : Int64)))), (149, (1, 361, [], some (.long (0 : Int64)))), (150, (0, 2400, [], some (.int (0 : Int32)))), (151, (0, 2400, [], some (.int (0 : Int32)))), (152, (0, 4, [], some (.int (0 : Int32)))), (153, (0, 4, [], some (.int (0 : Int32)))), (154, (0, 60, [], some (.int (0 : Int32)))), (155, (1, 60, [], some (.long (0 : Int64)))), (156, (0, 10, [], some (.int (0 : Int32)))), (157, (0, 4, [], some (.int (0 : Int32)))), (158, (1, 6, [], some (.long (0 : Int64)))), (159, (0, 160, [], some (.int (0 : Int32)))), (160, (0, 7, [], some (.int (0 : Int32)))), (161, (0, 48, [], some (.int (0 : Int32)))), (162, (1, 8, [], some (.long (0 : Int64)))), (163, (0, 40000, [], some (.int (0 : Int32)))), (164, (0, 48, [], some (.int (0 : Int32)))), (165, (0, 3000, [], some (.int (0 : Int32)))), (166, (0, 6, [], some (.int (-1 : Int32)))), (167, (1, 360, [], some (.long (0 : Int64))))]
set_option maxHeartbeats 40000000 in
set_option maxRecDepth 20000 in
theorem w_ctor {L : Nat} {xs : Nat → Int32} {Q : Option Value → zM → Prop} (hQ : ∀ m, w_ok L xs 168 63950 w_T0 m → z_W 1000 1000 18 [(0, .ref 0), (1, .ref 39), (2, .ref 143), (3, .int (0 : Int32))] [] m Q) : z_W 1000 1000 0 [(0, .ref 0)] [] (z_mu0 L xs) Q := by
  have H := w_start L xs
  generalize z_mu0 L xs = m at H ⊢
  refine w_nw H (21, 14, [(0, .null), (1, .null), (2, .int (0 : Int32)), (3, .null), (4, .null), (5, .null), (6, .null), (7, .null), (8, .null), (9, .int (0 : Int32)), (10, .null), (11, .null), (12, .null), (13, .null)], none) (N' := 40) (S' := 14) (pc' := 3) (L' := [(0, .ref 0)]) h_m1000 (z_at.mk 3 rfl rfl) rfl rfl rfl rfl rfl rfl ?_
  clear H m; intro m H
  refine w_p h_m1000 1 (pc' := 4) (L' := [(0, .ref 0)]) (st' := [.ref 39, .ref 39]) rfl ?_
  refine w_cs (As := [.ref 39]) (rest := [.ref 39]) (j := 114) (L0 := [(0, .ref 39)]) (pc' := 7) (L' := [(0, .ref 0)]) h_m1000 (z_at.mk 3 rfl rfl) (Or.inr ⟨rfl, rfl⟩) rfl rfl rfl rfl rfl ?_
  refine w_p h_m114 3 (pc' := 5) (L' := [(0, .ref 39)]) (st' := [.ref 39]) rfl ?_
  refine w_nw H (17, 5, [(0, .null), (1, .null), (2, .null), (3, .null), (4, .null)], none) (N' := 41) (S' := 19) (pc' := 8) (L' := [(0, .ref 39)]) h_m114 (z_at.mk 3 rfl rfl) rfl rfl rfl rfl rfl rfl ?_
  clear H m; intro m H
  refine w_p h_m114 1 (pc' := 9) (L' := [(0, .ref 39)]) (st' := [.ref 40, .ref 40, .ref 39]) rfl ?_
  refine w_cs (As := [.ref 40]) (rest := [.ref 40, .ref 39]) (j := 77) (L0 := [(0, .ref 40)]) (pc' := 12) (L' := [(0, .ref 39)]) h_m114 (z_at.mk 3 rfl rfl) (Or.inr ⟨rfl, rfl⟩) rfl rfl rfl rfl rfl ?_
  refine w_p h_m77 3 (pc' := 5) (L' := [(0, .ref 40)]) (st' := [.ref 40]) rfl ?_
  refine w_nw H (18, 7, [(0, .null), (1, .null), (2, .null), (3, .null), (4, .int (0 : Int32)), (5, .null), (6, .null)], none) (N' := 42) (S' := 26) (pc' := 8) (L' := [(0, .ref 40)]) h_m77 (z_at.mk 3 rfl rfl) rfl rfl rfl rfl rfl rfl ?_
  clear H m; intro m H
  refine w_p h_m77 1 (pc' := 9) (L' := [(0, .ref 40)]) (st' := [.ref 41, .ref 41, .ref 40]) rfl ?_
  refine w_cs (As := [.ref 41]) (rest := [.ref 41, .ref 40]) (j := 79) (L0 := [(0, .ref 41)]) (pc' := 12) (L' := [(0, .ref 40)]) h_m77 (z_at.mk 3 rfl rfl) (Or.inr ⟨rfl, rfl⟩) rfl rfl rfl rfl rfl ?_
  refine w_p h_m79 4 (pc' := 7) (L' := [(0, .ref 41)]) (st' := [.int (60 : Int32), .ref 41]) rfl ?_
  refine w_na H (ti := 0) (n := 60) (.int (0 : Int32)) (N' := 43) (S' := 86) (pc' := 9) (L' := [(0, .ref 41)]) h_m79 (z_at.mk 2 rfl rfl) rfl (by decide) rfl (by decide) rfl rfl rfl rfl rfl ?_
  clear H m; intro m H
  refine w_pf H (18, 7, [(0, .ref 42), (1, .null), (2, .null), (3, .null), (4, .int (0 : Int32)), (5, .null), (6, .null)], none) (pc' := 12) (L' := [(0, .ref 41)]) h_m79 (z_at.mk 3 rfl rfl) rfl (by decide) rfl (Or.inr ⟨rfl, rfl, by decide⟩) rfl rfl rfl ?_
  clear H m; intro m H
  refine w_p h_m79 2 (pc' := 15) (L' := [(0, .ref 41)]) (st' := [.int (60 : Int32), .ref 41]) rfl ?_
  refine w_na H (ti := 0) (n := 60) (.int (0 : Int32)) (N' := 44) (S' := 146) (pc' := 17) (L' := [(0, .ref 41)]) h_m79 (z_at.mk 2 rfl rfl) rfl (by decide) rfl (by decide) rfl rfl rfl rfl rfl ?_
  clear H m; intro m H
  refine w_pf H (18, 7, [(1, .ref 43), (0, .ref 42), (2, .null), (3, .null), (4, .int (0 : Int32)), (5, .null), (6, .null)], none) (pc' := 20) (L' := [(0, .ref 41)]) h_m79 (z_at.mk 3 rfl rfl) rfl (by decide) rfl (Or.inr ⟨rfl, rfl, by decide⟩) rfl rfl rfl ?_
  clear H m; intro m H
  refine w_p h_m79 2 (pc' := 23) (L' := [(0, .ref 41)]) (st' := [.int (60 : Int32), .ref 41]) rfl ?_
  refine w_na H (ti := 1) (n := 60) (.long (0 : Int64)) (N' := 45) (S' := 206) (pc' := 25) (L' := [(0, .ref 41)]) h_m79 (z_at.mk 2 rfl rfl) rfl (by decide) rfl (by decide) rfl rfl rfl rfl rfl ?_
  clear H m; intro m H
  refine w_pf H (18, 7, [(2, .ref 44), (1, .ref 43), (0, .ref 42), (3, .null), (4, .int (0 : Int32)), (5, .null), (6, .null)], none) (pc' := 28) (L' := [(0, .ref 41)]) h_m79 (z_at.mk 3 rfl rfl) rfl (by decide) rfl (Or.inr ⟨rfl, rfl, by decide⟩) rfl rfl rfl ?_
  clear H m; intro m H
  refine w_p h_m79 2 (pc' := 31) (L' := [(0, .ref 41)]) (st' := [.int (60 : Int32), .ref 41]) rfl ?_
  refine w_na H (ti := 0) (n := 60) (.int (0 : Int32)) (N' := 46) (S' := 266) (pc' := 33) (L' := [(0, .ref 41)]) h_m79 (z_at.mk 2 rfl rfl) rfl (by decide) rfl (by decide) rfl rfl rfl rfl rfl ?_
  clear H m; intro m H
  refine w_pf H (18, 7, [(3, .ref 45), (2, .ref 44), (1, .ref 43), (0, .ref 42), (4, .int (0 : Int32)), (5, .null), (6, .null)], none) (pc' := 36) (L' := [(0, .ref 41)]) h_m79 (z_at.mk 3 rfl rfl) rfl (by decide) rfl (Or.inr ⟨rfl, rfl, by decide⟩) rfl rfl rfl ?_
  clear H m; intro m H
  refine w_p h_m79 2 (pc' := 38) (L' := [(0, .ref 41)]) (st' := [.int (0 : Int32), .ref 41]) rfl ?_
  refine w_pf H (18, 7, [(4, .int (0 : Int32)), (3, .ref 45), (2, .ref 44), (1, .ref 43), (0, .ref 42), (5, .null), (6, .null)], none) (pc' := 41) (L' := [(0, .ref 41)]) h_m79 (z_at.mk 3 rfl rfl) rfl (by decide) rfl (Or.inl rfl) rfl rfl rfl ?_
  clear H m; intro m H
  refine w_p h_m79 2 (pc' := 44) (L' := [(0, .ref 41)]) (st' := [.int (33 : Int32), .ref 41]) rfl ?_
  refine w_na H (ti := 1) (n := 33) (.long (0 : Int64)) (N' := 47) (S' := 299) (pc' := 46) (L' := [(0, .ref 41)]) h_m79 (z_at.mk 2 rfl rfl) rfl (by decide) rfl (by decide) rfl rfl rfl rfl rfl ?_
  clear H m; intro m H
  refine w_pf H (18, 7, [(5, .ref 46), (4, .int (0 : Int32)), (3, .ref 45), (2, .ref 44), (1, .ref 43), (0, .ref 42), (6, .null)], none) (pc' := 49) (L' := [(0, .ref 41)]) h_m79 (z_at.mk 3 rfl rfl) rfl (by decide) rfl (Or.inr ⟨rfl, rfl, by decide⟩) rfl rfl rfl ?_
  clear H m; intro m H
  refine w_p h_m79 2 (pc' := 52) (L' := [(0, .ref 41)]) (st' := [.int (33 : Int32), .ref 41]) rfl ?_
  refine w_na H (ti := 1) (n := 33) (.long (0 : Int64)) (N' := 48) (S' := 332) (pc' := 54) (L' := [(0, .ref 41)]) h_m79 (z_at.mk 2 rfl rfl) rfl (by decide) rfl (by decide) rfl rfl rfl rfl rfl ?_
  clear H m; intro m H
  refine w_pf H (18, 7, [(6, .ref 47), (5, .ref 46), (4, .int (0 : Int32)), (3, .ref 45), (2, .ref 44), (1, .ref 43), (0, .ref 42)], none) (pc' := 57) (L' := [(0, .ref 41)]) h_m79 (z_at.mk 3 rfl rfl) rfl (by decide) rfl (Or.inr ⟨rfl, rfl, by decide⟩) rfl rfl rfl ?_
  clear H m; intro m H
  refine w_rv h_m79 (z_at.mk 1 rfl rfl) rfl ?_
  show z_W 998 77 12 [(0, .ref 40)] [.ref 41, .ref 40] m _
  refine w_pf H (17, 5, [(0, .ref 41), (1, .null), (2, .null), (3, .null), (4, .null)], none) (pc' := 15) (L' := [(0, .ref 40)]) h_m77 (z_at.mk 3 rfl rfl) rfl (by decide) rfl (Or.inr ⟨rfl, rfl, by decide⟩) rfl rfl rfl ?_
  clear H m; intro m H
  refine w_p h_m77 1 (pc' := 16) (L' := [(0, .ref 40)]) (st' := [.ref 40]) rfl ?_
  refine w_nw H (12, 18, [(0, .null), (1, .null), (2, .int (0 : Int32)), (3, .null), (4, .null), (5, .null), (6, .null), (7, .null), (8, .int (0 : Int32)), (9, .long (0 : Int64)), (10, .int (0 : Int32)), (11, .int (0 : Int32)), (12, .int (0 : Int32)), (13, .int (0 : Int32)), (14, .int (0 : Int32)), (15, .int (0 : Int32)), (16, .null), (17, .null)], none) (N' := 49) (S' := 350) (pc' := 19) (L' := [(0, .ref 40)]) h_m77 (z_at.mk 3 rfl rfl) rfl rfl rfl rfl rfl rfl ?_
  clear H m; intro m H
  refine w_p h_m77 2 (pc' := 21) (L' := [(0, .ref 40)]) (st' := [.ref 40, .ref 48, .ref 48, .ref 40]) rfl ?_
  refine w_gf H (pc' := 24) (L' := [(0, .ref 40)]) h_m77 (z_at.mk 3 rfl rfl) rfl (u := .ref 41) rfl rfl rfl ?_
  refine w_cs (As := [.ref 48, .ref 41]) (rest := [.ref 48, .ref 40]) (j := 19) (L0 := [(0, .ref 48), (1, .ref 41)]) (pc' := 27) (L' := [(0, .ref 40)]) h_m77 (z_at.mk 3 rfl rfl) (Or.inr ⟨rfl, rfl⟩) rfl rfl rfl rfl rfl ?_
  refine w_p h_m19 3 (pc' := 5) (L' := [(0, .ref 48), (1, .ref 41)]) (st' := [.ref 48]) rfl ?_
  refine w_nw H (16, 1, [(0, .null)], none) (N' := 50) (S' := 351) (pc' := 8) (L' := [(0, .ref 48), (1, .ref 41)]) h_m19 (z_at.mk 3 rfl rfl) rfl rfl rfl rfl rfl rfl ?_
  clear H m; intro m H
  refine w_p h_m19 1 (pc' := 9) (L' := [(0, .ref 48), (1, .ref 41)]) (st' := [.ref 49, .ref 49, .ref 48]) rfl ?_
  refine w_cs (As := [.ref 49]) (rest := [.ref 49, .ref 48]) (j := 71) (L0 := [(0, .ref 49)]) (pc' := 12) (L' := [(0, .ref 48), (1, .ref 41)]) h_m19 (z_at.mk 3 rfl rfl) (Or.inr ⟨rfl, rfl⟩) rfl rfl rfl rfl rfl ?_
  refine w_p h_m71 4 (pc' := 7) (L' := [(0, .ref 49)]) (st' := [.int (7 : Int32), .ref 49]) rfl ?_
  refine w_na H (ti := 0) (n := 7) (.int (0 : Int32)) (N' := 51) (S' := 358) (pc' := 9) (L' := [(0, .ref 49)]) h_m71 (z_at.mk 2 rfl rfl) rfl (by decide) rfl (by decide) rfl rfl rfl rfl rfl ?_
  clear H m; intro m H
  refine w_pf H (16, 1, [(0, .ref 50)], none) (pc' := 12) (L' := [(0, .ref 49)]) h_m71 (z_at.mk 3 rfl rfl) rfl (by decide) rfl (Or.inr ⟨rfl, rfl, by decide⟩) rfl rfl rfl ?_
  clear H m; intro m H
  refine w_p h_m71 1 (pc' := 13) (L' := [(0, .ref 49)]) (st' := [.ref 49]) rfl ?_
  refine w_gf H (pc' := 16) (L' := [(0, .ref 49)]) h_m71 (z_at.mk 3 rfl rfl) rfl (u := .ref 50) rfl rfl rfl ?_
  refine w_p h_m71 2 (pc' := 19) (L' := [(0, .ref 49)]) (st' := [.int (10 : Int32), .int (0 : Int32), .ref 50]) rfl ?_
  refine w_as H (t := 0) (j := 0) (u := .int (10 : Int32)) (0, 7, [(0, .int (10 : Int32))], some (.int (0 : Int32))) (pc' := 20) (L' := [(0, .ref 49)]) h_m71 (z_at.mk 1 rfl rfl) rfl rfl (w_ui _ _ (by decide)) rfl rfl rfl rfl ?_
  clear H m; intro m H
  refine w_p h_m71 1 (pc' := 21) (L' := [(0, .ref 49)]) (st' := [.ref 49]) rfl ?_
  refine w_gf H (pc' := 24) (L' := [(0, .ref 49)]) h_m71 (z_at.mk 3 rfl rfl) rfl (u := .ref 50) rfl rfl rfl ?_
  refine w_p h_m71 2 (pc' := 27) (L' := [(0, .ref 49)]) (st' := [.int (40 : Int32), .int (1 : Int32), .ref 50]) rfl ?_
  refine w_as H (t := 0) (j := 1) (u := .int (40 : Int32)) (0, 7, [(1, .int (40 : Int32)), (0, .int (10 : Int32))], some (.int (0 : Int32))) (pc' := 28) (L' := [(0, .ref 49)]) h_m71 (z_at.mk 1 rfl rfl) rfl rfl (w_ui _ _ (by decide)) rfl rfl rfl rfl ?_
  clear H m; intro m H
  refine w_p h_m71 1 (pc' := 29) (L' := [(0, .ref 49)]) (st' := [.ref 49]) rfl ?_
  refine w_gf H (pc' := 32) (L' := [(0, .ref 49)]) h_m71 (z_at.mk 3 rfl rfl) rfl (u := .ref 50) rfl rfl rfl ?_
  refine w_p h_m71 2 (pc' := 35) (L' := [(0, .ref 49)]) (st' := [.int (12 : Int32), .int (2 : Int32), .ref 50]) rfl ?_
  refine w_as H (t := 0) (j := 2) (u := .int (12 : Int32)) (0, 7, [(2, .int (12 : Int32)), (1, .int (40 : Int32)), (0, .int (10 : Int32))], some (.int (0 : Int32))) (pc' := 36) (L' := [(0, .ref 49)]) h_m71 (z_at.mk 1 rfl rfl) rfl rfl (w_ui _ _ (by decide)) rfl rfl rfl rfl ?_
  clear H m; intro m H
  refine w_p h_m71 1 (pc' := 37) (L' := [(0, .ref 49)]) (st' := [.ref 49]) rfl ?_
  refine w_gf H (pc' := 40) (L' := [(0, .ref 49)]) h_m71 (z_at.mk 3 rfl rfl) rfl (u := .ref 50) rfl rfl rfl ?_
  refine w_p h_m71 2 (pc' := 42) (L' := [(0, .ref 49)]) (st' := [.int (0 : Int32), .int (3 : Int32), .ref 50]) rfl ?_
  refine w_as H (t := 0) (j := 3) (u := .int (0 : Int32)) (0, 7, [(3, .int (0 : Int32)), (2, .int (12 : Int32)), (1, .int (40 : Int32)), (0, .int (10 : Int32))], some (.int (0 : Int32))) (pc' := 43) (L' := [(0, .ref 49)]) h_m71 (z_at.mk 1 rfl rfl) rfl rfl (w_ui _ _ (by decide)) rfl rfl rfl rfl ?_
  clear H m; intro m H
  refine w_p h_m71 1 (pc' := 44) (L' := [(0, .ref 49)]) (st' := [.ref 49]) rfl ?_
  refine w_gf H (pc' := 47) (L' := [(0, .ref 49)]) h_m71 (z_at.mk 3 rfl rfl) rfl (u := .ref 50) rfl rfl rfl ?_
  refine w_p h_m71 2 (pc' := 49) (L' := [(0, .ref 49)]) (st' := [.int (1 : Int32), .int (4 : Int32), .ref 50]) rfl ?_
  refine w_as H (t := 0) (j := 4) (u := .int (1 : Int32)) (0, 7, [(4, .int (1 : Int32)), (3, .int (0 : Int32)), (2, .int (12 : Int32)), (1, .int (40 : Int32)), (0, .int (10 : Int32))], some (.int (0 : Int32))) (pc' := 50) (L' := [(0, .ref 49)]) h_m71 (z_at.mk 1 rfl rfl) rfl rfl (w_ui _ _ (by decide)) rfl rfl rfl rfl ?_
  clear H m; intro m H
  refine w_p h_m71 1 (pc' := 51) (L' := [(0, .ref 49)]) (st' := [.ref 49]) rfl ?_
  refine w_gf H (pc' := 54) (L' := [(0, .ref 49)]) h_m71 (z_at.mk 3 rfl rfl) rfl (u := .ref 50) rfl rfl rfl ?_
  refine w_p h_m71 2 (pc' := 56) (L' := [(0, .ref 49)]) (st' := [.int (1 : Int32), .int (5 : Int32), .ref 50]) rfl ?_
  refine w_as H (t := 0) (j := 5) (u := .int (1 : Int32)) (0, 7, [(5, .int (1 : Int32)), (4, .int (1 : Int32)), (3, .int (0 : Int32)), (2, .int (12 : Int32)), (1, .int (40 : Int32)), (0, .int (10 : Int32))], some (.int (0 : Int32))) (pc' := 57) (L' := [(0, .ref 49)]) h_m71 (z_at.mk 1 rfl rfl) rfl rfl (w_ui _ _ (by decide)) rfl rfl rfl rfl ?_
  clear H m; intro m H
  refine w_p h_m71 1 (pc' := 58) (L' := [(0, .ref 49)]) (st' := [.ref 49]) rfl ?_
  refine w_gf H (pc' := 61) (L' := [(0, .ref 49)]) h_m71 (z_at.mk 3 rfl rfl) rfl (u := .ref 50) rfl rfl rfl ?_
  refine w_p h_m71 2 (pc' := 66) (L' := [(0, .ref 49)]) (st' := [.int (1024 : Int32), .int (6 : Int32), .ref 50]) rfl ?_
  refine w_as H (t := 0) (j := 6) (u := .int (1024 : Int32)) (0, 7, [(6, .int (1024 : Int32)), (5, .int (1 : Int32)), (4, .int (1 : Int32)), (3, .int (0 : Int32)), (2, .int (12 : Int32)), (1, .int (40 : Int32)), (0, .int (10 : Int32))], some (.int (0 : Int32))) (pc' := 67) (L' := [(0, .ref 49)]) h_m71 (z_at.mk 1 rfl rfl) rfl rfl (w_ui _ _ (by decide)) rfl rfl rfl rfl ?_
  clear H m; intro m H
  refine w_rv h_m71 (z_at.mk 1 rfl rfl) rfl ?_
  show z_W 997 19 12 [(0, .ref 48), (1, .ref 41)] [.ref 49, .ref 48] m _
  refine w_pf H (12, 18, [(1, .ref 49), (0, .null), (2, .int (0 : Int32)), (3, .null), (4, .null), (5, .null), (6, .null), (7, .null), (8, .int (0 : Int32)), (9, .long (0 : Int64)), (10, .int (0 : Int32)), (11, .int (0 : Int32)), (12, .int (0 : Int32)), (13, .int (0 : Int32)), (14, .int (0 : Int32)), (15, .int (0 : Int32)), (16, .null), (17, .null)], none) (pc' := 15) (L' := [(0, .ref 48), (1, .ref 41)]) h_m19 (z_at.mk 3 rfl rfl) rfl (by decide) rfl (Or.inr ⟨rfl, rfl, by decide⟩) rfl rfl rfl ?_
  clear H m; intro m H
  refine w_p h_m19 2 (pc' := 17) (L' := [(0, .ref 48), (1, .ref 41)]) (st' := [.int (0 : Int32), .ref 48]) rfl ?_
  refine w_pf H (12, 18, [(2, .int (0 : Int32)), (1, .ref 49), (0, .null), (3, .null), (4, .null), (5, .null), (6, .null), (7, .null), (8, .int (0 : Int32)), (9, .long (0 : Int64)), (10, .int (0 : Int32)), (11, .int (0 : Int32)), (12, .int (0 : Int32)), (13, .int (0 : Int32)), (14, .int (0 : Int32)), (15, .int (0 : Int32)), (16, .null), (17, .null)], none) (pc' := 20) (L' := [(0, .ref 48), (1, .ref 41)]) h_m19 (z_at.mk 3 rfl rfl) rfl (by decide) rfl (Or.inl rfl) rfl rfl rfl ?_
  clear H m; intro m H
  refine w_p h_m19 2 (pc' := 24) (L' := [(0, .ref 48), (1, .ref 41)]) (st' := [.int (181 : Int32), .ref 48]) rfl ?_
  refine w_na H (ti := 0) (n := 181) (.int (0 : Int32)) (N' := 52) (S' := 539) (pc' := 26) (L' := [(0, .ref 48), (1, .ref 41)]) h_m19 (z_at.mk 2 rfl rfl) rfl (by decide) rfl (by decide) rfl rfl rfl rfl rfl ?_
  clear H m; intro m H
  refine w_pf H (12, 18, [(3, .ref 51), (2, .int (0 : Int32)), (1, .ref 49), (0, .null), (4, .null), (5, .null), (6, .null), (7, .null), (8, .int (0 : Int32)), (9, .long (0 : Int64)), (10, .int (0 : Int32)), (11, .int (0 : Int32)), (12, .int (0 : Int32)), (13, .int (0 : Int32)), (14, .int (0 : Int32)), (15, .int (0 : Int32)), (16, .null), (17, .null)], none) (pc' := 29) (L' := [(0, .ref 48), (1, .ref 41)]) h_m19 (z_at.mk 3 rfl rfl) rfl (by decide) rfl (Or.inr ⟨rfl, rfl, by decide⟩) rfl rfl rfl ?_
  clear H m; intro m H
  refine w_p h_m19 2 (pc' := 33) (L' := [(0, .ref 48), (1, .ref 41)]) (st' := [.int (181 : Int32), .ref 48]) rfl ?_
  refine w_na H (ti := 0) (n := 181) (.int (0 : Int32)) (N' := 53) (S' := 720) (pc' := 35) (L' := [(0, .ref 48), (1, .ref 41)]) h_m19 (z_at.mk 2 rfl rfl) rfl (by decide) rfl (by decide) rfl rfl rfl rfl rfl ?_
  clear H m; intro m H
  refine w_pf H (12, 18, [(4, .ref 52), (3, .ref 51), (2, .int (0 : Int32)), (1, .ref 49), (0, .null), (5, .null), (6, .null), (7, .null), (8, .int (0 : Int32)), (9, .long (0 : Int64)), (10, .int (0 : Int32)), (11, .int (0 : Int32)), (12, .int (0 : Int32)), (13, .int (0 : Int32)), (14, .int (0 : Int32)), (15, .int (0 : Int32)), (16, .null), (17, .null)], none) (pc' := 38) (L' := [(0, .ref 48), (1, .ref 41)]) h_m19 (z_at.mk 3 rfl rfl) rfl (by decide) rfl (Or.inr ⟨rfl, rfl, by decide⟩) rfl rfl rfl ?_
  clear H m; intro m H
  refine w_p h_m19 2 (pc' := 42) (L' := [(0, .ref 48), (1, .ref 41)]) (st' := [.int (181 : Int32), .ref 48]) rfl ?_
  refine w_na H (ti := 0) (n := 181) (.int (0 : Int32)) (N' := 54) (S' := 901) (pc' := 44) (L' := [(0, .ref 48), (1, .ref 41)]) h_m19 (z_at.mk 2 rfl rfl) rfl (by decide) rfl (by decide) rfl rfl rfl rfl rfl ?_
  clear H m; intro m H
  refine w_pf H (12, 18, [(5, .ref 53), (4, .ref 52), (3, .ref 51), (2, .int (0 : Int32)), (1, .ref 49), (0, .null), (6, .null), (7, .null), (8, .int (0 : Int32)), (9, .long (0 : Int64)), (10, .int (0 : Int32)), (11, .int (0 : Int32)), (12, .int (0 : Int32)), (13, .int (0 : Int32)), (14, .int (0 : Int32)), (15, .int (0 : Int32)), (16, .null), (17, .null)], none) (pc' := 47) (L' := [(0, .ref 48), (1, .ref 41)]) h_m19 (z_at.mk 3 rfl rfl) rfl (by decide) rfl (Or.inr ⟨rfl, rfl, by decide⟩) rfl rfl rfl ?_
  clear H m; intro m H
  refine w_p h_m19 2 (pc' := 51) (L' := [(0, .ref 48), (1, .ref 41)]) (st' := [.int (181 : Int32), .ref 48]) rfl ?_
  refine w_na H (ti := 0) (n := 181) (.int (0 : Int32)) (N' := 55) (S' := 1082) (pc' := 53) (L' := [(0, .ref 48), (1, .ref 41)]) h_m19 (z_at.mk 2 rfl rfl) rfl (by decide) rfl (by decide) rfl rfl rfl rfl rfl ?_
  clear H m; intro m H
  refine w_pf H (12, 18, [(6, .ref 54), (5, .ref 53), (4, .ref 52), (3, .ref 51), (2, .int (0 : Int32)), (1, .ref 49), (0, .null), (7, .null), (8, .int (0 : Int32)), (9, .long (0 : Int64)), (10, .int (0 : Int32)), (11, .int (0 : Int32)), (12, .int (0 : Int32)), (13, .int (0 : Int32)), (14, .int (0 : Int32)), (15, .int (0 : Int32)), (16, .null), (17, .null)], none) (pc' := 56) (L' := [(0, .ref 48), (1, .ref 41)]) h_m19 (z_at.mk 3 rfl rfl) rfl (by decide) rfl (Or.inr ⟨rfl, rfl, by decide⟩) rfl rfl rfl ?_
  clear H m; intro m H
  refine w_p h_m19 2 (pc' := 60) (L' := [(0, .ref 48), (1, .ref 41)]) (st' := [.int (181 : Int32), .ref 48]) rfl ?_
  refine w_na H (ti := 1) (n := 181) (.long (0 : Int64)) (N' := 56) (S' := 1263) (pc' := 62) (L' := [(0, .ref 48), (1, .ref 41)]) h_m19 (z_at.mk 2 rfl rfl) rfl (by decide) rfl (by decide) rfl rfl rfl rfl rfl ?_
  clear H m; intro m H
  refine w_pf H (12, 18, [(7, .ref 55), (6, .ref 54), (5, .ref 53), (4, .ref 52), (3, .ref 51), (2, .int (0 : Int32)), (1, .ref 49), (0, .null), (8, .int (0 : Int32)), (9, .long (0 : Int64)), (10, .int (0 : Int32)), (11, .int (0 : Int32)), (12, .int (0 : Int32)), (13, .int (0 : Int32)), (14, .int (0 : Int32)), (15, .int (0 : Int32)), (16, .null), (17, .null)], none) (pc' := 65) (L' := [(0, .ref 48), (1, .ref 41)]) h_m19 (z_at.mk 3 rfl rfl) rfl (by decide) rfl (Or.inr ⟨rfl, rfl, by decide⟩) rfl rfl rfl ?_
  clear H m; intro m H
  refine w_p h_m19 2 (pc' := 67) (L' := [(0, .ref 48), (1, .ref 41)]) (st' := [.int (0 : Int32), .ref 48]) rfl ?_
  refine w_pf H (12, 18, [(8, .int (0 : Int32)), (7, .ref 55), (6, .ref 54), (5, .ref 53), (4, .ref 52), (3, .ref 51), (2, .int (0 : Int32)), (1, .ref 49), (0, .null), (9, .long (0 : Int64)), (10, .int (0 : Int32)), (11, .int (0 : Int32)), (12, .int (0 : Int32)), (13, .int (0 : Int32)), (14, .int (0 : Int32)), (15, .int (0 : Int32)), (16, .null), (17, .null)], none) (pc' := 70) (L' := [(0, .ref 48), (1, .ref 41)]) h_m19 (z_at.mk 3 rfl rfl) rfl (by decide) rfl (Or.inl rfl) rfl rfl rfl ?_
  clear H m; intro m H
  refine w_p h_m19 2 (pc' := 72) (L' := [(0, .ref 48), (1, .ref 41)]) (st' := [.long (0 : Int64), .ref 48]) rfl ?_
  refine w_pf H (12, 18, [(9, .long (0 : Int64)), (8, .int (0 : Int32)), (7, .ref 55), (6, .ref 54), (5, .ref 53), (4, .ref 52), (3, .ref 51), (2, .int (0 : Int32)), (1, .ref 49), (0, .null), (10, .int (0 : Int32)), (11, .int (0 : Int32)), (12, .int (0 : Int32)), (13, .int (0 : Int32)), (14, .int (0 : Int32)), (15, .int (0 : Int32)), (16, .null), (17, .null)], none) (pc' := 75) (L' := [(0, .ref 48), (1, .ref 41)]) h_m19 (z_at.mk 3 rfl rfl) rfl (by decide) rfl (Or.inl rfl) rfl rfl rfl ?_
  clear H m; intro m H
  refine w_p h_m19 2 (pc' := 77) (L' := [(0, .ref 48), (1, .ref 41)]) (st' := [.int (0 : Int32), .ref 48]) rfl ?_
  refine w_pf H (12, 18, [(10, .int (0 : Int32)), (9, .long (0 : Int64)), (8, .int (0 : Int32)), (7, .ref 55), (6, .ref 54), (5, .ref 53), (4, .ref 52), (3, .ref 51), (2, .int (0 : Int32)), (1, .ref 49), (0, .null), (11, .int (0 : Int32)), (12, .int (0 : Int32)), (13, .int (0 : Int32)), (14, .int (0 : Int32)), (15, .int (0 : Int32)), (16, .null), (17, .null)], none) (pc' := 80) (L' := [(0, .ref 48), (1, .ref 41)]) h_m19 (z_at.mk 3 rfl rfl) rfl (by decide) rfl (Or.inl rfl) rfl rfl rfl ?_
  clear H m; intro m H
  refine w_p h_m19 2 (pc' := 82) (L' := [(0, .ref 48), (1, .ref 41)]) (st' := [.int (0 : Int32), .ref 48]) rfl ?_
  refine w_pf H (12, 18, [(11, .int (0 : Int32)), (10, .int (0 : Int32)), (9, .long (0 : Int64)), (8, .int (0 : Int32)), (7, .ref 55), (6, .ref 54), (5, .ref 53), (4, .ref 52), (3, .ref 51), (2, .int (0 : Int32)), (1, .ref 49), (0, .null), (12, .int (0 : Int32)), (13, .int (0 : Int32)), (14, .int (0 : Int32)), (15, .int (0 : Int32)), (16, .null), (17, .null)], none) (pc' := 85) (L' := [(0, .ref 48), (1, .ref 41)]) h_m19 (z_at.mk 3 rfl rfl) rfl (by decide) rfl (Or.inl rfl) rfl rfl rfl ?_
  clear H m; intro m H
  refine w_p h_m19 2 (pc' := 87) (L' := [(0, .ref 48), (1, .ref 41)]) (st' := [.int (0 : Int32), .ref 48]) rfl ?_
  refine w_pf H (12, 18, [(12, .int (0 : Int32)), (11, .int (0 : Int32)), (10, .int (0 : Int32)), (9, .long (0 : Int64)), (8, .int (0 : Int32)), (7, .ref 55), (6, .ref 54), (5, .ref 53), (4, .ref 52), (3, .ref 51), (2, .int (0 : Int32)), (1, .ref 49), (0, .null), (13, .int (0 : Int32)), (14, .int (0 : Int32)), (15, .int (0 : Int32)), (16, .null), (17, .null)], none) (pc' := 90) (L' := [(0, .ref 48), (1, .ref 41)]) h_m19 (z_at.mk 3 rfl rfl) rfl (by decide) rfl (Or.inl rfl) rfl rfl rfl ?_
  clear H m; intro m H
  refine w_p h_m19 2 (pc' := 92) (L' := [(0, .ref 48), (1, .ref 41)]) (st' := [.int (0 : Int32), .ref 48]) rfl ?_
  refine w_pf H (12, 18, [(13, .int (0 : Int32)), (12, .int (0 : Int32)), (11, .int (0 : Int32)), (10, .int (0 : Int32)), (9, .long (0 : Int64)), (8, .int (0 : Int32)), (7, .ref 55), (6, .ref 54), (5, .ref 53), (4, .ref 52), (3, .ref 51), (2, .int (0 : Int32)), (1, .ref 49), (0, .null), (14, .int (0 : Int32)), (15, .int (0 : Int32)), (16, .null), (17, .null)], none) (pc' := 95) (L' := [(0, .ref 48), (1, .ref 41)]) h_m19 (z_at.mk 3 rfl rfl) rfl (by decide) rfl (Or.inl rfl) rfl rfl rfl ?_
  clear H m; intro m H
  refine w_p h_m19 2 (pc' := 97) (L' := [(0, .ref 48), (1, .ref 41)]) (st' := [.int (0 : Int32), .ref 48]) rfl ?_
  refine w_pf H (12, 18, [(14, .int (0 : Int32)), (13, .int (0 : Int32)), (12, .int (0 : Int32)), (11, .int (0 : Int32)), (10, .int (0 : Int32)), (9, .long (0 : Int64)), (8, .int (0 : Int32)), (7, .ref 55), (6, .ref 54), (5, .ref 53), (4, .ref 52), (3, .ref 51), (2, .int (0 : Int32)), (1, .ref 49), (0, .null), (15, .int (0 : Int32)), (16, .null), (17, .null)], none) (pc' := 100) (L' := [(0, .ref 48), (1, .ref 41)]) h_m19 (z_at.mk 3 rfl rfl) rfl (by decide) rfl (Or.inl rfl) rfl rfl rfl ?_
  clear H m; intro m H
  refine w_p h_m19 2 (pc' := 102) (L' := [(0, .ref 48), (1, .ref 41)]) (st' := [.int (0 : Int32), .ref 48]) rfl ?_
  refine w_pf H (12, 18, [(15, .int (0 : Int32)), (14, .int (0 : Int32)), (13, .int (0 : Int32)), (12, .int (0 : Int32)), (11, .int (0 : Int32)), (10, .int (0 : Int32)), (9, .long (0 : Int64)), (8, .int (0 : Int32)), (7, .ref 55), (6, .ref 54), (5, .ref 53), (4, .ref 52), (3, .ref 51), (2, .int (0 : Int32)), (1, .ref 49), (0, .null), (16, .null), (17, .null)], none) (pc' := 105) (L' := [(0, .ref 48), (1, .ref 41)]) h_m19 (z_at.mk 3 rfl rfl) rfl (by decide) rfl (Or.inl rfl) rfl rfl rfl ?_
  clear H m; intro m H
  refine w_p h_m19 1 (pc' := 106) (L' := [(0, .ref 48), (1, .ref 41)]) (st' := [.ref 48]) rfl ?_
  refine w_nw H (11, 2, [(0, .null), (1, .int (0 : Int32))], none) (N' := 57) (S' := 1265) (pc' := 109) (L' := [(0, .ref 48), (1, .ref 41)]) h_m19 (z_at.mk 3 rfl rfl) rfl rfl rfl rfl rfl rfl ?_
  clear H m; intro m H
  refine w_p h_m19 2 (pc' := 113) (L' := [(0, .ref 48), (1, .ref 41)]) (st' := [.int (169 : Int32), .ref 56, .ref 56, .ref 48]) rfl ?_
  refine w_cs (As := [.ref 56, .int (169 : Int32)]) (rest := [.ref 56, .ref 48]) (j := 13) (L0 := [(0, .ref 56), (1, .int (169 : Int32))]) (pc' := 116) (L' := [(0, .ref 48), (1, .ref 41)]) h_m19 (z_at.mk 3 rfl rfl) (Or.inr ⟨rfl, rfl⟩) rfl rfl rfl rfl rfl ?_
  refine w_p h_m13 4 (pc' := 6) (L' := [(0, .ref 56), (1, .int (169 : Int32))]) (st' := [.int (0 : Int32), .ref 56]) rfl ?_
  refine w_pf H (11, 2, [(1, .int (0 : Int32)), (0, .null)], none) (pc' := 9) (L' := [(0, .ref 56), (1, .int (169 : Int32))]) h_m13 (z_at.mk 3 rfl rfl) rfl (by decide) rfl (Or.inl rfl) rfl rfl rfl ?_
  clear H m; intro m H
  refine w_p h_m13 3 (pc' := 12) (L' := [(0, .ref 56), (1, .int (169 : Int32))]) (st' := [.int (169 : Int32), .int (0 : Int32), .ref 56]) rfl ?_
  refine w_cs (As := [.int (0 : Int32), .int (169 : Int32)]) (rest := [.ref 56]) (j := 289) (L0 := [(0, .int (0 : Int32)), (1, .int (169 : Int32))]) (pc' := 15) (L' := [(0, .ref 56), (1, .int (169 : Int32))]) h_m13 (z_at.mk 3 rfl rfl) (Or.inl ⟨rfl, rfl⟩) rfl rfl rfl rfl rfl ?_
  refine w_p h_m289 4 (pc' := 10) (L' := []) (st' := [.int (169 : Int32)]) rfl ?_
  refine w_ri h_m289 (z_at.mk 1 rfl rfl) rfl rfl ?_
  show z_W 996 13 15 [(0, .ref 56), (1, .int (169 : Int32))] [.int (169 : Int32), .ref 56] m _
  refine w_na H (ti := 0) (n := 169) (.int (0 : Int32)) (N' := 58) (S' := 1434) (pc' := 17) (L' := [(0, .ref 56), (1, .int (169 : Int32))]) h_m13 (z_at.mk 2 rfl rfl) rfl (by decide) rfl (by decide) rfl rfl rfl rfl rfl ?_
  clear H m; intro m H
  refine w_pf H (11, 2, [(0, .ref 57), (1, .int (0 : Int32))], none) (pc' := 20) (L' := [(0, .ref 56), (1, .int (169 : Int32))]) h_m13 (z_at.mk 3 rfl rfl) rfl (by decide) rfl (Or.inr ⟨rfl, rfl, by decide⟩) rfl rfl rfl ?_
  clear H m; intro m H
  refine w_rv h_m13 (z_at.mk 1 rfl rfl) rfl ?_
  show z_W 997 19 116 [(0, .ref 48), (1, .ref 41)] [.ref 56, .ref 48] m _
  refine w_pf H (12, 18, [(16, .ref 56), (15, .int (0 : Int32)), (14, .int (0 : Int32)), (13, .int (0 : Int32)), (12, .int (0 : Int32)), (11, .int (0 : Int32)), (10, .int (0 : Int32)), (9, .long (0 : Int64)), (8, .int (0 : Int32)), (7, .ref 55), (6, .ref 54), (5, .ref 53), (4, .ref 52), (3, .ref 51), (2, .int (0 : Int32)), (1, .ref 49), (0, .null), (17, .null)], none) (pc' := 119) (L' := [(0, .ref 48), (1, .ref 41)]) h_m19 (z_at.mk 3 rfl rfl) rfl (by decide) rfl (Or.inr ⟨rfl, rfl, by decide⟩) rfl rfl rfl ?_
  clear H m; intro m H
  refine w_p h_m19 1 (pc' := 120) (L' := [(0, .ref 48), (1, .ref 41)]) (st' := [.ref 48]) rfl ?_
  refine w_nw H (11, 2, [(0, .null), (1, .int (0 : Int32))], none) (N' := 59) (S' := 1436) (pc' := 123) (L' := [(0, .ref 48), (1, .ref 41)]) h_m19 (z_at.mk 3 rfl rfl) rfl rfl rfl rfl rfl rfl ?_
  clear H m; intro m H
  refine w_p h_m19 2 (pc' := 127) (L' := [(0, .ref 48), (1, .ref 41)]) (st' := [.int (169 : Int32), .ref 58, .ref 58, .ref 48]) rfl ?_
  refine w_cs (As := [.ref 58, .int (169 : Int32)]) (rest := [.ref 58, .ref 48]) (j := 13) (L0 := [(0, .ref 58), (1, .int (169 : Int32))]) (pc' := 130) (L' := [(0, .ref 48), (1, .ref 41)]) h_m19 (z_at.mk 3 rfl rfl) (Or.inr ⟨rfl, rfl⟩) rfl rfl rfl rfl rfl ?_
  refine w_p h_m13 4 (pc' := 6) (L' := [(0, .ref 58), (1, .int (169 : Int32))]) (st' := [.int (0 : Int32), .ref 58]) rfl ?_
  refine w_pf H (11, 2, [(1, .int (0 : Int32)), (0, .null)], none) (pc' := 9) (L' := [(0, .ref 58), (1, .int (169 : Int32))]) h_m13 (z_at.mk 3 rfl rfl) rfl (by decide) rfl (Or.inl rfl) rfl rfl rfl ?_
  clear H m; intro m H
  refine w_p h_m13 3 (pc' := 12) (L' := [(0, .ref 58), (1, .int (169 : Int32))]) (st' := [.int (169 : Int32), .int (0 : Int32), .ref 58]) rfl ?_
  refine w_cs (As := [.int (0 : Int32), .int (169 : Int32)]) (rest := [.ref 58]) (j := 289) (L0 := [(0, .int (0 : Int32)), (1, .int (169 : Int32))]) (pc' := 15) (L' := [(0, .ref 58), (1, .int (169 : Int32))]) h_m13 (z_at.mk 3 rfl rfl) (Or.inl ⟨rfl, rfl⟩) rfl rfl rfl rfl rfl ?_
  refine w_p h_m289 4 (pc' := 10) (L' := []) (st' := [.int (169 : Int32)]) rfl ?_
  refine w_ri h_m289 (z_at.mk 1 rfl rfl) rfl rfl ?_
  show z_W 996 13 15 [(0, .ref 58), (1, .int (169 : Int32))] [.int (169 : Int32), .ref 58] m _
  refine w_na H (ti := 0) (n := 169) (.int (0 : Int32)) (N' := 60) (S' := 1605) (pc' := 17) (L' := [(0, .ref 58), (1, .int (169 : Int32))]) h_m13 (z_at.mk 2 rfl rfl) rfl (by decide) rfl (by decide) rfl rfl rfl rfl rfl ?_
  clear H m; intro m H
  refine w_pf H (11, 2, [(0, .ref 59), (1, .int (0 : Int32))], none) (pc' := 20) (L' := [(0, .ref 58), (1, .int (169 : Int32))]) h_m13 (z_at.mk 3 rfl rfl) rfl (by decide) rfl (Or.inr ⟨rfl, rfl, by decide⟩) rfl rfl rfl ?_
  clear H m; intro m H
  refine w_rv h_m13 (z_at.mk 1 rfl rfl) rfl ?_
  show z_W 997 19 130 [(0, .ref 48), (1, .ref 41)] [.ref 58, .ref 48] m _
  refine w_pf H (12, 18, [(17, .ref 58), (16, .ref 56), (15, .int (0 : Int32)), (14, .int (0 : Int32)), (13, .int (0 : Int32)), (12, .int (0 : Int32)), (11, .int (0 : Int32)), (10, .int (0 : Int32)), (9, .long (0 : Int64)), (8, .int (0 : Int32)), (7, .ref 55), (6, .ref 54), (5, .ref 53), (4, .ref 52), (3, .ref 51), (2, .int (0 : Int32)), (1, .ref 49), (0, .null)], none) (pc' := 133) (L' := [(0, .ref 48), (1, .ref 41)]) h_m19 (z_at.mk 3 rfl rfl) rfl (by decide) rfl (Or.inr ⟨rfl, rfl, by decide⟩) rfl rfl rfl ?_
  clear H m; intro m H
  refine w_p h_m19 2 (pc' := 135) (L' := [(0, .ref 48), (1, .ref 41)]) (st' := [.ref 41, .ref 48]) rfl ?_
  refine w_pf H (12, 18, [(0, .ref 41), (17, .ref 58), (16, .ref 56), (15, .int (0 : Int32)), (14, .int (0 : Int32)), (13, .int (0 : Int32)), (12, .int (0 : Int32)), (11, .int (0 : Int32)), (10, .int (0 : Int32)), (9, .long (0 : Int64)), (8, .int (0 : Int32)), (7, .ref 55), (6, .ref 54), (5, .ref 53), (4, .ref 52), (3, .ref 51), (2, .int (0 : Int32)), (1, .ref 49)], none) (pc' := 138) (L' := [(0, .ref 48), (1, .ref 41)]) h_m19 (z_at.mk 3 rfl rfl) rfl (by decide) rfl (Or.inr ⟨rfl, rfl, by decide⟩) rfl rfl rfl ?_
  clear H m; intro m H
  refine w_rv h_m19 (z_at.mk 1 rfl rfl) rfl ?_
  show z_W 998 77 27 [(0, .ref 40)] [.ref 48, .ref 40] m _
  refine w_pf H (17, 5, [(1, .ref 48), (0, .ref 41), (2, .null), (3, .null), (4, .null)], none) (pc' := 30) (L' := [(0, .ref 40)]) h_m77 (z_at.mk 3 rfl rfl) rfl (by decide) rfl (Or.inr ⟨rfl, rfl, by decide⟩) rfl rfl rfl ?_
  clear H m; intro m H
  refine w_p h_m77 1 (pc' := 31) (L' := [(0, .ref 40)]) (st' := [.ref 40]) rfl ?_
  refine w_nw H (13, 3, [(0, .null), (1, .null), (2, .int (0 : Int32))], none) (N' := 61) (S' := 1608) (pc' := 34) (L' := [(0, .ref 40)]) h_m77 (z_at.mk 3 rfl rfl) rfl rfl rfl rfl rfl rfl ?_
  clear H m; intro m H
  refine w_p h_m77 1 (pc' := 35) (L' := [(0, .ref 40)]) (st' := [.ref 60, .ref 60, .ref 40]) rfl ?_
  refine w_cs (As := [.ref 60]) (rest := [.ref 60, .ref 40]) (j := 45) (L0 := [(0, .ref 60)]) (pc' := 38) (L' := [(0, .ref 40)]) h_m77 (z_at.mk 3 rfl rfl) (Or.inr ⟨rfl, rfl⟩) rfl rfl rfl rfl rfl ?_
  refine w_p h_m45 4 (pc' := 7) (L' := [(0, .ref 60)]) (st' := [.int (60 : Int32), .ref 60]) rfl ?_
  refine w_na H (ti := 0) (n := 60) (.int (0 : Int32)) (N' := 62) (S' := 1668) (pc' := 9) (L' := [(0, .ref 60)]) h_m45 (z_at.mk 2 rfl rfl) rfl (by decide) rfl (by decide) rfl rfl rfl rfl rfl ?_
  clear H m; intro m H
  refine w_pf H (13, 3, [(0, .ref 61), (1, .null), (2, .int (0 : Int32))], none) (pc' := 12) (L' := [(0, .ref 60)]) h_m45 (z_at.mk 3 rfl rfl) rfl (by decide) rfl (Or.inr ⟨rfl, rfl, by decide⟩) rfl rfl rfl ?_
  clear H m; intro m H
  refine w_p h_m45 2 (pc' := 15) (L' := [(0, .ref 60)]) (st' := [.int (60 : Int32), .ref 60]) rfl ?_
  refine w_na H (ti := 1) (n := 60) (.long (0 : Int64)) (N' := 63) (S' := 1728) (pc' := 17) (L' := [(0, .ref 60)]) h_m45 (z_at.mk 2 rfl rfl) rfl (by decide) rfl (by decide) rfl rfl rfl rfl rfl ?_
  clear H m; intro m H
  refine w_pf H (13, 3, [(1, .ref 62), (0, .ref 61), (2, .int (0 : Int32))], none) (pc' := 20) (L' := [(0, .ref 60)]) h_m45 (z_at.mk 3 rfl rfl) rfl (by decide) rfl (Or.inr ⟨rfl, rfl, by decide⟩) rfl rfl rfl ?_
  clear H m; intro m H
  refine w_p h_m45 2 (pc' := 22) (L' := [(0, .ref 60)]) (st' := [.int (0 : Int32), .ref 60]) rfl ?_
  refine w_pf H (13, 3, [(2, .int (0 : Int32)), (1, .ref 62), (0, .ref 61)], none) (pc' := 25) (L' := [(0, .ref 60)]) h_m45 (z_at.mk 3 rfl rfl) rfl (by decide) rfl (Or.inl rfl) rfl rfl rfl ?_
  clear H m; intro m H
  refine w_rv h_m45 (z_at.mk 1 rfl rfl) rfl ?_
  show z_W 998 77 38 [(0, .ref 40)] [.ref 60, .ref 40] m _
  refine w_pf H (17, 5, [(2, .ref 60), (1, .ref 48), (0, .ref 41), (3, .null), (4, .null)], none) (pc' := 41) (L' := [(0, .ref 40)]) h_m77 (z_at.mk 3 rfl rfl) rfl (by decide) rfl (Or.inr ⟨rfl, rfl, by decide⟩) rfl rfl rfl ?_
  clear H m; intro m H
  refine w_p h_m77 1 (pc' := 42) (L' := [(0, .ref 40)]) (st' := [.ref 40]) rfl ?_
  refine w_nw H (11, 2, [(0, .null), (1, .int (0 : Int32))], none) (N' := 64) (S' := 1730) (pc' := 45) (L' := [(0, .ref 40)]) h_m77 (z_at.mk 3 rfl rfl) rfl rfl rfl rfl rfl rfl ?_
  clear H m; intro m H
  refine w_p h_m77 2 (pc' := 48) (L' := [(0, .ref 40)]) (st' := [.int (10 : Int32), .ref 63, .ref 63, .ref 40]) rfl ?_
  refine w_cs (As := [.ref 63, .int (10 : Int32)]) (rest := [.ref 63, .ref 40]) (j := 13) (L0 := [(0, .ref 63), (1, .int (10 : Int32))]) (pc' := 51) (L' := [(0, .ref 40)]) h_m77 (z_at.mk 3 rfl rfl) (Or.inr ⟨rfl, rfl⟩) rfl rfl rfl rfl rfl ?_
  refine w_p h_m13 4 (pc' := 6) (L' := [(0, .ref 63), (1, .int (10 : Int32))]) (st' := [.int (0 : Int32), .ref 63]) rfl ?_
  refine w_pf H (11, 2, [(1, .int (0 : Int32)), (0, .null)], none) (pc' := 9) (L' := [(0, .ref 63), (1, .int (10 : Int32))]) h_m13 (z_at.mk 3 rfl rfl) rfl (by decide) rfl (Or.inl rfl) rfl rfl rfl ?_
  clear H m; intro m H
  refine w_p h_m13 3 (pc' := 12) (L' := [(0, .ref 63), (1, .int (10 : Int32))]) (st' := [.int (10 : Int32), .int (0 : Int32), .ref 63]) rfl ?_
  refine w_cs (As := [.int (0 : Int32), .int (10 : Int32)]) (rest := [.ref 63]) (j := 289) (L0 := [(0, .int (0 : Int32)), (1, .int (10 : Int32))]) (pc' := 15) (L' := [(0, .ref 63), (1, .int (10 : Int32))]) h_m13 (z_at.mk 3 rfl rfl) (Or.inl ⟨rfl, rfl⟩) rfl rfl rfl rfl rfl ?_
  refine w_p h_m289 4 (pc' := 10) (L' := []) (st' := [.int (10 : Int32)]) rfl ?_
  refine w_ri h_m289 (z_at.mk 1 rfl rfl) rfl rfl ?_
  show z_W 997 13 15 [(0, .ref 63), (1, .int (10 : Int32))] [.int (10 : Int32), .ref 63] m _
  refine w_na H (ti := 0) (n := 10) (.int (0 : Int32)) (N' := 65) (S' := 1740) (pc' := 17) (L' := [(0, .ref 63), (1, .int (10 : Int32))]) h_m13 (z_at.mk 2 rfl rfl) rfl (by decide) rfl (by decide) rfl rfl rfl rfl rfl ?_
  clear H m; intro m H
  refine w_pf H (11, 2, [(0, .ref 64), (1, .int (0 : Int32))], none) (pc' := 20) (L' := [(0, .ref 63), (1, .int (10 : Int32))]) h_m13 (z_at.mk 3 rfl rfl) rfl (by decide) rfl (Or.inr ⟨rfl, rfl, by decide⟩) rfl rfl rfl ?_
  clear H m; intro m H
  refine w_rv h_m13 (z_at.mk 1 rfl rfl) rfl ?_
  show z_W 998 77 51 [(0, .ref 40)] [.ref 63, .ref 40] m _
  refine w_pf H (17, 5, [(3, .ref 63), (2, .ref 60), (1, .ref 48), (0, .ref 41), (4, .null)], none) (pc' := 54) (L' := [(0, .ref 40)]) h_m77 (z_at.mk 3 rfl rfl) rfl (by decide) rfl (Or.inr ⟨rfl, rfl, by decide⟩) rfl rfl rfl ?_
  clear H m; intro m H
  refine w_p h_m77 1 (pc' := 55) (L' := [(0, .ref 40)]) (st' := [.ref 40]) rfl ?_
  refine w_nw H (20, 6, [(0, .null), (1, .null), (2, .null), (3, .null), (4, .null), (5, .int (0 : Int32))], none) (N' := 66) (S' := 1746) (pc' := 58) (L' := [(0, .ref 40)]) h_m77 (z_at.mk 3 rfl rfl) rfl rfl rfl rfl rfl rfl ?_
  clear H m; intro m H
  refine w_p h_m77 1 (pc' := 59) (L' := [(0, .ref 40)]) (st' := [.ref 65, .ref 65, .ref 40]) rfl ?_
  refine w_cs (As := [.ref 65]) (rest := [.ref 65, .ref 40]) (j := 107) (L0 := [(0, .ref 65)]) (pc' := 62) (L' := [(0, .ref 40)]) h_m77 (z_at.mk 3 rfl rfl) (Or.inr ⟨rfl, rfl⟩) rfl rfl rfl rfl rfl ?_
  refine w_p h_m107 4 (pc' := 7) (L' := [(0, .ref 65)]) (st' := [.int (6 : Int32), .ref 65]) rfl ?_
  refine w_na H (ti := 0) (n := 6) (.int (0 : Int32)) (N' := 67) (S' := 1752) (pc' := 9) (L' := [(0, .ref 65)]) h_m107 (z_at.mk 2 rfl rfl) rfl (by decide) rfl (by decide) rfl rfl rfl rfl rfl ?_
  clear H m; intro m H
  refine w_pf H (20, 6, [(0, .ref 66), (1, .null), (2, .null), (3, .null), (4, .null), (5, .int (0 : Int32))], none) (pc' := 12) (L' := [(0, .ref 65)]) h_m107 (z_at.mk 3 rfl rfl) rfl (by decide) rfl (Or.inr ⟨rfl, rfl, by decide⟩) rfl rfl rfl ?_
  clear H m; intro m H
  refine w_p h_m107 2 (pc' := 15) (L' := [(0, .ref 65)]) (st' := [.int (6 : Int32), .ref 65]) rfl ?_
  refine w_na H (ti := 0) (n := 6) (.int (0 : Int32)) (N' := 68) (S' := 1758) (pc' := 17) (L' := [(0, .ref 65)]) h_m107 (z_at.mk 2 rfl rfl) rfl (by decide) rfl (by decide) rfl rfl rfl rfl rfl ?_
  clear H m; intro m H
  refine w_pf H (20, 6, [(1, .ref 67), (0, .ref 66), (2, .null), (3, .null), (4, .null), (5, .int (0 : Int32))], none) (pc' := 20) (L' := [(0, .ref 65)]) h_m107 (z_at.mk 3 rfl rfl) rfl (by decide) rfl (Or.inr ⟨rfl, rfl, by decide⟩) rfl rfl rfl ?_
  clear H m; intro m H
  refine w_p h_m107 2 (pc' := 23) (L' := [(0, .ref 65)]) (st' := [.int (6 : Int32), .ref 65]) rfl ?_
  refine w_na H (ti := 0) (n := 6) (.int (0 : Int32)) (N' := 69) (S' := 1764) (pc' := 25) (L' := [(0, .ref 65)]) h_m107 (z_at.mk 2 rfl rfl) rfl (by decide) rfl (by decide) rfl rfl rfl rfl rfl ?_
  clear H m; intro m H
  refine w_pf H (20, 6, [(2, .ref 68), (1, .ref 67), (0, .ref 66), (3, .null), (4, .null), (5, .int (0 : Int32))], none) (pc' := 28) (L' := [(0, .ref 65)]) h_m107 (z_at.mk 3 rfl rfl) rfl (by decide) rfl (Or.inr ⟨rfl, rfl, by decide⟩) rfl rfl rfl ?_
  clear H m; intro m H
  refine w_p h_m107 2 (pc' := 31) (L' := [(0, .ref 65)]) (st' := [.int (6 : Int32), .ref 65]) rfl ?_
  refine w_na H (ti := 1) (n := 6) (.long (0 : Int64)) (N' := 70) (S' := 1770) (pc' := 33) (L' := [(0, .ref 65)]) h_m107 (z_at.mk 2 rfl rfl) rfl (by decide) rfl (by decide) rfl rfl rfl rfl rfl ?_
  clear H m; intro m H
  refine w_pf H (20, 6, [(3, .ref 69), (2, .ref 68), (1, .ref 67), (0, .ref 66), (4, .null), (5, .int (0 : Int32))], none) (pc' := 36) (L' := [(0, .ref 65)]) h_m107 (z_at.mk 3 rfl rfl) rfl (by decide) rfl (Or.inr ⟨rfl, rfl, by decide⟩) rfl rfl rfl ?_
  clear H m; intro m H
  refine w_p h_m107 1 (pc' := 37) (L' := [(0, .ref 65)]) (st' := [.ref 65]) rfl ?_
  refine w_nw H (13, 3, [(0, .null), (1, .null), (2, .int (0 : Int32))], none) (N' := 71) (S' := 1773) (pc' := 40) (L' := [(0, .ref 65)]) h_m107 (z_at.mk 3 rfl rfl) rfl rfl rfl rfl rfl rfl ?_
  clear H m; intro m H
  refine w_p h_m107 1 (pc' := 41) (L' := [(0, .ref 65)]) (st' := [.ref 70, .ref 70, .ref 65]) rfl ?_
  refine w_cs (As := [.ref 70]) (rest := [.ref 70, .ref 65]) (j := 45) (L0 := [(0, .ref 70)]) (pc' := 44) (L' := [(0, .ref 65)]) h_m107 (z_at.mk 3 rfl rfl) (Or.inr ⟨rfl, rfl⟩) rfl rfl rfl rfl rfl ?_
  refine w_p h_m45 4 (pc' := 7) (L' := [(0, .ref 70)]) (st' := [.int (60 : Int32), .ref 70]) rfl ?_
  refine w_na H (ti := 0) (n := 60) (.int (0 : Int32)) (N' := 72) (S' := 1833) (pc' := 9) (L' := [(0, .ref 70)]) h_m45 (z_at.mk 2 rfl rfl) rfl (by decide) rfl (by decide) rfl rfl rfl rfl rfl ?_
  clear H m; intro m H
  refine w_pf H (13, 3, [(0, .ref 71), (1, .null), (2, .int (0 : Int32))], none) (pc' := 12) (L' := [(0, .ref 70)]) h_m45 (z_at.mk 3 rfl rfl) rfl (by decide) rfl (Or.inr ⟨rfl, rfl, by decide⟩) rfl rfl rfl ?_
  clear H m; intro m H
  refine w_p h_m45 2 (pc' := 15) (L' := [(0, .ref 70)]) (st' := [.int (60 : Int32), .ref 70]) rfl ?_
  refine w_na H (ti := 1) (n := 60) (.long (0 : Int64)) (N' := 73) (S' := 1893) (pc' := 17) (L' := [(0, .ref 70)]) h_m45 (z_at.mk 2 rfl rfl) rfl (by decide) rfl (by decide) rfl rfl rfl rfl rfl ?_
  clear H m; intro m H
  refine w_pf H (13, 3, [(1, .ref 72), (0, .ref 71), (2, .int (0 : Int32))], none) (pc' := 20) (L' := [(0, .ref 70)]) h_m45 (z_at.mk 3 rfl rfl) rfl (by decide) rfl (Or.inr ⟨rfl, rfl, by decide⟩) rfl rfl rfl ?_
  clear H m; intro m H
  refine w_p h_m45 2 (pc' := 22) (L' := [(0, .ref 70)]) (st' := [.int (0 : Int32), .ref 70]) rfl ?_
  refine w_pf H (13, 3, [(2, .int (0 : Int32)), (1, .ref 72), (0, .ref 71)], none) (pc' := 25) (L' := [(0, .ref 70)]) h_m45 (z_at.mk 3 rfl rfl) rfl (by decide) rfl (Or.inl rfl) rfl rfl rfl ?_
  clear H m; intro m H
  refine w_rv h_m45 (z_at.mk 1 rfl rfl) rfl ?_
  show z_W 997 107 44 [(0, .ref 65)] [.ref 70, .ref 65] m _
  refine w_pf H (20, 6, [(4, .ref 70), (3, .ref 69), (2, .ref 68), (1, .ref 67), (0, .ref 66), (5, .int (0 : Int32))], none) (pc' := 47) (L' := [(0, .ref 65)]) h_m107 (z_at.mk 3 rfl rfl) rfl (by decide) rfl (Or.inr ⟨rfl, rfl, by decide⟩) rfl rfl rfl ?_
  clear H m; intro m H
  refine w_p h_m107 2 (pc' := 49) (L' := [(0, .ref 65)]) (st' := [.int (0 : Int32), .ref 65]) rfl ?_
  refine w_pf H (20, 6, [(5, .int (0 : Int32)), (4, .ref 70), (3, .ref 69), (2, .ref 68), (1, .ref 67), (0, .ref 66)], none) (pc' := 52) (L' := [(0, .ref 65)]) h_m107 (z_at.mk 3 rfl rfl) rfl (by decide) rfl (Or.inl rfl) rfl rfl rfl ?_
  clear H m; intro m H
  refine w_rv h_m107 (z_at.mk 1 rfl rfl) rfl ?_
  show z_W 998 77 62 [(0, .ref 40)] [.ref 65, .ref 40] m _
  refine w_pf H (17, 5, [(4, .ref 65), (3, .ref 63), (2, .ref 60), (1, .ref 48), (0, .ref 41)], none) (pc' := 65) (L' := [(0, .ref 40)]) h_m77 (z_at.mk 3 rfl rfl) rfl (by decide) rfl (Or.inr ⟨rfl, rfl, by decide⟩) rfl rfl rfl ?_
  clear H m; intro m H
  refine w_rv h_m77 (z_at.mk 1 rfl rfl) rfl ?_
  show z_W 999 114 12 [(0, .ref 39)] [.ref 40, .ref 39] m _
  refine w_pf H (21, 14, [(0, .ref 40), (1, .null), (2, .int (0 : Int32)), (3, .null), (4, .null), (5, .null), (6, .null), (7, .null), (8, .null), (9, .int (0 : Int32)), (10, .null), (11, .null), (12, .null), (13, .null)], none) (pc' := 15) (L' := [(0, .ref 39)]) h_m114 (z_at.mk 3 rfl rfl) rfl (by decide) rfl (Or.inr ⟨rfl, rfl, by decide⟩) rfl rfl rfl ?_
  clear H m; intro m H
  refine w_p h_m114 1 (pc' := 16) (L' := [(0, .ref 39)]) (st' := [.ref 39]) rfl ?_
  refine w_nw H (17, 5, [(0, .null), (1, .null), (2, .null), (3, .null), (4, .null)], none) (N' := 74) (S' := 1898) (pc' := 19) (L' := [(0, .ref 39)]) h_m114 (z_at.mk 3 rfl rfl) rfl rfl rfl rfl rfl rfl ?_
  clear H m; intro m H
  refine w_p h_m114 1 (pc' := 20) (L' := [(0, .ref 39)]) (st' := [.ref 73, .ref 73, .ref 39]) rfl ?_
  refine w_cs (As := [.ref 73]) (rest := [.ref 73, .ref 39]) (j := 77) (L0 := [(0, .ref 73)]) (pc' := 23) (L' := [(0, .ref 39)]) h_m114 (z_at.mk 3 rfl rfl) (Or.inr ⟨rfl, rfl⟩) rfl rfl rfl rfl rfl ?_
  refine w_p h_m77 3 (pc' := 5) (L' := [(0, .ref 73)]) (st' := [.ref 73]) rfl ?_
  refine w_nw H (18, 7, [(0, .null), (1, .null), (2, .null), (3, .null), (4, .int (0 : Int32)), (5, .null), (6, .null)], none) (N' := 75) (S' := 1905) (pc' := 8) (L' := [(0, .ref 73)]) h_m77 (z_at.mk 3 rfl rfl) rfl rfl rfl rfl rfl rfl ?_
  clear H m; intro m H
  refine w_p h_m77 1 (pc' := 9) (L' := [(0, .ref 73)]) (st' := [.ref 74, .ref 74, .ref 73]) rfl ?_
  refine w_cs (As := [.ref 74]) (rest := [.ref 74, .ref 73]) (j := 79) (L0 := [(0, .ref 74)]) (pc' := 12) (L' := [(0, .ref 73)]) h_m77 (z_at.mk 3 rfl rfl) (Or.inr ⟨rfl, rfl⟩) rfl rfl rfl rfl rfl ?_
  refine w_p h_m79 4 (pc' := 7) (L' := [(0, .ref 74)]) (st' := [.int (60 : Int32), .ref 74]) rfl ?_
  refine w_na H (ti := 0) (n := 60) (.int (0 : Int32)) (N' := 76) (S' := 1965) (pc' := 9) (L' := [(0, .ref 74)]) h_m79 (z_at.mk 2 rfl rfl) rfl (by decide) rfl (by decide) rfl rfl rfl rfl rfl ?_
  clear H m; intro m H
  refine w_pf H (18, 7, [(0, .ref 75), (1, .null), (2, .null), (3, .null), (4, .int (0 : Int32)), (5, .null), (6, .null)], none) (pc' := 12) (L' := [(0, .ref 74)]) h_m79 (z_at.mk 3 rfl rfl) rfl (by decide) rfl (Or.inr ⟨rfl, rfl, by decide⟩) rfl rfl rfl ?_
  clear H m; intro m H
  refine w_p h_m79 2 (pc' := 15) (L' := [(0, .ref 74)]) (st' := [.int (60 : Int32), .ref 74]) rfl ?_
  refine w_na H (ti := 0) (n := 60) (.int (0 : Int32)) (N' := 77) (S' := 2025) (pc' := 17) (L' := [(0, .ref 74)]) h_m79 (z_at.mk 2 rfl rfl) rfl (by decide) rfl (by decide) rfl rfl rfl rfl rfl ?_
  clear H m; intro m H
  refine w_pf H (18, 7, [(1, .ref 76), (0, .ref 75), (2, .null), (3, .null), (4, .int (0 : Int32)), (5, .null), (6, .null)], none) (pc' := 20) (L' := [(0, .ref 74)]) h_m79 (z_at.mk 3 rfl rfl) rfl (by decide) rfl (Or.inr ⟨rfl, rfl, by decide⟩) rfl rfl rfl ?_
  clear H m; intro m H
  refine w_p h_m79 2 (pc' := 23) (L' := [(0, .ref 74)]) (st' := [.int (60 : Int32), .ref 74]) rfl ?_
  refine w_na H (ti := 1) (n := 60) (.long (0 : Int64)) (N' := 78) (S' := 2085) (pc' := 25) (L' := [(0, .ref 74)]) h_m79 (z_at.mk 2 rfl rfl) rfl (by decide) rfl (by decide) rfl rfl rfl rfl rfl ?_
  clear H m; intro m H
  refine w_pf H (18, 7, [(2, .ref 77), (1, .ref 76), (0, .ref 75), (3, .null), (4, .int (0 : Int32)), (5, .null), (6, .null)], none) (pc' := 28) (L' := [(0, .ref 74)]) h_m79 (z_at.mk 3 rfl rfl) rfl (by decide) rfl (Or.inr ⟨rfl, rfl, by decide⟩) rfl rfl rfl ?_
  clear H m; intro m H
  refine w_p h_m79 2 (pc' := 31) (L' := [(0, .ref 74)]) (st' := [.int (60 : Int32), .ref 74]) rfl ?_
  refine w_na H (ti := 0) (n := 60) (.int (0 : Int32)) (N' := 79) (S' := 2145) (pc' := 33) (L' := [(0, .ref 74)]) h_m79 (z_at.mk 2 rfl rfl) rfl (by decide) rfl (by decide) rfl rfl rfl rfl rfl ?_
  clear H m; intro m H
  refine w_pf H (18, 7, [(3, .ref 78), (2, .ref 77), (1, .ref 76), (0, .ref 75), (4, .int (0 : Int32)), (5, .null), (6, .null)], none) (pc' := 36) (L' := [(0, .ref 74)]) h_m79 (z_at.mk 3 rfl rfl) rfl (by decide) rfl (Or.inr ⟨rfl, rfl, by decide⟩) rfl rfl rfl ?_
  clear H m; intro m H
  refine w_p h_m79 2 (pc' := 38) (L' := [(0, .ref 74)]) (st' := [.int (0 : Int32), .ref 74]) rfl ?_
  refine w_pf H (18, 7, [(4, .int (0 : Int32)), (3, .ref 78), (2, .ref 77), (1, .ref 76), (0, .ref 75), (5, .null), (6, .null)], none) (pc' := 41) (L' := [(0, .ref 74)]) h_m79 (z_at.mk 3 rfl rfl) rfl (by decide) rfl (Or.inl rfl) rfl rfl rfl ?_
  clear H m; intro m H
  refine w_p h_m79 2 (pc' := 44) (L' := [(0, .ref 74)]) (st' := [.int (33 : Int32), .ref 74]) rfl ?_
  refine w_na H (ti := 1) (n := 33) (.long (0 : Int64)) (N' := 80) (S' := 2178) (pc' := 46) (L' := [(0, .ref 74)]) h_m79 (z_at.mk 2 rfl rfl) rfl (by decide) rfl (by decide) rfl rfl rfl rfl rfl ?_
  clear H m; intro m H
  refine w_pf H (18, 7, [(5, .ref 79), (4, .int (0 : Int32)), (3, .ref 78), (2, .ref 77), (1, .ref 76), (0, .ref 75), (6, .null)], none) (pc' := 49) (L' := [(0, .ref 74)]) h_m79 (z_at.mk 3 rfl rfl) rfl (by decide) rfl (Or.inr ⟨rfl, rfl, by decide⟩) rfl rfl rfl ?_
  clear H m; intro m H
  refine w_p h_m79 2 (pc' := 52) (L' := [(0, .ref 74)]) (st' := [.int (33 : Int32), .ref 74]) rfl ?_
  refine w_na H (ti := 1) (n := 33) (.long (0 : Int64)) (N' := 81) (S' := 2211) (pc' := 54) (L' := [(0, .ref 74)]) h_m79 (z_at.mk 2 rfl rfl) rfl (by decide) rfl (by decide) rfl rfl rfl rfl rfl ?_
  clear H m; intro m H
  refine w_pf H (18, 7, [(6, .ref 80), (5, .ref 79), (4, .int (0 : Int32)), (3, .ref 78), (2, .ref 77), (1, .ref 76), (0, .ref 75)], none) (pc' := 57) (L' := [(0, .ref 74)]) h_m79 (z_at.mk 3 rfl rfl) rfl (by decide) rfl (Or.inr ⟨rfl, rfl, by decide⟩) rfl rfl rfl ?_
  clear H m; intro m H
  refine w_rv h_m79 (z_at.mk 1 rfl rfl) rfl ?_
  show z_W 998 77 12 [(0, .ref 73)] [.ref 74, .ref 73] m _
  refine w_pf H (17, 5, [(0, .ref 74), (1, .null), (2, .null), (3, .null), (4, .null)], none) (pc' := 15) (L' := [(0, .ref 73)]) h_m77 (z_at.mk 3 rfl rfl) rfl (by decide) rfl (Or.inr ⟨rfl, rfl, by decide⟩) rfl rfl rfl ?_
  clear H m; intro m H
  refine w_p h_m77 1 (pc' := 16) (L' := [(0, .ref 73)]) (st' := [.ref 73]) rfl ?_
  refine w_nw H (12, 18, [(0, .null), (1, .null), (2, .int (0 : Int32)), (3, .null), (4, .null), (5, .null), (6, .null), (7, .null), (8, .int (0 : Int32)), (9, .long (0 : Int64)), (10, .int (0 : Int32)), (11, .int (0 : Int32)), (12, .int (0 : Int32)), (13, .int (0 : Int32)), (14, .int (0 : Int32)), (15, .int (0 : Int32)), (16, .null), (17, .null)], none) (N' := 82) (S' := 2229) (pc' := 19) (L' := [(0, .ref 73)]) h_m77 (z_at.mk 3 rfl rfl) rfl rfl rfl rfl rfl rfl ?_
  clear H m; intro m H
  refine w_p h_m77 2 (pc' := 21) (L' := [(0, .ref 73)]) (st' := [.ref 73, .ref 81, .ref 81, .ref 73]) rfl ?_
  refine w_gf H (pc' := 24) (L' := [(0, .ref 73)]) h_m77 (z_at.mk 3 rfl rfl) rfl (u := .ref 74) rfl rfl rfl ?_
  refine w_cs (As := [.ref 81, .ref 74]) (rest := [.ref 81, .ref 73]) (j := 19) (L0 := [(0, .ref 81), (1, .ref 74)]) (pc' := 27) (L' := [(0, .ref 73)]) h_m77 (z_at.mk 3 rfl rfl) (Or.inr ⟨rfl, rfl⟩) rfl rfl rfl rfl rfl ?_
  refine w_p h_m19 3 (pc' := 5) (L' := [(0, .ref 81), (1, .ref 74)]) (st' := [.ref 81]) rfl ?_
  refine w_nw H (16, 1, [(0, .null)], none) (N' := 83) (S' := 2230) (pc' := 8) (L' := [(0, .ref 81), (1, .ref 74)]) h_m19 (z_at.mk 3 rfl rfl) rfl rfl rfl rfl rfl rfl ?_
  clear H m; intro m H
  refine w_p h_m19 1 (pc' := 9) (L' := [(0, .ref 81), (1, .ref 74)]) (st' := [.ref 82, .ref 82, .ref 81]) rfl ?_
  refine w_cs (As := [.ref 82]) (rest := [.ref 82, .ref 81]) (j := 71) (L0 := [(0, .ref 82)]) (pc' := 12) (L' := [(0, .ref 81), (1, .ref 74)]) h_m19 (z_at.mk 3 rfl rfl) (Or.inr ⟨rfl, rfl⟩) rfl rfl rfl rfl rfl ?_
  refine w_p h_m71 4 (pc' := 7) (L' := [(0, .ref 82)]) (st' := [.int (7 : Int32), .ref 82]) rfl ?_
  refine w_na H (ti := 0) (n := 7) (.int (0 : Int32)) (N' := 84) (S' := 2237) (pc' := 9) (L' := [(0, .ref 82)]) h_m71 (z_at.mk 2 rfl rfl) rfl (by decide) rfl (by decide) rfl rfl rfl rfl rfl ?_
  clear H m; intro m H
  refine w_pf H (16, 1, [(0, .ref 83)], none) (pc' := 12) (L' := [(0, .ref 82)]) h_m71 (z_at.mk 3 rfl rfl) rfl (by decide) rfl (Or.inr ⟨rfl, rfl, by decide⟩) rfl rfl rfl ?_
  clear H m; intro m H
  refine w_p h_m71 1 (pc' := 13) (L' := [(0, .ref 82)]) (st' := [.ref 82]) rfl ?_
  refine w_gf H (pc' := 16) (L' := [(0, .ref 82)]) h_m71 (z_at.mk 3 rfl rfl) rfl (u := .ref 83) rfl rfl rfl ?_
  refine w_p h_m71 2 (pc' := 19) (L' := [(0, .ref 82)]) (st' := [.int (10 : Int32), .int (0 : Int32), .ref 83]) rfl ?_
  refine w_as H (t := 0) (j := 0) (u := .int (10 : Int32)) (0, 7, [(0, .int (10 : Int32))], some (.int (0 : Int32))) (pc' := 20) (L' := [(0, .ref 82)]) h_m71 (z_at.mk 1 rfl rfl) rfl rfl (w_ui _ _ (by decide)) rfl rfl rfl rfl ?_
  clear H m; intro m H
  refine w_p h_m71 1 (pc' := 21) (L' := [(0, .ref 82)]) (st' := [.ref 82]) rfl ?_
  refine w_gf H (pc' := 24) (L' := [(0, .ref 82)]) h_m71 (z_at.mk 3 rfl rfl) rfl (u := .ref 83) rfl rfl rfl ?_
  refine w_p h_m71 2 (pc' := 27) (L' := [(0, .ref 82)]) (st' := [.int (40 : Int32), .int (1 : Int32), .ref 83]) rfl ?_
  refine w_as H (t := 0) (j := 1) (u := .int (40 : Int32)) (0, 7, [(1, .int (40 : Int32)), (0, .int (10 : Int32))], some (.int (0 : Int32))) (pc' := 28) (L' := [(0, .ref 82)]) h_m71 (z_at.mk 1 rfl rfl) rfl rfl (w_ui _ _ (by decide)) rfl rfl rfl rfl ?_
  clear H m; intro m H
  refine w_p h_m71 1 (pc' := 29) (L' := [(0, .ref 82)]) (st' := [.ref 82]) rfl ?_
  refine w_gf H (pc' := 32) (L' := [(0, .ref 82)]) h_m71 (z_at.mk 3 rfl rfl) rfl (u := .ref 83) rfl rfl rfl ?_
  refine w_p h_m71 2 (pc' := 35) (L' := [(0, .ref 82)]) (st' := [.int (12 : Int32), .int (2 : Int32), .ref 83]) rfl ?_
  refine w_as H (t := 0) (j := 2) (u := .int (12 : Int32)) (0, 7, [(2, .int (12 : Int32)), (1, .int (40 : Int32)), (0, .int (10 : Int32))], some (.int (0 : Int32))) (pc' := 36) (L' := [(0, .ref 82)]) h_m71 (z_at.mk 1 rfl rfl) rfl rfl (w_ui _ _ (by decide)) rfl rfl rfl rfl ?_
  clear H m; intro m H
  refine w_p h_m71 1 (pc' := 37) (L' := [(0, .ref 82)]) (st' := [.ref 82]) rfl ?_
  refine w_gf H (pc' := 40) (L' := [(0, .ref 82)]) h_m71 (z_at.mk 3 rfl rfl) rfl (u := .ref 83) rfl rfl rfl ?_
  refine w_p h_m71 2 (pc' := 42) (L' := [(0, .ref 82)]) (st' := [.int (0 : Int32), .int (3 : Int32), .ref 83]) rfl ?_
  refine w_as H (t := 0) (j := 3) (u := .int (0 : Int32)) (0, 7, [(3, .int (0 : Int32)), (2, .int (12 : Int32)), (1, .int (40 : Int32)), (0, .int (10 : Int32))], some (.int (0 : Int32))) (pc' := 43) (L' := [(0, .ref 82)]) h_m71 (z_at.mk 1 rfl rfl) rfl rfl (w_ui _ _ (by decide)) rfl rfl rfl rfl ?_
  clear H m; intro m H
  refine w_p h_m71 1 (pc' := 44) (L' := [(0, .ref 82)]) (st' := [.ref 82]) rfl ?_
  refine w_gf H (pc' := 47) (L' := [(0, .ref 82)]) h_m71 (z_at.mk 3 rfl rfl) rfl (u := .ref 83) rfl rfl rfl ?_
  refine w_p h_m71 2 (pc' := 49) (L' := [(0, .ref 82)]) (st' := [.int (1 : Int32), .int (4 : Int32), .ref 83]) rfl ?_
  refine w_as H (t := 0) (j := 4) (u := .int (1 : Int32)) (0, 7, [(4, .int (1 : Int32)), (3, .int (0 : Int32)), (2, .int (12 : Int32)), (1, .int (40 : Int32)), (0, .int (10 : Int32))], some (.int (0 : Int32))) (pc' := 50) (L' := [(0, .ref 82)]) h_m71 (z_at.mk 1 rfl rfl) rfl rfl (w_ui _ _ (by decide)) rfl rfl rfl rfl ?_
  clear H m; intro m H
  refine w_p h_m71 1 (pc' := 51) (L' := [(0, .ref 82)]) (st' := [.ref 82]) rfl ?_
  refine w_gf H (pc' := 54) (L' := [(0, .ref 82)]) h_m71 (z_at.mk 3 rfl rfl) rfl (u := .ref 83) rfl rfl rfl ?_
  refine w_p h_m71 2 (pc' := 56) (L' := [(0, .ref 82)]) (st' := [.int (1 : Int32), .int (5 : Int32), .ref 83]) rfl ?_
  refine w_as H (t := 0) (j := 5) (u := .int (1 : Int32)) (0, 7, [(5, .int (1 : Int32)), (4, .int (1 : Int32)), (3, .int (0 : Int32)), (2, .int (12 : Int32)), (1, .int (40 : Int32)), (0, .int (10 : Int32))], some (.int (0 : Int32))) (pc' := 57) (L' := [(0, .ref 82)]) h_m71 (z_at.mk 1 rfl rfl) rfl rfl (w_ui _ _ (by decide)) rfl rfl rfl rfl ?_
  clear H m; intro m H
  refine w_p h_m71 1 (pc' := 58) (L' := [(0, .ref 82)]) (st' := [.ref 82]) rfl ?_
  refine w_gf H (pc' := 61) (L' := [(0, .ref 82)]) h_m71 (z_at.mk 3 rfl rfl) rfl (u := .ref 83) rfl rfl rfl ?_
  refine w_p h_m71 2 (pc' := 66) (L' := [(0, .ref 82)]) (st' := [.int (1024 : Int32), .int (6 : Int32), .ref 83]) rfl ?_
  refine w_as H (t := 0) (j := 6) (u := .int (1024 : Int32)) (0, 7, [(6, .int (1024 : Int32)), (5, .int (1 : Int32)), (4, .int (1 : Int32)), (3, .int (0 : Int32)), (2, .int (12 : Int32)), (1, .int (40 : Int32)), (0, .int (10 : Int32))], some (.int (0 : Int32))) (pc' := 67) (L' := [(0, .ref 82)]) h_m71 (z_at.mk 1 rfl rfl) rfl rfl (w_ui _ _ (by decide)) rfl rfl rfl rfl ?_
  clear H m; intro m H
  refine w_rv h_m71 (z_at.mk 1 rfl rfl) rfl ?_
  show z_W 997 19 12 [(0, .ref 81), (1, .ref 74)] [.ref 82, .ref 81] m _
  refine w_pf H (12, 18, [(1, .ref 82), (0, .null), (2, .int (0 : Int32)), (3, .null), (4, .null), (5, .null), (6, .null), (7, .null), (8, .int (0 : Int32)), (9, .long (0 : Int64)), (10, .int (0 : Int32)), (11, .int (0 : Int32)), (12, .int (0 : Int32)), (13, .int (0 : Int32)), (14, .int (0 : Int32)), (15, .int (0 : Int32)), (16, .null), (17, .null)], none) (pc' := 15) (L' := [(0, .ref 81), (1, .ref 74)]) h_m19 (z_at.mk 3 rfl rfl) rfl (by decide) rfl (Or.inr ⟨rfl, rfl, by decide⟩) rfl rfl rfl ?_
  clear H m; intro m H
  refine w_p h_m19 2 (pc' := 17) (L' := [(0, .ref 81), (1, .ref 74)]) (st' := [.int (0 : Int32), .ref 81]) rfl ?_
  refine w_pf H (12, 18, [(2, .int (0 : Int32)), (1, .ref 82), (0, .null), (3, .null), (4, .null), (5, .null), (6, .null), (7, .null), (8, .int (0 : Int32)), (9, .long (0 : Int64)), (10, .int (0 : Int32)), (11, .int (0 : Int32)), (12, .int (0 : Int32)), (13, .int (0 : Int32)), (14, .int (0 : Int32)), (15, .int (0 : Int32)), (16, .null), (17, .null)], none) (pc' := 20) (L' := [(0, .ref 81), (1, .ref 74)]) h_m19 (z_at.mk 3 rfl rfl) rfl (by decide) rfl (Or.inl rfl) rfl rfl rfl ?_
  clear H m; intro m H
  refine w_p h_m19 2 (pc' := 24) (L' := [(0, .ref 81), (1, .ref 74)]) (st' := [.int (181 : Int32), .ref 81]) rfl ?_
  refine w_na H (ti := 0) (n := 181) (.int (0 : Int32)) (N' := 85) (S' := 2418) (pc' := 26) (L' := [(0, .ref 81), (1, .ref 74)]) h_m19 (z_at.mk 2 rfl rfl) rfl (by decide) rfl (by decide) rfl rfl rfl rfl rfl ?_
  clear H m; intro m H
  refine w_pf H (12, 18, [(3, .ref 84), (2, .int (0 : Int32)), (1, .ref 82), (0, .null), (4, .null), (5, .null), (6, .null), (7, .null), (8, .int (0 : Int32)), (9, .long (0 : Int64)), (10, .int (0 : Int32)), (11, .int (0 : Int32)), (12, .int (0 : Int32)), (13, .int (0 : Int32)), (14, .int (0 : Int32)), (15, .int (0 : Int32)), (16, .null), (17, .null)], none) (pc' := 29) (L' := [(0, .ref 81), (1, .ref 74)]) h_m19 (z_at.mk 3 rfl rfl) rfl (by decide) rfl (Or.inr ⟨rfl, rfl, by decide⟩) rfl rfl rfl ?_
  clear H m; intro m H
  refine w_p h_m19 2 (pc' := 33) (L' := [(0, .ref 81), (1, .ref 74)]) (st' := [.int (181 : Int32), .ref 81]) rfl ?_
  refine w_na H (ti := 0) (n := 181) (.int (0 : Int32)) (N' := 86) (S' := 2599) (pc' := 35) (L' := [(0, .ref 81), (1, .ref 74)]) h_m19 (z_at.mk 2 rfl rfl) rfl (by decide) rfl (by decide) rfl rfl rfl rfl rfl ?_
  clear H m; intro m H
  refine w_pf H (12, 18, [(4, .ref 85), (3, .ref 84), (2, .int (0 : Int32)), (1, .ref 82), (0, .null), (5, .null), (6, .null), (7, .null), (8, .int (0 : Int32)), (9, .long (0 : Int64)), (10, .int (0 : Int32)), (11, .int (0 : Int32)), (12, .int (0 : Int32)), (13, .int (0 : Int32)), (14, .int (0 : Int32)), (15, .int (0 : Int32)), (16, .null), (17, .null)], none) (pc' := 38) (L' := [(0, .ref 81), (1, .ref 74)]) h_m19 (z_at.mk 3 rfl rfl) rfl (by decide) rfl (Or.inr ⟨rfl, rfl, by decide⟩) rfl rfl rfl ?_
  clear H m; intro m H
  refine w_p h_m19 2 (pc' := 42) (L' := [(0, .ref 81), (1, .ref 74)]) (st' := [.int (181 : Int32), .ref 81]) rfl ?_
  refine w_na H (ti := 0) (n := 181) (.int (0 : Int32)) (N' := 87) (S' := 2780) (pc' := 44) (L' := [(0, .ref 81), (1, .ref 74)]) h_m19 (z_at.mk 2 rfl rfl) rfl (by decide) rfl (by decide) rfl rfl rfl rfl rfl ?_
  clear H m; intro m H
  refine w_pf H (12, 18, [(5, .ref 86), (4, .ref 85), (3, .ref 84), (2, .int (0 : Int32)), (1, .ref 82), (0, .null), (6, .null), (7, .null), (8, .int (0 : Int32)), (9, .long (0 : Int64)), (10, .int (0 : Int32)), (11, .int (0 : Int32)), (12, .int (0 : Int32)), (13, .int (0 : Int32)), (14, .int (0 : Int32)), (15, .int (0 : Int32)), (16, .null), (17, .null)], none) (pc' := 47) (L' := [(0, .ref 81), (1, .ref 74)]) h_m19 (z_at.mk 3 rfl rfl) rfl (by decide) rfl (Or.inr ⟨rfl, rfl, by decide⟩) rfl rfl rfl ?_
  clear H m; intro m H
  refine w_p h_m19 2 (pc' := 51) (L' := [(0, .ref 81), (1, .ref 74)]) (st' := [.int (181 : Int32), .ref 81]) rfl ?_
  refine w_na H (ti := 0) (n := 181) (.int (0 : Int32)) (N' := 88) (S' := 2961) (pc' := 53) (L' := [(0, .ref 81), (1, .ref 74)]) h_m19 (z_at.mk 2 rfl rfl) rfl (by decide) rfl (by decide) rfl rfl rfl rfl rfl ?_
  clear H m; intro m H
  refine w_pf H (12, 18, [(6, .ref 87), (5, .ref 86), (4, .ref 85), (3, .ref 84), (2, .int (0 : Int32)), (1, .ref 82), (0, .null), (7, .null), (8, .int (0 : Int32)), (9, .long (0 : Int64)), (10, .int (0 : Int32)), (11, .int (0 : Int32)), (12, .int (0 : Int32)), (13, .int (0 : Int32)), (14, .int (0 : Int32)), (15, .int (0 : Int32)), (16, .null), (17, .null)], none) (pc' := 56) (L' := [(0, .ref 81), (1, .ref 74)]) h_m19 (z_at.mk 3 rfl rfl) rfl (by decide) rfl (Or.inr ⟨rfl, rfl, by decide⟩) rfl rfl rfl ?_
  clear H m; intro m H
  refine w_p h_m19 2 (pc' := 60) (L' := [(0, .ref 81), (1, .ref 74)]) (st' := [.int (181 : Int32), .ref 81]) rfl ?_
  refine w_na H (ti := 1) (n := 181) (.long (0 : Int64)) (N' := 89) (S' := 3142) (pc' := 62) (L' := [(0, .ref 81), (1, .ref 74)]) h_m19 (z_at.mk 2 rfl rfl) rfl (by decide) rfl (by decide) rfl rfl rfl rfl rfl ?_
  clear H m; intro m H
  refine w_pf H (12, 18, [(7, .ref 88), (6, .ref 87), (5, .ref 86), (4, .ref 85), (3, .ref 84), (2, .int (0 : Int32)), (1, .ref 82), (0, .null), (8, .int (0 : Int32)), (9, .long (0 : Int64)), (10, .int (0 : Int32)), (11, .int (0 : Int32)), (12, .int (0 : Int32)), (13, .int (0 : Int32)), (14, .int (0 : Int32)), (15, .int (0 : Int32)), (16, .null), (17, .null)], none) (pc' := 65) (L' := [(0, .ref 81), (1, .ref 74)]) h_m19 (z_at.mk 3 rfl rfl) rfl (by decide) rfl (Or.inr ⟨rfl, rfl, by decide⟩) rfl rfl rfl ?_
  clear H m; intro m H
  refine w_p h_m19 2 (pc' := 67) (L' := [(0, .ref 81), (1, .ref 74)]) (st' := [.int (0 : Int32), .ref 81]) rfl ?_
  refine w_pf H (12, 18, [(8, .int (0 : Int32)), (7, .ref 88), (6, .ref 87), (5, .ref 86), (4, .ref 85), (3, .ref 84), (2, .int (0 : Int32)), (1, .ref 82), (0, .null), (9, .long (0 : Int64)), (10, .int (0 : Int32)), (11, .int (0 : Int32)), (12, .int (0 : Int32)), (13, .int (0 : Int32)), (14, .int (0 : Int32)), (15, .int (0 : Int32)), (16, .null), (17, .null)], none) (pc' := 70) (L' := [(0, .ref 81), (1, .ref 74)]) h_m19 (z_at.mk 3 rfl rfl) rfl (by decide) rfl (Or.inl rfl) rfl rfl rfl ?_
  clear H m; intro m H
  refine w_p h_m19 2 (pc' := 72) (L' := [(0, .ref 81), (1, .ref 74)]) (st' := [.long (0 : Int64), .ref 81]) rfl ?_
  refine w_pf H (12, 18, [(9, .long (0 : Int64)), (8, .int (0 : Int32)), (7, .ref 88), (6, .ref 87), (5, .ref 86), (4, .ref 85), (3, .ref 84), (2, .int (0 : Int32)), (1, .ref 82), (0, .null), (10, .int (0 : Int32)), (11, .int (0 : Int32)), (12, .int (0 : Int32)), (13, .int (0 : Int32)), (14, .int (0 : Int32)), (15, .int (0 : Int32)), (16, .null), (17, .null)], none) (pc' := 75) (L' := [(0, .ref 81), (1, .ref 74)]) h_m19 (z_at.mk 3 rfl rfl) rfl (by decide) rfl (Or.inl rfl) rfl rfl rfl ?_
  clear H m; intro m H
  refine w_p h_m19 2 (pc' := 77) (L' := [(0, .ref 81), (1, .ref 74)]) (st' := [.int (0 : Int32), .ref 81]) rfl ?_
  refine w_pf H (12, 18, [(10, .int (0 : Int32)), (9, .long (0 : Int64)), (8, .int (0 : Int32)), (7, .ref 88), (6, .ref 87), (5, .ref 86), (4, .ref 85), (3, .ref 84), (2, .int (0 : Int32)), (1, .ref 82), (0, .null), (11, .int (0 : Int32)), (12, .int (0 : Int32)), (13, .int (0 : Int32)), (14, .int (0 : Int32)), (15, .int (0 : Int32)), (16, .null), (17, .null)], none) (pc' := 80) (L' := [(0, .ref 81), (1, .ref 74)]) h_m19 (z_at.mk 3 rfl rfl) rfl (by decide) rfl (Or.inl rfl) rfl rfl rfl ?_
  clear H m; intro m H
  refine w_p h_m19 2 (pc' := 82) (L' := [(0, .ref 81), (1, .ref 74)]) (st' := [.int (0 : Int32), .ref 81]) rfl ?_
  refine w_pf H (12, 18, [(11, .int (0 : Int32)), (10, .int (0 : Int32)), (9, .long (0 : Int64)), (8, .int (0 : Int32)), (7, .ref 88), (6, .ref 87), (5, .ref 86), (4, .ref 85), (3, .ref 84), (2, .int (0 : Int32)), (1, .ref 82), (0, .null), (12, .int (0 : Int32)), (13, .int (0 : Int32)), (14, .int (0 : Int32)), (15, .int (0 : Int32)), (16, .null), (17, .null)], none) (pc' := 85) (L' := [(0, .ref 81), (1, .ref 74)]) h_m19 (z_at.mk 3 rfl rfl) rfl (by decide) rfl (Or.inl rfl) rfl rfl rfl ?_
  clear H m; intro m H
  refine w_p h_m19 2 (pc' := 87) (L' := [(0, .ref 81), (1, .ref 74)]) (st' := [.int (0 : Int32), .ref 81]) rfl ?_
  refine w_pf H (12, 18, [(12, .int (0 : Int32)), (11, .int (0 : Int32)), (10, .int (0 : Int32)), (9, .long (0 : Int64)), (8, .int (0 : Int32)), (7, .ref 88), (6, .ref 87), (5, .ref 86), (4, .ref 85), (3, .ref 84), (2, .int (0 : Int32)), (1, .ref 82), (0, .null), (13, .int (0 : Int32)), (14, .int (0 : Int32)), (15, .int (0 : Int32)), (16, .null), (17, .null)], none) (pc' := 90) (L' := [(0, .ref 81), (1, .ref 74)]) h_m19 (z_at.mk 3 rfl rfl) rfl (by decide) rfl (Or.inl rfl) rfl rfl rfl ?_
  clear H m; intro m H
  refine w_p h_m19 2 (pc' := 92) (L' := [(0, .ref 81), (1, .ref 74)]) (st' := [.int (0 : Int32), .ref 81]) rfl ?_
  refine w_pf H (12, 18, [(13, .int (0 : Int32)), (12, .int (0 : Int32)), (11, .int (0 : Int32)), (10, .int (0 : Int32)), (9, .long (0 : Int64)), (8, .int (0 : Int32)), (7, .ref 88), (6, .ref 87), (5, .ref 86), (4, .ref 85), (3, .ref 84), (2, .int (0 : Int32)), (1, .ref 82), (0, .null), (14, .int (0 : Int32)), (15, .int (0 : Int32)), (16, .null), (17, .null)], none) (pc' := 95) (L' := [(0, .ref 81), (1, .ref 74)]) h_m19 (z_at.mk 3 rfl rfl) rfl (by decide) rfl (Or.inl rfl) rfl rfl rfl ?_
  clear H m; intro m H
  refine w_p h_m19 2 (pc' := 97) (L' := [(0, .ref 81), (1, .ref 74)]) (st' := [.int (0 : Int32), .ref 81]) rfl ?_
  refine w_pf H (12, 18, [(14, .int (0 : Int32)), (13, .int (0 : Int32)), (12, .int (0 : Int32)), (11, .int (0 : Int32)), (10, .int (0 : Int32)), (9, .long (0 : Int64)), (8, .int (0 : Int32)), (7, .ref 88), (6, .ref 87), (5, .ref 86), (4, .ref 85), (3, .ref 84), (2, .int (0 : Int32)), (1, .ref 82), (0, .null), (15, .int (0 : Int32)), (16, .null), (17, .null)], none) (pc' := 100) (L' := [(0, .ref 81), (1, .ref 74)]) h_m19 (z_at.mk 3 rfl rfl) rfl (by decide) rfl (Or.inl rfl) rfl rfl rfl ?_
  clear H m; intro m H
  refine w_p h_m19 2 (pc' := 102) (L' := [(0, .ref 81), (1, .ref 74)]) (st' := [.int (0 : Int32), .ref 81]) rfl ?_
  refine w_pf H (12, 18, [(15, .int (0 : Int32)), (14, .int (0 : Int32)), (13, .int (0 : Int32)), (12, .int (0 : Int32)), (11, .int (0 : Int32)), (10, .int (0 : Int32)), (9, .long (0 : Int64)), (8, .int (0 : Int32)), (7, .ref 88), (6, .ref 87), (5, .ref 86), (4, .ref 85), (3, .ref 84), (2, .int (0 : Int32)), (1, .ref 82), (0, .null), (16, .null), (17, .null)], none) (pc' := 105) (L' := [(0, .ref 81), (1, .ref 74)]) h_m19 (z_at.mk 3 rfl rfl) rfl (by decide) rfl (Or.inl rfl) rfl rfl rfl ?_
  clear H m; intro m H
  refine w_p h_m19 1 (pc' := 106) (L' := [(0, .ref 81), (1, .ref 74)]) (st' := [.ref 81]) rfl ?_
  refine w_nw H (11, 2, [(0, .null), (1, .int (0 : Int32))], none) (N' := 90) (S' := 3144) (pc' := 109) (L' := [(0, .ref 81), (1, .ref 74)]) h_m19 (z_at.mk 3 rfl rfl) rfl rfl rfl rfl rfl rfl ?_
  clear H m; intro m H
  refine w_p h_m19 2 (pc' := 113) (L' := [(0, .ref 81), (1, .ref 74)]) (st' := [.int (169 : Int32), .ref 89, .ref 89, .ref 81]) rfl ?_
  refine w_cs (As := [.ref 89, .int (169 : Int32)]) (rest := [.ref 89, .ref 81]) (j := 13) (L0 := [(0, .ref 89), (1, .int (169 : Int32))]) (pc' := 116) (L' := [(0, .ref 81), (1, .ref 74)]) h_m19 (z_at.mk 3 rfl rfl) (Or.inr ⟨rfl, rfl⟩) rfl rfl rfl rfl rfl ?_
  refine w_p h_m13 4 (pc' := 6) (L' := [(0, .ref 89), (1, .int (169 : Int32))]) (st' := [.int (0 : Int32), .ref 89]) rfl ?_
  refine w_pf H (11, 2, [(1, .int (0 : Int32)), (0, .null)], none) (pc' := 9) (L' := [(0, .ref 89), (1, .int (169 : Int32))]) h_m13 (z_at.mk 3 rfl rfl) rfl (by decide) rfl (Or.inl rfl) rfl rfl rfl ?_
  clear H m; intro m H
  refine w_p h_m13 3 (pc' := 12) (L' := [(0, .ref 89), (1, .int (169 : Int32))]) (st' := [.int (169 : Int32), .int (0 : Int32), .ref 89]) rfl ?_
  refine w_cs (As := [.int (0 : Int32), .int (169 : Int32)]) (rest := [.ref 89]) (j := 289) (L0 := [(0, .int (0 : Int32)), (1, .int (169 : Int32))]) (pc' := 15) (L' := [(0, .ref 89), (1, .int (169 : Int32))]) h_m13 (z_at.mk 3 rfl rfl) (Or.inl ⟨rfl, rfl⟩) rfl rfl rfl rfl rfl ?_
  refine w_p h_m289 4 (pc' := 10) (L' := []) (st' := [.int (169 : Int32)]) rfl ?_
  refine w_ri h_m289 (z_at.mk 1 rfl rfl) rfl rfl ?_
  show z_W 996 13 15 [(0, .ref 89), (1, .int (169 : Int32))] [.int (169 : Int32), .ref 89] m _
  refine w_na H (ti := 0) (n := 169) (.int (0 : Int32)) (N' := 91) (S' := 3313) (pc' := 17) (L' := [(0, .ref 89), (1, .int (169 : Int32))]) h_m13 (z_at.mk 2 rfl rfl) rfl (by decide) rfl (by decide) rfl rfl rfl rfl rfl ?_
  clear H m; intro m H
  refine w_pf H (11, 2, [(0, .ref 90), (1, .int (0 : Int32))], none) (pc' := 20) (L' := [(0, .ref 89), (1, .int (169 : Int32))]) h_m13 (z_at.mk 3 rfl rfl) rfl (by decide) rfl (Or.inr ⟨rfl, rfl, by decide⟩) rfl rfl rfl ?_
  clear H m; intro m H
  refine w_rv h_m13 (z_at.mk 1 rfl rfl) rfl ?_
  show z_W 997 19 116 [(0, .ref 81), (1, .ref 74)] [.ref 89, .ref 81] m _
  refine w_pf H (12, 18, [(16, .ref 89), (15, .int (0 : Int32)), (14, .int (0 : Int32)), (13, .int (0 : Int32)), (12, .int (0 : Int32)), (11, .int (0 : Int32)), (10, .int (0 : Int32)), (9, .long (0 : Int64)), (8, .int (0 : Int32)), (7, .ref 88), (6, .ref 87), (5, .ref 86), (4, .ref 85), (3, .ref 84), (2, .int (0 : Int32)), (1, .ref 82), (0, .null), (17, .null)], none) (pc' := 119) (L' := [(0, .ref 81), (1, .ref 74)]) h_m19 (z_at.mk 3 rfl rfl) rfl (by decide) rfl (Or.inr ⟨rfl, rfl, by decide⟩) rfl rfl rfl ?_
  clear H m; intro m H
  refine w_p h_m19 1 (pc' := 120) (L' := [(0, .ref 81), (1, .ref 74)]) (st' := [.ref 81]) rfl ?_
  refine w_nw H (11, 2, [(0, .null), (1, .int (0 : Int32))], none) (N' := 92) (S' := 3315) (pc' := 123) (L' := [(0, .ref 81), (1, .ref 74)]) h_m19 (z_at.mk 3 rfl rfl) rfl rfl rfl rfl rfl rfl ?_
  clear H m; intro m H
  refine w_p h_m19 2 (pc' := 127) (L' := [(0, .ref 81), (1, .ref 74)]) (st' := [.int (169 : Int32), .ref 91, .ref 91, .ref 81]) rfl ?_
  refine w_cs (As := [.ref 91, .int (169 : Int32)]) (rest := [.ref 91, .ref 81]) (j := 13) (L0 := [(0, .ref 91), (1, .int (169 : Int32))]) (pc' := 130) (L' := [(0, .ref 81), (1, .ref 74)]) h_m19 (z_at.mk 3 rfl rfl) (Or.inr ⟨rfl, rfl⟩) rfl rfl rfl rfl rfl ?_
  refine w_p h_m13 4 (pc' := 6) (L' := [(0, .ref 91), (1, .int (169 : Int32))]) (st' := [.int (0 : Int32), .ref 91]) rfl ?_
  refine w_pf H (11, 2, [(1, .int (0 : Int32)), (0, .null)], none) (pc' := 9) (L' := [(0, .ref 91), (1, .int (169 : Int32))]) h_m13 (z_at.mk 3 rfl rfl) rfl (by decide) rfl (Or.inl rfl) rfl rfl rfl ?_
  clear H m; intro m H
  refine w_p h_m13 3 (pc' := 12) (L' := [(0, .ref 91), (1, .int (169 : Int32))]) (st' := [.int (169 : Int32), .int (0 : Int32), .ref 91]) rfl ?_
  refine w_cs (As := [.int (0 : Int32), .int (169 : Int32)]) (rest := [.ref 91]) (j := 289) (L0 := [(0, .int (0 : Int32)), (1, .int (169 : Int32))]) (pc' := 15) (L' := [(0, .ref 91), (1, .int (169 : Int32))]) h_m13 (z_at.mk 3 rfl rfl) (Or.inl ⟨rfl, rfl⟩) rfl rfl rfl rfl rfl ?_
  refine w_p h_m289 4 (pc' := 10) (L' := []) (st' := [.int (169 : Int32)]) rfl ?_
  refine w_ri h_m289 (z_at.mk 1 rfl rfl) rfl rfl ?_
  show z_W 996 13 15 [(0, .ref 91), (1, .int (169 : Int32))] [.int (169 : Int32), .ref 91] m _
  refine w_na H (ti := 0) (n := 169) (.int (0 : Int32)) (N' := 93) (S' := 3484) (pc' := 17) (L' := [(0, .ref 91), (1, .int (169 : Int32))]) h_m13 (z_at.mk 2 rfl rfl) rfl (by decide) rfl (by decide) rfl rfl rfl rfl rfl ?_
  clear H m; intro m H
  refine w_pf H (11, 2, [(0, .ref 92), (1, .int (0 : Int32))], none) (pc' := 20) (L' := [(0, .ref 91), (1, .int (169 : Int32))]) h_m13 (z_at.mk 3 rfl rfl) rfl (by decide) rfl (Or.inr ⟨rfl, rfl, by decide⟩) rfl rfl rfl ?_
  clear H m; intro m H
  refine w_rv h_m13 (z_at.mk 1 rfl rfl) rfl ?_
  show z_W 997 19 130 [(0, .ref 81), (1, .ref 74)] [.ref 91, .ref 81] m _
  refine w_pf H (12, 18, [(17, .ref 91), (16, .ref 89), (15, .int (0 : Int32)), (14, .int (0 : Int32)), (13, .int (0 : Int32)), (12, .int (0 : Int32)), (11, .int (0 : Int32)), (10, .int (0 : Int32)), (9, .long (0 : Int64)), (8, .int (0 : Int32)), (7, .ref 88), (6, .ref 87), (5, .ref 86), (4, .ref 85), (3, .ref 84), (2, .int (0 : Int32)), (1, .ref 82), (0, .null)], none) (pc' := 133) (L' := [(0, .ref 81), (1, .ref 74)]) h_m19 (z_at.mk 3 rfl rfl) rfl (by decide) rfl (Or.inr ⟨rfl, rfl, by decide⟩) rfl rfl rfl ?_
  clear H m; intro m H
  refine w_p h_m19 2 (pc' := 135) (L' := [(0, .ref 81), (1, .ref 74)]) (st' := [.ref 74, .ref 81]) rfl ?_
  refine w_pf H (12, 18, [(0, .ref 74), (17, .ref 91), (16, .ref 89), (15, .int (0 : Int32)), (14, .int (0 : Int32)), (13, .int (0 : Int32)), (12, .int (0 : Int32)), (11, .int (0 : Int32)), (10, .int (0 : Int32)), (9, .long (0 : Int64)), (8, .int (0 : Int32)), (7, .ref 88), (6, .ref 87), (5, .ref 86), (4, .ref 85), (3, .ref 84), (2, .int (0 : Int32)), (1, .ref 82)], none) (pc' := 138) (L' := [(0, .ref 81), (1, .ref 74)]) h_m19 (z_at.mk 3 rfl rfl) rfl (by decide) rfl (Or.inr ⟨rfl, rfl, by decide⟩) rfl rfl rfl ?_
  clear H m; intro m H
  refine w_rv h_m19 (z_at.mk 1 rfl rfl) rfl ?_
  show z_W 998 77 27 [(0, .ref 73)] [.ref 81, .ref 73] m _
  refine w_pf H (17, 5, [(1, .ref 81), (0, .ref 74), (2, .null), (3, .null), (4, .null)], none) (pc' := 30) (L' := [(0, .ref 73)]) h_m77 (z_at.mk 3 rfl rfl) rfl (by decide) rfl (Or.inr ⟨rfl, rfl, by decide⟩) rfl rfl rfl ?_
  clear H m; intro m H
  refine w_p h_m77 1 (pc' := 31) (L' := [(0, .ref 73)]) (st' := [.ref 73]) rfl ?_
  refine w_nw H (13, 3, [(0, .null), (1, .null), (2, .int (0 : Int32))], none) (N' := 94) (S' := 3487) (pc' := 34) (L' := [(0, .ref 73)]) h_m77 (z_at.mk 3 rfl rfl) rfl rfl rfl rfl rfl rfl ?_
  clear H m; intro m H
  refine w_p h_m77 1 (pc' := 35) (L' := [(0, .ref 73)]) (st' := [.ref 93, .ref 93, .ref 73]) rfl ?_
  refine w_cs (As := [.ref 93]) (rest := [.ref 93, .ref 73]) (j := 45) (L0 := [(0, .ref 93)]) (pc' := 38) (L' := [(0, .ref 73)]) h_m77 (z_at.mk 3 rfl rfl) (Or.inr ⟨rfl, rfl⟩) rfl rfl rfl rfl rfl ?_
  refine w_p h_m45 4 (pc' := 7) (L' := [(0, .ref 93)]) (st' := [.int (60 : Int32), .ref 93]) rfl ?_
  refine w_na H (ti := 0) (n := 60) (.int (0 : Int32)) (N' := 95) (S' := 3547) (pc' := 9) (L' := [(0, .ref 93)]) h_m45 (z_at.mk 2 rfl rfl) rfl (by decide) rfl (by decide) rfl rfl rfl rfl rfl ?_
  clear H m; intro m H
  refine w_pf H (13, 3, [(0, .ref 94), (1, .null), (2, .int (0 : Int32))], none) (pc' := 12) (L' := [(0, .ref 93)]) h_m45 (z_at.mk 3 rfl rfl) rfl (by decide) rfl (Or.inr ⟨rfl, rfl, by decide⟩) rfl rfl rfl ?_
  clear H m; intro m H
  refine w_p h_m45 2 (pc' := 15) (L' := [(0, .ref 93)]) (st' := [.int (60 : Int32), .ref 93]) rfl ?_
  refine w_na H (ti := 1) (n := 60) (.long (0 : Int64)) (N' := 96) (S' := 3607) (pc' := 17) (L' := [(0, .ref 93)]) h_m45 (z_at.mk 2 rfl rfl) rfl (by decide) rfl (by decide) rfl rfl rfl rfl rfl ?_
  clear H m; intro m H
  refine w_pf H (13, 3, [(1, .ref 95), (0, .ref 94), (2, .int (0 : Int32))], none) (pc' := 20) (L' := [(0, .ref 93)]) h_m45 (z_at.mk 3 rfl rfl) rfl (by decide) rfl (Or.inr ⟨rfl, rfl, by decide⟩) rfl rfl rfl ?_
  clear H m; intro m H
  refine w_p h_m45 2 (pc' := 22) (L' := [(0, .ref 93)]) (st' := [.int (0 : Int32), .ref 93]) rfl ?_
  refine w_pf H (13, 3, [(2, .int (0 : Int32)), (1, .ref 95), (0, .ref 94)], none) (pc' := 25) (L' := [(0, .ref 93)]) h_m45 (z_at.mk 3 rfl rfl) rfl (by decide) rfl (Or.inl rfl) rfl rfl rfl ?_
  clear H m; intro m H
  refine w_rv h_m45 (z_at.mk 1 rfl rfl) rfl ?_
  show z_W 998 77 38 [(0, .ref 73)] [.ref 93, .ref 73] m _
  refine w_pf H (17, 5, [(2, .ref 93), (1, .ref 81), (0, .ref 74), (3, .null), (4, .null)], none) (pc' := 41) (L' := [(0, .ref 73)]) h_m77 (z_at.mk 3 rfl rfl) rfl (by decide) rfl (Or.inr ⟨rfl, rfl, by decide⟩) rfl rfl rfl ?_
  clear H m; intro m H
  refine w_p h_m77 1 (pc' := 42) (L' := [(0, .ref 73)]) (st' := [.ref 73]) rfl ?_
  refine w_nw H (11, 2, [(0, .null), (1, .int (0 : Int32))], none) (N' := 97) (S' := 3609) (pc' := 45) (L' := [(0, .ref 73)]) h_m77 (z_at.mk 3 rfl rfl) rfl rfl rfl rfl rfl rfl ?_
  clear H m; intro m H
  refine w_p h_m77 2 (pc' := 48) (L' := [(0, .ref 73)]) (st' := [.int (10 : Int32), .ref 96, .ref 96, .ref 73]) rfl ?_
  refine w_cs (As := [.ref 96, .int (10 : Int32)]) (rest := [.ref 96, .ref 73]) (j := 13) (L0 := [(0, .ref 96), (1, .int (10 : Int32))]) (pc' := 51) (L' := [(0, .ref 73)]) h_m77 (z_at.mk 3 rfl rfl) (Or.inr ⟨rfl, rfl⟩) rfl rfl rfl rfl rfl ?_
  refine w_p h_m13 4 (pc' := 6) (L' := [(0, .ref 96), (1, .int (10 : Int32))]) (st' := [.int (0 : Int32), .ref 96]) rfl ?_
  refine w_pf H (11, 2, [(1, .int (0 : Int32)), (0, .null)], none) (pc' := 9) (L' := [(0, .ref 96), (1, .int (10 : Int32))]) h_m13 (z_at.mk 3 rfl rfl) rfl (by decide) rfl (Or.inl rfl) rfl rfl rfl ?_
  clear H m; intro m H
  refine w_p h_m13 3 (pc' := 12) (L' := [(0, .ref 96), (1, .int (10 : Int32))]) (st' := [.int (10 : Int32), .int (0 : Int32), .ref 96]) rfl ?_
  refine w_cs (As := [.int (0 : Int32), .int (10 : Int32)]) (rest := [.ref 96]) (j := 289) (L0 := [(0, .int (0 : Int32)), (1, .int (10 : Int32))]) (pc' := 15) (L' := [(0, .ref 96), (1, .int (10 : Int32))]) h_m13 (z_at.mk 3 rfl rfl) (Or.inl ⟨rfl, rfl⟩) rfl rfl rfl rfl rfl ?_
  refine w_p h_m289 4 (pc' := 10) (L' := []) (st' := [.int (10 : Int32)]) rfl ?_
  refine w_ri h_m289 (z_at.mk 1 rfl rfl) rfl rfl ?_
  show z_W 997 13 15 [(0, .ref 96), (1, .int (10 : Int32))] [.int (10 : Int32), .ref 96] m _
  refine w_na H (ti := 0) (n := 10) (.int (0 : Int32)) (N' := 98) (S' := 3619) (pc' := 17) (L' := [(0, .ref 96), (1, .int (10 : Int32))]) h_m13 (z_at.mk 2 rfl rfl) rfl (by decide) rfl (by decide) rfl rfl rfl rfl rfl ?_
  clear H m; intro m H
  refine w_pf H (11, 2, [(0, .ref 97), (1, .int (0 : Int32))], none) (pc' := 20) (L' := [(0, .ref 96), (1, .int (10 : Int32))]) h_m13 (z_at.mk 3 rfl rfl) rfl (by decide) rfl (Or.inr ⟨rfl, rfl, by decide⟩) rfl rfl rfl ?_
  clear H m; intro m H
  refine w_rv h_m13 (z_at.mk 1 rfl rfl) rfl ?_
  show z_W 998 77 51 [(0, .ref 73)] [.ref 96, .ref 73] m _
  refine w_pf H (17, 5, [(3, .ref 96), (2, .ref 93), (1, .ref 81), (0, .ref 74), (4, .null)], none) (pc' := 54) (L' := [(0, .ref 73)]) h_m77 (z_at.mk 3 rfl rfl) rfl (by decide) rfl (Or.inr ⟨rfl, rfl, by decide⟩) rfl rfl rfl ?_
  clear H m; intro m H
  refine w_p h_m77 1 (pc' := 55) (L' := [(0, .ref 73)]) (st' := [.ref 73]) rfl ?_
  refine w_nw H (20, 6, [(0, .null), (1, .null), (2, .null), (3, .null), (4, .null), (5, .int (0 : Int32))], none) (N' := 99) (S' := 3625) (pc' := 58) (L' := [(0, .ref 73)]) h_m77 (z_at.mk 3 rfl rfl) rfl rfl rfl rfl rfl rfl ?_
  clear H m; intro m H
  refine w_p h_m77 1 (pc' := 59) (L' := [(0, .ref 73)]) (st' := [.ref 98, .ref 98, .ref 73]) rfl ?_
  refine w_cs (As := [.ref 98]) (rest := [.ref 98, .ref 73]) (j := 107) (L0 := [(0, .ref 98)]) (pc' := 62) (L' := [(0, .ref 73)]) h_m77 (z_at.mk 3 rfl rfl) (Or.inr ⟨rfl, rfl⟩) rfl rfl rfl rfl rfl ?_
  refine w_p h_m107 4 (pc' := 7) (L' := [(0, .ref 98)]) (st' := [.int (6 : Int32), .ref 98]) rfl ?_
  refine w_na H (ti := 0) (n := 6) (.int (0 : Int32)) (N' := 100) (S' := 3631) (pc' := 9) (L' := [(0, .ref 98)]) h_m107 (z_at.mk 2 rfl rfl) rfl (by decide) rfl (by decide) rfl rfl rfl rfl rfl ?_
  clear H m; intro m H
  refine w_pf H (20, 6, [(0, .ref 99), (1, .null), (2, .null), (3, .null), (4, .null), (5, .int (0 : Int32))], none) (pc' := 12) (L' := [(0, .ref 98)]) h_m107 (z_at.mk 3 rfl rfl) rfl (by decide) rfl (Or.inr ⟨rfl, rfl, by decide⟩) rfl rfl rfl ?_
  clear H m; intro m H
  refine w_p h_m107 2 (pc' := 15) (L' := [(0, .ref 98)]) (st' := [.int (6 : Int32), .ref 98]) rfl ?_
  refine w_na H (ti := 0) (n := 6) (.int (0 : Int32)) (N' := 101) (S' := 3637) (pc' := 17) (L' := [(0, .ref 98)]) h_m107 (z_at.mk 2 rfl rfl) rfl (by decide) rfl (by decide) rfl rfl rfl rfl rfl ?_
  clear H m; intro m H
  refine w_pf H (20, 6, [(1, .ref 100), (0, .ref 99), (2, .null), (3, .null), (4, .null), (5, .int (0 : Int32))], none) (pc' := 20) (L' := [(0, .ref 98)]) h_m107 (z_at.mk 3 rfl rfl) rfl (by decide) rfl (Or.inr ⟨rfl, rfl, by decide⟩) rfl rfl rfl ?_
  clear H m; intro m H
  refine w_p h_m107 2 (pc' := 23) (L' := [(0, .ref 98)]) (st' := [.int (6 : Int32), .ref 98]) rfl ?_
  refine w_na H (ti := 0) (n := 6) (.int (0 : Int32)) (N' := 102) (S' := 3643) (pc' := 25) (L' := [(0, .ref 98)]) h_m107 (z_at.mk 2 rfl rfl) rfl (by decide) rfl (by decide) rfl rfl rfl rfl rfl ?_
  clear H m; intro m H
  refine w_pf H (20, 6, [(2, .ref 101), (1, .ref 100), (0, .ref 99), (3, .null), (4, .null), (5, .int (0 : Int32))], none) (pc' := 28) (L' := [(0, .ref 98)]) h_m107 (z_at.mk 3 rfl rfl) rfl (by decide) rfl (Or.inr ⟨rfl, rfl, by decide⟩) rfl rfl rfl ?_
  clear H m; intro m H
  refine w_p h_m107 2 (pc' := 31) (L' := [(0, .ref 98)]) (st' := [.int (6 : Int32), .ref 98]) rfl ?_
  refine w_na H (ti := 1) (n := 6) (.long (0 : Int64)) (N' := 103) (S' := 3649) (pc' := 33) (L' := [(0, .ref 98)]) h_m107 (z_at.mk 2 rfl rfl) rfl (by decide) rfl (by decide) rfl rfl rfl rfl rfl ?_
  clear H m; intro m H
  refine w_pf H (20, 6, [(3, .ref 102), (2, .ref 101), (1, .ref 100), (0, .ref 99), (4, .null), (5, .int (0 : Int32))], none) (pc' := 36) (L' := [(0, .ref 98)]) h_m107 (z_at.mk 3 rfl rfl) rfl (by decide) rfl (Or.inr ⟨rfl, rfl, by decide⟩) rfl rfl rfl ?_
  clear H m; intro m H
  refine w_p h_m107 1 (pc' := 37) (L' := [(0, .ref 98)]) (st' := [.ref 98]) rfl ?_
  refine w_nw H (13, 3, [(0, .null), (1, .null), (2, .int (0 : Int32))], none) (N' := 104) (S' := 3652) (pc' := 40) (L' := [(0, .ref 98)]) h_m107 (z_at.mk 3 rfl rfl) rfl rfl rfl rfl rfl rfl ?_
  clear H m; intro m H
  refine w_p h_m107 1 (pc' := 41) (L' := [(0, .ref 98)]) (st' := [.ref 103, .ref 103, .ref 98]) rfl ?_
  refine w_cs (As := [.ref 103]) (rest := [.ref 103, .ref 98]) (j := 45) (L0 := [(0, .ref 103)]) (pc' := 44) (L' := [(0, .ref 98)]) h_m107 (z_at.mk 3 rfl rfl) (Or.inr ⟨rfl, rfl⟩) rfl rfl rfl rfl rfl ?_
  refine w_p h_m45 4 (pc' := 7) (L' := [(0, .ref 103)]) (st' := [.int (60 : Int32), .ref 103]) rfl ?_
  refine w_na H (ti := 0) (n := 60) (.int (0 : Int32)) (N' := 105) (S' := 3712) (pc' := 9) (L' := [(0, .ref 103)]) h_m45 (z_at.mk 2 rfl rfl) rfl (by decide) rfl (by decide) rfl rfl rfl rfl rfl ?_
  clear H m; intro m H
  refine w_pf H (13, 3, [(0, .ref 104), (1, .null), (2, .int (0 : Int32))], none) (pc' := 12) (L' := [(0, .ref 103)]) h_m45 (z_at.mk 3 rfl rfl) rfl (by decide) rfl (Or.inr ⟨rfl, rfl, by decide⟩) rfl rfl rfl ?_
  clear H m; intro m H
  refine w_p h_m45 2 (pc' := 15) (L' := [(0, .ref 103)]) (st' := [.int (60 : Int32), .ref 103]) rfl ?_
  refine w_na H (ti := 1) (n := 60) (.long (0 : Int64)) (N' := 106) (S' := 3772) (pc' := 17) (L' := [(0, .ref 103)]) h_m45 (z_at.mk 2 rfl rfl) rfl (by decide) rfl (by decide) rfl rfl rfl rfl rfl ?_
  clear H m; intro m H
  refine w_pf H (13, 3, [(1, .ref 105), (0, .ref 104), (2, .int (0 : Int32))], none) (pc' := 20) (L' := [(0, .ref 103)]) h_m45 (z_at.mk 3 rfl rfl) rfl (by decide) rfl (Or.inr ⟨rfl, rfl, by decide⟩) rfl rfl rfl ?_
  clear H m; intro m H
  refine w_p h_m45 2 (pc' := 22) (L' := [(0, .ref 103)]) (st' := [.int (0 : Int32), .ref 103]) rfl ?_
  refine w_pf H (13, 3, [(2, .int (0 : Int32)), (1, .ref 105), (0, .ref 104)], none) (pc' := 25) (L' := [(0, .ref 103)]) h_m45 (z_at.mk 3 rfl rfl) rfl (by decide) rfl (Or.inl rfl) rfl rfl rfl ?_
  clear H m; intro m H
  refine w_rv h_m45 (z_at.mk 1 rfl rfl) rfl ?_
  show z_W 997 107 44 [(0, .ref 98)] [.ref 103, .ref 98] m _
  refine w_pf H (20, 6, [(4, .ref 103), (3, .ref 102), (2, .ref 101), (1, .ref 100), (0, .ref 99), (5, .int (0 : Int32))], none) (pc' := 47) (L' := [(0, .ref 98)]) h_m107 (z_at.mk 3 rfl rfl) rfl (by decide) rfl (Or.inr ⟨rfl, rfl, by decide⟩) rfl rfl rfl ?_
  clear H m; intro m H
  refine w_p h_m107 2 (pc' := 49) (L' := [(0, .ref 98)]) (st' := [.int (0 : Int32), .ref 98]) rfl ?_
  refine w_pf H (20, 6, [(5, .int (0 : Int32)), (4, .ref 103), (3, .ref 102), (2, .ref 101), (1, .ref 100), (0, .ref 99)], none) (pc' := 52) (L' := [(0, .ref 98)]) h_m107 (z_at.mk 3 rfl rfl) rfl (by decide) rfl (Or.inl rfl) rfl rfl rfl ?_
  clear H m; intro m H
  refine w_rv h_m107 (z_at.mk 1 rfl rfl) rfl ?_
  show z_W 998 77 62 [(0, .ref 73)] [.ref 98, .ref 73] m _
  refine w_pf H (17, 5, [(4, .ref 98), (3, .ref 96), (2, .ref 93), (1, .ref 81), (0, .ref 74)], none) (pc' := 65) (L' := [(0, .ref 73)]) h_m77 (z_at.mk 3 rfl rfl) rfl (by decide) rfl (Or.inr ⟨rfl, rfl, by decide⟩) rfl rfl rfl ?_
  clear H m; intro m H
  refine w_rv h_m77 (z_at.mk 1 rfl rfl) rfl ?_
  show z_W 999 114 23 [(0, .ref 39)] [.ref 73, .ref 39] m _
  refine w_pf H (21, 14, [(1, .ref 73), (0, .ref 40), (2, .int (0 : Int32)), (3, .null), (4, .null), (5, .null), (6, .null), (7, .null), (8, .null), (9, .int (0 : Int32)), (10, .null), (11, .null), (12, .null), (13, .null)], none) (pc' := 26) (L' := [(0, .ref 39)]) h_m114 (z_at.mk 3 rfl rfl) rfl (by decide) rfl (Or.inr ⟨rfl, rfl, by decide⟩) rfl rfl rfl ?_
  clear H m; intro m H
  refine w_p h_m114 2 (pc' := 28) (L' := [(0, .ref 39)]) (st' := [.int (0 : Int32), .ref 39]) rfl ?_
  refine w_pf H (21, 14, [(2, .int (0 : Int32)), (1, .ref 73), (0, .ref 40), (3, .null), (4, .null), (5, .null), (6, .null), (7, .null), (8, .null), (9, .int (0 : Int32)), (10, .null), (11, .null), (12, .null), (13, .null)], none) (pc' := 31) (L' := [(0, .ref 39)]) h_m114 (z_at.mk 3 rfl rfl) rfl (by decide) rfl (Or.inl rfl) rfl rfl rfl ?_
  clear H m; intro m H
  refine w_p h_m114 1 (pc' := 32) (L' := [(0, .ref 39)]) (st' := [.ref 39]) rfl ?_
  refine w_nw H (12, 18, [(0, .null), (1, .null), (2, .int (0 : Int32)), (3, .null), (4, .null), (5, .null), (6, .null), (7, .null), (8, .int (0 : Int32)), (9, .long (0 : Int64)), (10, .int (0 : Int32)), (11, .int (0 : Int32)), (12, .int (0 : Int32)), (13, .int (0 : Int32)), (14, .int (0 : Int32)), (15, .int (0 : Int32)), (16, .null), (17, .null)], none) (N' := 107) (S' := 3790) (pc' := 35) (L' := [(0, .ref 39)]) h_m114 (z_at.mk 3 rfl rfl) rfl rfl rfl rfl rfl rfl ?_
  clear H m; intro m H
  refine w_p h_m114 2 (pc' := 37) (L' := [(0, .ref 39)]) (st' := [.ref 39, .ref 106, .ref 106, .ref 39]) rfl ?_
  refine w_gf H (pc' := 40) (L' := [(0, .ref 39)]) h_m114 (z_at.mk 3 rfl rfl) rfl (u := .ref 40) rfl rfl rfl ?_
  refine w_gf H (pc' := 43) (L' := [(0, .ref 39)]) h_m114 (z_at.mk 3 rfl rfl) rfl (u := .ref 41) rfl rfl rfl ?_
  refine w_cs (As := [.ref 106, .ref 41]) (rest := [.ref 106, .ref 39]) (j := 19) (L0 := [(0, .ref 106), (1, .ref 41)]) (pc' := 46) (L' := [(0, .ref 39)]) h_m114 (z_at.mk 3 rfl rfl) (Or.inr ⟨rfl, rfl⟩) rfl rfl rfl rfl rfl ?_
  refine w_p h_m19 3 (pc' := 5) (L' := [(0, .ref 106), (1, .ref 41)]) (st' := [.ref 106]) rfl ?_
  refine w_nw H (16, 1, [(0, .null)], none) (N' := 108) (S' := 3791) (pc' := 8) (L' := [(0, .ref 106), (1, .ref 41)]) h_m19 (z_at.mk 3 rfl rfl) rfl rfl rfl rfl rfl rfl ?_
  clear H m; intro m H
  refine w_p h_m19 1 (pc' := 9) (L' := [(0, .ref 106), (1, .ref 41)]) (st' := [.ref 107, .ref 107, .ref 106]) rfl ?_
  refine w_cs (As := [.ref 107]) (rest := [.ref 107, .ref 106]) (j := 71) (L0 := [(0, .ref 107)]) (pc' := 12) (L' := [(0, .ref 106), (1, .ref 41)]) h_m19 (z_at.mk 3 rfl rfl) (Or.inr ⟨rfl, rfl⟩) rfl rfl rfl rfl rfl ?_
  refine w_p h_m71 4 (pc' := 7) (L' := [(0, .ref 107)]) (st' := [.int (7 : Int32), .ref 107]) rfl ?_
  refine w_na H (ti := 0) (n := 7) (.int (0 : Int32)) (N' := 109) (S' := 3798) (pc' := 9) (L' := [(0, .ref 107)]) h_m71 (z_at.mk 2 rfl rfl) rfl (by decide) rfl (by decide) rfl rfl rfl rfl rfl ?_
  clear H m; intro m H
  refine w_pf H (16, 1, [(0, .ref 108)], none) (pc' := 12) (L' := [(0, .ref 107)]) h_m71 (z_at.mk 3 rfl rfl) rfl (by decide) rfl (Or.inr ⟨rfl, rfl, by decide⟩) rfl rfl rfl ?_
  clear H m; intro m H
  refine w_p h_m71 1 (pc' := 13) (L' := [(0, .ref 107)]) (st' := [.ref 107]) rfl ?_
  refine w_gf H (pc' := 16) (L' := [(0, .ref 107)]) h_m71 (z_at.mk 3 rfl rfl) rfl (u := .ref 108) rfl rfl rfl ?_
  refine w_p h_m71 2 (pc' := 19) (L' := [(0, .ref 107)]) (st' := [.int (10 : Int32), .int (0 : Int32), .ref 108]) rfl ?_
  refine w_as H (t := 0) (j := 0) (u := .int (10 : Int32)) (0, 7, [(0, .int (10 : Int32))], some (.int (0 : Int32))) (pc' := 20) (L' := [(0, .ref 107)]) h_m71 (z_at.mk 1 rfl rfl) rfl rfl (w_ui _ _ (by decide)) rfl rfl rfl rfl ?_
  clear H m; intro m H
  refine w_p h_m71 1 (pc' := 21) (L' := [(0, .ref 107)]) (st' := [.ref 107]) rfl ?_
  refine w_gf H (pc' := 24) (L' := [(0, .ref 107)]) h_m71 (z_at.mk 3 rfl rfl) rfl (u := .ref 108) rfl rfl rfl ?_
  refine w_p h_m71 2 (pc' := 27) (L' := [(0, .ref 107)]) (st' := [.int (40 : Int32), .int (1 : Int32), .ref 108]) rfl ?_
  refine w_as H (t := 0) (j := 1) (u := .int (40 : Int32)) (0, 7, [(1, .int (40 : Int32)), (0, .int (10 : Int32))], some (.int (0 : Int32))) (pc' := 28) (L' := [(0, .ref 107)]) h_m71 (z_at.mk 1 rfl rfl) rfl rfl (w_ui _ _ (by decide)) rfl rfl rfl rfl ?_
  clear H m; intro m H
  refine w_p h_m71 1 (pc' := 29) (L' := [(0, .ref 107)]) (st' := [.ref 107]) rfl ?_
  refine w_gf H (pc' := 32) (L' := [(0, .ref 107)]) h_m71 (z_at.mk 3 rfl rfl) rfl (u := .ref 108) rfl rfl rfl ?_
  refine w_p h_m71 2 (pc' := 35) (L' := [(0, .ref 107)]) (st' := [.int (12 : Int32), .int (2 : Int32), .ref 108]) rfl ?_
  refine w_as H (t := 0) (j := 2) (u := .int (12 : Int32)) (0, 7, [(2, .int (12 : Int32)), (1, .int (40 : Int32)), (0, .int (10 : Int32))], some (.int (0 : Int32))) (pc' := 36) (L' := [(0, .ref 107)]) h_m71 (z_at.mk 1 rfl rfl) rfl rfl (w_ui _ _ (by decide)) rfl rfl rfl rfl ?_
  clear H m; intro m H
  refine w_p h_m71 1 (pc' := 37) (L' := [(0, .ref 107)]) (st' := [.ref 107]) rfl ?_
  refine w_gf H (pc' := 40) (L' := [(0, .ref 107)]) h_m71 (z_at.mk 3 rfl rfl) rfl (u := .ref 108) rfl rfl rfl ?_
  refine w_p h_m71 2 (pc' := 42) (L' := [(0, .ref 107)]) (st' := [.int (0 : Int32), .int (3 : Int32), .ref 108]) rfl ?_
  refine w_as H (t := 0) (j := 3) (u := .int (0 : Int32)) (0, 7, [(3, .int (0 : Int32)), (2, .int (12 : Int32)), (1, .int (40 : Int32)), (0, .int (10 : Int32))], some (.int (0 : Int32))) (pc' := 43) (L' := [(0, .ref 107)]) h_m71 (z_at.mk 1 rfl rfl) rfl rfl (w_ui _ _ (by decide)) rfl rfl rfl rfl ?_
  clear H m; intro m H
  refine w_p h_m71 1 (pc' := 44) (L' := [(0, .ref 107)]) (st' := [.ref 107]) rfl ?_
  refine w_gf H (pc' := 47) (L' := [(0, .ref 107)]) h_m71 (z_at.mk 3 rfl rfl) rfl (u := .ref 108) rfl rfl rfl ?_
  refine w_p h_m71 2 (pc' := 49) (L' := [(0, .ref 107)]) (st' := [.int (1 : Int32), .int (4 : Int32), .ref 108]) rfl ?_
  refine w_as H (t := 0) (j := 4) (u := .int (1 : Int32)) (0, 7, [(4, .int (1 : Int32)), (3, .int (0 : Int32)), (2, .int (12 : Int32)), (1, .int (40 : Int32)), (0, .int (10 : Int32))], some (.int (0 : Int32))) (pc' := 50) (L' := [(0, .ref 107)]) h_m71 (z_at.mk 1 rfl rfl) rfl rfl (w_ui _ _ (by decide)) rfl rfl rfl rfl ?_
  clear H m; intro m H
  refine w_p h_m71 1 (pc' := 51) (L' := [(0, .ref 107)]) (st' := [.ref 107]) rfl ?_
  refine w_gf H (pc' := 54) (L' := [(0, .ref 107)]) h_m71 (z_at.mk 3 rfl rfl) rfl (u := .ref 108) rfl rfl rfl ?_
  refine w_p h_m71 2 (pc' := 56) (L' := [(0, .ref 107)]) (st' := [.int (1 : Int32), .int (5 : Int32), .ref 108]) rfl ?_
  refine w_as H (t := 0) (j := 5) (u := .int (1 : Int32)) (0, 7, [(5, .int (1 : Int32)), (4, .int (1 : Int32)), (3, .int (0 : Int32)), (2, .int (12 : Int32)), (1, .int (40 : Int32)), (0, .int (10 : Int32))], some (.int (0 : Int32))) (pc' := 57) (L' := [(0, .ref 107)]) h_m71 (z_at.mk 1 rfl rfl) rfl rfl (w_ui _ _ (by decide)) rfl rfl rfl rfl ?_
  clear H m; intro m H
  refine w_p h_m71 1 (pc' := 58) (L' := [(0, .ref 107)]) (st' := [.ref 107]) rfl ?_
  refine w_gf H (pc' := 61) (L' := [(0, .ref 107)]) h_m71 (z_at.mk 3 rfl rfl) rfl (u := .ref 108) rfl rfl rfl ?_
  refine w_p h_m71 2 (pc' := 66) (L' := [(0, .ref 107)]) (st' := [.int (1024 : Int32), .int (6 : Int32), .ref 108]) rfl ?_
  refine w_as H (t := 0) (j := 6) (u := .int (1024 : Int32)) (0, 7, [(6, .int (1024 : Int32)), (5, .int (1 : Int32)), (4, .int (1 : Int32)), (3, .int (0 : Int32)), (2, .int (12 : Int32)), (1, .int (40 : Int32)), (0, .int (10 : Int32))], some (.int (0 : Int32))) (pc' := 67) (L' := [(0, .ref 107)]) h_m71 (z_at.mk 1 rfl rfl) rfl rfl (w_ui _ _ (by decide)) rfl rfl rfl rfl ?_
  clear H m; intro m H
  refine w_rv h_m71 (z_at.mk 1 rfl rfl) rfl ?_
  show z_W 998 19 12 [(0, .ref 106), (1, .ref 41)] [.ref 107, .ref 106] m _
  refine w_pf H (12, 18, [(1, .ref 107), (0, .null), (2, .int (0 : Int32)), (3, .null), (4, .null), (5, .null), (6, .null), (7, .null), (8, .int (0 : Int32)), (9, .long (0 : Int64)), (10, .int (0 : Int32)), (11, .int (0 : Int32)), (12, .int (0 : Int32)), (13, .int (0 : Int32)), (14, .int (0 : Int32)), (15, .int (0 : Int32)), (16, .null), (17, .null)], none) (pc' := 15) (L' := [(0, .ref 106), (1, .ref 41)]) h_m19 (z_at.mk 3 rfl rfl) rfl (by decide) rfl (Or.inr ⟨rfl, rfl, by decide⟩) rfl rfl rfl ?_
  clear H m; intro m H
  refine w_p h_m19 2 (pc' := 17) (L' := [(0, .ref 106), (1, .ref 41)]) (st' := [.int (0 : Int32), .ref 106]) rfl ?_
  refine w_pf H (12, 18, [(2, .int (0 : Int32)), (1, .ref 107), (0, .null), (3, .null), (4, .null), (5, .null), (6, .null), (7, .null), (8, .int (0 : Int32)), (9, .long (0 : Int64)), (10, .int (0 : Int32)), (11, .int (0 : Int32)), (12, .int (0 : Int32)), (13, .int (0 : Int32)), (14, .int (0 : Int32)), (15, .int (0 : Int32)), (16, .null), (17, .null)], none) (pc' := 20) (L' := [(0, .ref 106), (1, .ref 41)]) h_m19 (z_at.mk 3 rfl rfl) rfl (by decide) rfl (Or.inl rfl) rfl rfl rfl ?_
  clear H m; intro m H
  refine w_p h_m19 2 (pc' := 24) (L' := [(0, .ref 106), (1, .ref 41)]) (st' := [.int (181 : Int32), .ref 106]) rfl ?_
  refine w_na H (ti := 0) (n := 181) (.int (0 : Int32)) (N' := 110) (S' := 3979) (pc' := 26) (L' := [(0, .ref 106), (1, .ref 41)]) h_m19 (z_at.mk 2 rfl rfl) rfl (by decide) rfl (by decide) rfl rfl rfl rfl rfl ?_
  clear H m; intro m H
  refine w_pf H (12, 18, [(3, .ref 109), (2, .int (0 : Int32)), (1, .ref 107), (0, .null), (4, .null), (5, .null), (6, .null), (7, .null), (8, .int (0 : Int32)), (9, .long (0 : Int64)), (10, .int (0 : Int32)), (11, .int (0 : Int32)), (12, .int (0 : Int32)), (13, .int (0 : Int32)), (14, .int (0 : Int32)), (15, .int (0 : Int32)), (16, .null), (17, .null)], none) (pc' := 29) (L' := [(0, .ref 106), (1, .ref 41)]) h_m19 (z_at.mk 3 rfl rfl) rfl (by decide) rfl (Or.inr ⟨rfl, rfl, by decide⟩) rfl rfl rfl ?_
  clear H m; intro m H
  refine w_p h_m19 2 (pc' := 33) (L' := [(0, .ref 106), (1, .ref 41)]) (st' := [.int (181 : Int32), .ref 106]) rfl ?_
  refine w_na H (ti := 0) (n := 181) (.int (0 : Int32)) (N' := 111) (S' := 4160) (pc' := 35) (L' := [(0, .ref 106), (1, .ref 41)]) h_m19 (z_at.mk 2 rfl rfl) rfl (by decide) rfl (by decide) rfl rfl rfl rfl rfl ?_
  clear H m; intro m H
  refine w_pf H (12, 18, [(4, .ref 110), (3, .ref 109), (2, .int (0 : Int32)), (1, .ref 107), (0, .null), (5, .null), (6, .null), (7, .null), (8, .int (0 : Int32)), (9, .long (0 : Int64)), (10, .int (0 : Int32)), (11, .int (0 : Int32)), (12, .int (0 : Int32)), (13, .int (0 : Int32)), (14, .int (0 : Int32)), (15, .int (0 : Int32)), (16, .null), (17, .null)], none) (pc' := 38) (L' := [(0, .ref 106), (1, .ref 41)]) h_m19 (z_at.mk 3 rfl rfl) rfl (by decide) rfl (Or.inr ⟨rfl, rfl, by decide⟩) rfl rfl rfl ?_
  clear H m; intro m H
  refine w_p h_m19 2 (pc' := 42) (L' := [(0, .ref 106), (1, .ref 41)]) (st' := [.int (181 : Int32), .ref 106]) rfl ?_
  refine w_na H (ti := 0) (n := 181) (.int (0 : Int32)) (N' := 112) (S' := 4341) (pc' := 44) (L' := [(0, .ref 106), (1, .ref 41)]) h_m19 (z_at.mk 2 rfl rfl) rfl (by decide) rfl (by decide) rfl rfl rfl rfl rfl ?_
  clear H m; intro m H
  refine w_pf H (12, 18, [(5, .ref 111), (4, .ref 110), (3, .ref 109), (2, .int (0 : Int32)), (1, .ref 107), (0, .null), (6, .null), (7, .null), (8, .int (0 : Int32)), (9, .long (0 : Int64)), (10, .int (0 : Int32)), (11, .int (0 : Int32)), (12, .int (0 : Int32)), (13, .int (0 : Int32)), (14, .int (0 : Int32)), (15, .int (0 : Int32)), (16, .null), (17, .null)], none) (pc' := 47) (L' := [(0, .ref 106), (1, .ref 41)]) h_m19 (z_at.mk 3 rfl rfl) rfl (by decide) rfl (Or.inr ⟨rfl, rfl, by decide⟩) rfl rfl rfl ?_
  clear H m; intro m H
  refine w_p h_m19 2 (pc' := 51) (L' := [(0, .ref 106), (1, .ref 41)]) (st' := [.int (181 : Int32), .ref 106]) rfl ?_
  refine w_na H (ti := 0) (n := 181) (.int (0 : Int32)) (N' := 113) (S' := 4522) (pc' := 53) (L' := [(0, .ref 106), (1, .ref 41)]) h_m19 (z_at.mk 2 rfl rfl) rfl (by decide) rfl (by decide) rfl rfl rfl rfl rfl ?_
  clear H m; intro m H
  refine w_pf H (12, 18, [(6, .ref 112), (5, .ref 111), (4, .ref 110), (3, .ref 109), (2, .int (0 : Int32)), (1, .ref 107), (0, .null), (7, .null), (8, .int (0 : Int32)), (9, .long (0 : Int64)), (10, .int (0 : Int32)), (11, .int (0 : Int32)), (12, .int (0 : Int32)), (13, .int (0 : Int32)), (14, .int (0 : Int32)), (15, .int (0 : Int32)), (16, .null), (17, .null)], none) (pc' := 56) (L' := [(0, .ref 106), (1, .ref 41)]) h_m19 (z_at.mk 3 rfl rfl) rfl (by decide) rfl (Or.inr ⟨rfl, rfl, by decide⟩) rfl rfl rfl ?_
  clear H m; intro m H
  refine w_p h_m19 2 (pc' := 60) (L' := [(0, .ref 106), (1, .ref 41)]) (st' := [.int (181 : Int32), .ref 106]) rfl ?_
  refine w_na H (ti := 1) (n := 181) (.long (0 : Int64)) (N' := 114) (S' := 4703) (pc' := 62) (L' := [(0, .ref 106), (1, .ref 41)]) h_m19 (z_at.mk 2 rfl rfl) rfl (by decide) rfl (by decide) rfl rfl rfl rfl rfl ?_
  clear H m; intro m H
  refine w_pf H (12, 18, [(7, .ref 113), (6, .ref 112), (5, .ref 111), (4, .ref 110), (3, .ref 109), (2, .int (0 : Int32)), (1, .ref 107), (0, .null), (8, .int (0 : Int32)), (9, .long (0 : Int64)), (10, .int (0 : Int32)), (11, .int (0 : Int32)), (12, .int (0 : Int32)), (13, .int (0 : Int32)), (14, .int (0 : Int32)), (15, .int (0 : Int32)), (16, .null), (17, .null)], none) (pc' := 65) (L' := [(0, .ref 106), (1, .ref 41)]) h_m19 (z_at.mk 3 rfl rfl) rfl (by decide) rfl (Or.inr ⟨rfl, rfl, by decide⟩) rfl rfl rfl ?_
  clear H m; intro m H
  refine w_p h_m19 2 (pc' := 67) (L' := [(0, .ref 106), (1, .ref 41)]) (st' := [.int (0 : Int32), .ref 106]) rfl ?_
  refine w_pf H (12, 18, [(8, .int (0 : Int32)), (7, .ref 113), (6, .ref 112), (5, .ref 111), (4, .ref 110), (3, .ref 109), (2, .int (0 : Int32)), (1, .ref 107), (0, .null), (9, .long (0 : Int64)), (10, .int (0 : Int32)), (11, .int (0 : Int32)), (12, .int (0 : Int32)), (13, .int (0 : Int32)), (14, .int (0 : Int32)), (15, .int (0 : Int32)), (16, .null), (17, .null)], none) (pc' := 70) (L' := [(0, .ref 106), (1, .ref 41)]) h_m19 (z_at.mk 3 rfl rfl) rfl (by decide) rfl (Or.inl rfl) rfl rfl rfl ?_
  clear H m; intro m H
  refine w_p h_m19 2 (pc' := 72) (L' := [(0, .ref 106), (1, .ref 41)]) (st' := [.long (0 : Int64), .ref 106]) rfl ?_
  refine w_pf H (12, 18, [(9, .long (0 : Int64)), (8, .int (0 : Int32)), (7, .ref 113), (6, .ref 112), (5, .ref 111), (4, .ref 110), (3, .ref 109), (2, .int (0 : Int32)), (1, .ref 107), (0, .null), (10, .int (0 : Int32)), (11, .int (0 : Int32)), (12, .int (0 : Int32)), (13, .int (0 : Int32)), (14, .int (0 : Int32)), (15, .int (0 : Int32)), (16, .null), (17, .null)], none) (pc' := 75) (L' := [(0, .ref 106), (1, .ref 41)]) h_m19 (z_at.mk 3 rfl rfl) rfl (by decide) rfl (Or.inl rfl) rfl rfl rfl ?_
  clear H m; intro m H
  refine w_p h_m19 2 (pc' := 77) (L' := [(0, .ref 106), (1, .ref 41)]) (st' := [.int (0 : Int32), .ref 106]) rfl ?_
  refine w_pf H (12, 18, [(10, .int (0 : Int32)), (9, .long (0 : Int64)), (8, .int (0 : Int32)), (7, .ref 113), (6, .ref 112), (5, .ref 111), (4, .ref 110), (3, .ref 109), (2, .int (0 : Int32)), (1, .ref 107), (0, .null), (11, .int (0 : Int32)), (12, .int (0 : Int32)), (13, .int (0 : Int32)), (14, .int (0 : Int32)), (15, .int (0 : Int32)), (16, .null), (17, .null)], none) (pc' := 80) (L' := [(0, .ref 106), (1, .ref 41)]) h_m19 (z_at.mk 3 rfl rfl) rfl (by decide) rfl (Or.inl rfl) rfl rfl rfl ?_
  clear H m; intro m H
  refine w_p h_m19 2 (pc' := 82) (L' := [(0, .ref 106), (1, .ref 41)]) (st' := [.int (0 : Int32), .ref 106]) rfl ?_
  refine w_pf H (12, 18, [(11, .int (0 : Int32)), (10, .int (0 : Int32)), (9, .long (0 : Int64)), (8, .int (0 : Int32)), (7, .ref 113), (6, .ref 112), (5, .ref 111), (4, .ref 110), (3, .ref 109), (2, .int (0 : Int32)), (1, .ref 107), (0, .null), (12, .int (0 : Int32)), (13, .int (0 : Int32)), (14, .int (0 : Int32)), (15, .int (0 : Int32)), (16, .null), (17, .null)], none) (pc' := 85) (L' := [(0, .ref 106), (1, .ref 41)]) h_m19 (z_at.mk 3 rfl rfl) rfl (by decide) rfl (Or.inl rfl) rfl rfl rfl ?_
  clear H m; intro m H
  refine w_p h_m19 2 (pc' := 87) (L' := [(0, .ref 106), (1, .ref 41)]) (st' := [.int (0 : Int32), .ref 106]) rfl ?_
  refine w_pf H (12, 18, [(12, .int (0 : Int32)), (11, .int (0 : Int32)), (10, .int (0 : Int32)), (9, .long (0 : Int64)), (8, .int (0 : Int32)), (7, .ref 113), (6, .ref 112), (5, .ref 111), (4, .ref 110), (3, .ref 109), (2, .int (0 : Int32)), (1, .ref 107), (0, .null), (13, .int (0 : Int32)), (14, .int (0 : Int32)), (15, .int (0 : Int32)), (16, .null), (17, .null)], none) (pc' := 90) (L' := [(0, .ref 106), (1, .ref 41)]) h_m19 (z_at.mk 3 rfl rfl) rfl (by decide) rfl (Or.inl rfl) rfl rfl rfl ?_
  clear H m; intro m H
  refine w_p h_m19 2 (pc' := 92) (L' := [(0, .ref 106), (1, .ref 41)]) (st' := [.int (0 : Int32), .ref 106]) rfl ?_
  refine w_pf H (12, 18, [(13, .int (0 : Int32)), (12, .int (0 : Int32)), (11, .int (0 : Int32)), (10, .int (0 : Int32)), (9, .long (0 : Int64)), (8, .int (0 : Int32)), (7, .ref 113), (6, .ref 112), (5, .ref 111), (4, .ref 110), (3, .ref 109), (2, .int (0 : Int32)), (1, .ref 107), (0, .null), (14, .int (0 : Int32)), (15, .int (0 : Int32)), (16, .null), (17, .null)], none) (pc' := 95) (L' := [(0, .ref 106), (1, .ref 41)]) h_m19 (z_at.mk 3 rfl rfl) rfl (by decide) rfl (Or.inl rfl) rfl rfl rfl ?_
  clear H m; intro m H
  refine w_p h_m19 2 (pc' := 97) (L' := [(0, .ref 106), (1, .ref 41)]) (st' := [.int (0 : Int32), .ref 106]) rfl ?_
  refine w_pf H (12, 18, [(14, .int (0 : Int32)), (13, .int (0 : Int32)), (12, .int (0 : Int32)), (11, .int (0 : Int32)), (10, .int (0 : Int32)), (9, .long (0 : Int64)), (8, .int (0 : Int32)), (7, .ref 113), (6, .ref 112), (5, .ref 111), (4, .ref 110), (3, .ref 109), (2, .int (0 : Int32)), (1, .ref 107), (0, .null), (15, .int (0 : Int32)), (16, .null), (17, .null)], none) (pc' := 100) (L' := [(0, .ref 106), (1, .ref 41)]) h_m19 (z_at.mk 3 rfl rfl) rfl (by decide) rfl (Or.inl rfl) rfl rfl rfl ?_
  clear H m; intro m H
  refine w_p h_m19 2 (pc' := 102) (L' := [(0, .ref 106), (1, .ref 41)]) (st' := [.int (0 : Int32), .ref 106]) rfl ?_
  refine w_pf H (12, 18, [(15, .int (0 : Int32)), (14, .int (0 : Int32)), (13, .int (0 : Int32)), (12, .int (0 : Int32)), (11, .int (0 : Int32)), (10, .int (0 : Int32)), (9, .long (0 : Int64)), (8, .int (0 : Int32)), (7, .ref 113), (6, .ref 112), (5, .ref 111), (4, .ref 110), (3, .ref 109), (2, .int (0 : Int32)), (1, .ref 107), (0, .null), (16, .null), (17, .null)], none) (pc' := 105) (L' := [(0, .ref 106), (1, .ref 41)]) h_m19 (z_at.mk 3 rfl rfl) rfl (by decide) rfl (Or.inl rfl) rfl rfl rfl ?_
  clear H m; intro m H
  refine w_p h_m19 1 (pc' := 106) (L' := [(0, .ref 106), (1, .ref 41)]) (st' := [.ref 106]) rfl ?_
  refine w_nw H (11, 2, [(0, .null), (1, .int (0 : Int32))], none) (N' := 115) (S' := 4705) (pc' := 109) (L' := [(0, .ref 106), (1, .ref 41)]) h_m19 (z_at.mk 3 rfl rfl) rfl rfl rfl rfl rfl rfl ?_
  clear H m; intro m H
  refine w_p h_m19 2 (pc' := 113) (L' := [(0, .ref 106), (1, .ref 41)]) (st' := [.int (169 : Int32), .ref 114, .ref 114, .ref 106]) rfl ?_
  refine w_cs (As := [.ref 114, .int (169 : Int32)]) (rest := [.ref 114, .ref 106]) (j := 13) (L0 := [(0, .ref 114), (1, .int (169 : Int32))]) (pc' := 116) (L' := [(0, .ref 106), (1, .ref 41)]) h_m19 (z_at.mk 3 rfl rfl) (Or.inr ⟨rfl, rfl⟩) rfl rfl rfl rfl rfl ?_
  refine w_p h_m13 4 (pc' := 6) (L' := [(0, .ref 114), (1, .int (169 : Int32))]) (st' := [.int (0 : Int32), .ref 114]) rfl ?_
  refine w_pf H (11, 2, [(1, .int (0 : Int32)), (0, .null)], none) (pc' := 9) (L' := [(0, .ref 114), (1, .int (169 : Int32))]) h_m13 (z_at.mk 3 rfl rfl) rfl (by decide) rfl (Or.inl rfl) rfl rfl rfl ?_
  clear H m; intro m H
  refine w_p h_m13 3 (pc' := 12) (L' := [(0, .ref 114), (1, .int (169 : Int32))]) (st' := [.int (169 : Int32), .int (0 : Int32), .ref 114]) rfl ?_
  refine w_cs (As := [.int (0 : Int32), .int (169 : Int32)]) (rest := [.ref 114]) (j := 289) (L0 := [(0, .int (0 : Int32)), (1, .int (169 : Int32))]) (pc' := 15) (L' := [(0, .ref 114), (1, .int (169 : Int32))]) h_m13 (z_at.mk 3 rfl rfl) (Or.inl ⟨rfl, rfl⟩) rfl rfl rfl rfl rfl ?_
  refine w_p h_m289 4 (pc' := 10) (L' := []) (st' := [.int (169 : Int32)]) rfl ?_
  refine w_ri h_m289 (z_at.mk 1 rfl rfl) rfl rfl ?_
  show z_W 997 13 15 [(0, .ref 114), (1, .int (169 : Int32))] [.int (169 : Int32), .ref 114] m _
  refine w_na H (ti := 0) (n := 169) (.int (0 : Int32)) (N' := 116) (S' := 4874) (pc' := 17) (L' := [(0, .ref 114), (1, .int (169 : Int32))]) h_m13 (z_at.mk 2 rfl rfl) rfl (by decide) rfl (by decide) rfl rfl rfl rfl rfl ?_
  clear H m; intro m H
  refine w_pf H (11, 2, [(0, .ref 115), (1, .int (0 : Int32))], none) (pc' := 20) (L' := [(0, .ref 114), (1, .int (169 : Int32))]) h_m13 (z_at.mk 3 rfl rfl) rfl (by decide) rfl (Or.inr ⟨rfl, rfl, by decide⟩) rfl rfl rfl ?_
  clear H m; intro m H
  refine w_rv h_m13 (z_at.mk 1 rfl rfl) rfl ?_
  show z_W 998 19 116 [(0, .ref 106), (1, .ref 41)] [.ref 114, .ref 106] m _
  refine w_pf H (12, 18, [(16, .ref 114), (15, .int (0 : Int32)), (14, .int (0 : Int32)), (13, .int (0 : Int32)), (12, .int (0 : Int32)), (11, .int (0 : Int32)), (10, .int (0 : Int32)), (9, .long (0 : Int64)), (8, .int (0 : Int32)), (7, .ref 113), (6, .ref 112), (5, .ref 111), (4, .ref 110), (3, .ref 109), (2, .int (0 : Int32)), (1, .ref 107), (0, .null), (17, .null)], none) (pc' := 119) (L' := [(0, .ref 106), (1, .ref 41)]) h_m19 (z_at.mk 3 rfl rfl) rfl (by decide) rfl (Or.inr ⟨rfl, rfl, by decide⟩) rfl rfl rfl ?_
  clear H m; intro m H
  refine w_p h_m19 1 (pc' := 120) (L' := [(0, .ref 106), (1, .ref 41)]) (st' := [.ref 106]) rfl ?_
  refine w_nw H (11, 2, [(0, .null), (1, .int (0 : Int32))], none) (N' := 117) (S' := 4876) (pc' := 123) (L' := [(0, .ref 106), (1, .ref 41)]) h_m19 (z_at.mk 3 rfl rfl) rfl rfl rfl rfl rfl rfl ?_
  clear H m; intro m H
  refine w_p h_m19 2 (pc' := 127) (L' := [(0, .ref 106), (1, .ref 41)]) (st' := [.int (169 : Int32), .ref 116, .ref 116, .ref 106]) rfl ?_
  refine w_cs (As := [.ref 116, .int (169 : Int32)]) (rest := [.ref 116, .ref 106]) (j := 13) (L0 := [(0, .ref 116), (1, .int (169 : Int32))]) (pc' := 130) (L' := [(0, .ref 106), (1, .ref 41)]) h_m19 (z_at.mk 3 rfl rfl) (Or.inr ⟨rfl, rfl⟩) rfl rfl rfl rfl rfl ?_
  refine w_p h_m13 4 (pc' := 6) (L' := [(0, .ref 116), (1, .int (169 : Int32))]) (st' := [.int (0 : Int32), .ref 116]) rfl ?_
  refine w_pf H (11, 2, [(1, .int (0 : Int32)), (0, .null)], none) (pc' := 9) (L' := [(0, .ref 116), (1, .int (169 : Int32))]) h_m13 (z_at.mk 3 rfl rfl) rfl (by decide) rfl (Or.inl rfl) rfl rfl rfl ?_
  clear H m; intro m H
  refine w_p h_m13 3 (pc' := 12) (L' := [(0, .ref 116), (1, .int (169 : Int32))]) (st' := [.int (169 : Int32), .int (0 : Int32), .ref 116]) rfl ?_
  refine w_cs (As := [.int (0 : Int32), .int (169 : Int32)]) (rest := [.ref 116]) (j := 289) (L0 := [(0, .int (0 : Int32)), (1, .int (169 : Int32))]) (pc' := 15) (L' := [(0, .ref 116), (1, .int (169 : Int32))]) h_m13 (z_at.mk 3 rfl rfl) (Or.inl ⟨rfl, rfl⟩) rfl rfl rfl rfl rfl ?_
  refine w_p h_m289 4 (pc' := 10) (L' := []) (st' := [.int (169 : Int32)]) rfl ?_
  refine w_ri h_m289 (z_at.mk 1 rfl rfl) rfl rfl ?_
  show z_W 997 13 15 [(0, .ref 116), (1, .int (169 : Int32))] [.int (169 : Int32), .ref 116] m _
  refine w_na H (ti := 0) (n := 169) (.int (0 : Int32)) (N' := 118) (S' := 5045) (pc' := 17) (L' := [(0, .ref 116), (1, .int (169 : Int32))]) h_m13 (z_at.mk 2 rfl rfl) rfl (by decide) rfl (by decide) rfl rfl rfl rfl rfl ?_
  clear H m; intro m H
  refine w_pf H (11, 2, [(0, .ref 117), (1, .int (0 : Int32))], none) (pc' := 20) (L' := [(0, .ref 116), (1, .int (169 : Int32))]) h_m13 (z_at.mk 3 rfl rfl) rfl (by decide) rfl (Or.inr ⟨rfl, rfl, by decide⟩) rfl rfl rfl ?_
  clear H m; intro m H
  refine w_rv h_m13 (z_at.mk 1 rfl rfl) rfl ?_
  show z_W 998 19 130 [(0, .ref 106), (1, .ref 41)] [.ref 116, .ref 106] m _
  refine w_pf H (12, 18, [(17, .ref 116), (16, .ref 114), (15, .int (0 : Int32)), (14, .int (0 : Int32)), (13, .int (0 : Int32)), (12, .int (0 : Int32)), (11, .int (0 : Int32)), (10, .int (0 : Int32)), (9, .long (0 : Int64)), (8, .int (0 : Int32)), (7, .ref 113), (6, .ref 112), (5, .ref 111), (4, .ref 110), (3, .ref 109), (2, .int (0 : Int32)), (1, .ref 107), (0, .null)], none) (pc' := 133) (L' := [(0, .ref 106), (1, .ref 41)]) h_m19 (z_at.mk 3 rfl rfl) rfl (by decide) rfl (Or.inr ⟨rfl, rfl, by decide⟩) rfl rfl rfl ?_
  clear H m; intro m H
  refine w_p h_m19 2 (pc' := 135) (L' := [(0, .ref 106), (1, .ref 41)]) (st' := [.ref 41, .ref 106]) rfl ?_
  refine w_pf H (12, 18, [(0, .ref 41), (17, .ref 116), (16, .ref 114), (15, .int (0 : Int32)), (14, .int (0 : Int32)), (13, .int (0 : Int32)), (12, .int (0 : Int32)), (11, .int (0 : Int32)), (10, .int (0 : Int32)), (9, .long (0 : Int64)), (8, .int (0 : Int32)), (7, .ref 113), (6, .ref 112), (5, .ref 111), (4, .ref 110), (3, .ref 109), (2, .int (0 : Int32)), (1, .ref 107)], none) (pc' := 138) (L' := [(0, .ref 106), (1, .ref 41)]) h_m19 (z_at.mk 3 rfl rfl) rfl (by decide) rfl (Or.inr ⟨rfl, rfl, by decide⟩) rfl rfl rfl ?_
  clear H m; intro m H
  refine w_rv h_m19 (z_at.mk 1 rfl rfl) rfl ?_
  show z_W 999 114 46 [(0, .ref 39)] [.ref 106, .ref 39] m _
  refine w_pf H (21, 14, [(3, .ref 106), (2, .int (0 : Int32)), (1, .ref 73), (0, .ref 40), (4, .null), (5, .null), (6, .null), (7, .null), (8, .null), (9, .int (0 : Int32)), (10, .null), (11, .null), (12, .null), (13, .null)], none) (pc' := 49) (L' := [(0, .ref 39)]) h_m114 (z_at.mk 3 rfl rfl) rfl (by decide) rfl (Or.inr ⟨rfl, rfl, by decide⟩) rfl rfl rfl ?_
  clear H m; intro m H
  refine w_p h_m114 1 (pc' := 50) (L' := [(0, .ref 39)]) (st' := [.ref 39]) rfl ?_
  refine w_nw H (16, 1, [(0, .null)], none) (N' := 119) (S' := 5046) (pc' := 53) (L' := [(0, .ref 39)]) h_m114 (z_at.mk 3 rfl rfl) rfl rfl rfl rfl rfl rfl ?_
  clear H m; intro m H
  refine w_p h_m114 1 (pc' := 54) (L' := [(0, .ref 39)]) (st' := [.ref 118, .ref 118, .ref 39]) rfl ?_
  refine w_cs (As := [.ref 118]) (rest := [.ref 118, .ref 39]) (j := 71) (L0 := [(0, .ref 118)]) (pc' := 57) (L' := [(0, .ref 39)]) h_m114 (z_at.mk 3 rfl rfl) (Or.inr ⟨rfl, rfl⟩) rfl rfl rfl rfl rfl ?_
  refine w_p h_m71 4 (pc' := 7) (L' := [(0, .ref 118)]) (st' := [.int (7 : Int32), .ref 118]) rfl ?_
  refine w_na H (ti := 0) (n := 7) (.int (0 : Int32)) (N' := 120) (S' := 5053) (pc' := 9) (L' := [(0, .ref 118)]) h_m71 (z_at.mk 2 rfl rfl) rfl (by decide) rfl (by decide) rfl rfl rfl rfl rfl ?_
  clear H m; intro m H
  refine w_pf H (16, 1, [(0, .ref 119)], none) (pc' := 12) (L' := [(0, .ref 118)]) h_m71 (z_at.mk 3 rfl rfl) rfl (by decide) rfl (Or.inr ⟨rfl, rfl, by decide⟩) rfl rfl rfl ?_
  clear H m; intro m H
  refine w_p h_m71 1 (pc' := 13) (L' := [(0, .ref 118)]) (st' := [.ref 118]) rfl ?_
  refine w_gf H (pc' := 16) (L' := [(0, .ref 118)]) h_m71 (z_at.mk 3 rfl rfl) rfl (u := .ref 119) rfl rfl rfl ?_
  refine w_p h_m71 2 (pc' := 19) (L' := [(0, .ref 118)]) (st' := [.int (10 : Int32), .int (0 : Int32), .ref 119]) rfl ?_
  refine w_as H (t := 0) (j := 0) (u := .int (10 : Int32)) (0, 7, [(0, .int (10 : Int32))], some (.int (0 : Int32))) (pc' := 20) (L' := [(0, .ref 118)]) h_m71 (z_at.mk 1 rfl rfl) rfl rfl (w_ui _ _ (by decide)) rfl rfl rfl rfl ?_
  clear H m; intro m H
  refine w_p h_m71 1 (pc' := 21) (L' := [(0, .ref 118)]) (st' := [.ref 118]) rfl ?_
  refine w_gf H (pc' := 24) (L' := [(0, .ref 118)]) h_m71 (z_at.mk 3 rfl rfl) rfl (u := .ref 119) rfl rfl rfl ?_
  refine w_p h_m71 2 (pc' := 27) (L' := [(0, .ref 118)]) (st' := [.int (40 : Int32), .int (1 : Int32), .ref 119]) rfl ?_
  refine w_as H (t := 0) (j := 1) (u := .int (40 : Int32)) (0, 7, [(1, .int (40 : Int32)), (0, .int (10 : Int32))], some (.int (0 : Int32))) (pc' := 28) (L' := [(0, .ref 118)]) h_m71 (z_at.mk 1 rfl rfl) rfl rfl (w_ui _ _ (by decide)) rfl rfl rfl rfl ?_
  clear H m; intro m H
  refine w_p h_m71 1 (pc' := 29) (L' := [(0, .ref 118)]) (st' := [.ref 118]) rfl ?_
  refine w_gf H (pc' := 32) (L' := [(0, .ref 118)]) h_m71 (z_at.mk 3 rfl rfl) rfl (u := .ref 119) rfl rfl rfl ?_
  refine w_p h_m71 2 (pc' := 35) (L' := [(0, .ref 118)]) (st' := [.int (12 : Int32), .int (2 : Int32), .ref 119]) rfl ?_
  refine w_as H (t := 0) (j := 2) (u := .int (12 : Int32)) (0, 7, [(2, .int (12 : Int32)), (1, .int (40 : Int32)), (0, .int (10 : Int32))], some (.int (0 : Int32))) (pc' := 36) (L' := [(0, .ref 118)]) h_m71 (z_at.mk 1 rfl rfl) rfl rfl (w_ui _ _ (by decide)) rfl rfl rfl rfl ?_
  clear H m; intro m H
  refine w_p h_m71 1 (pc' := 37) (L' := [(0, .ref 118)]) (st' := [.ref 118]) rfl ?_
  refine w_gf H (pc' := 40) (L' := [(0, .ref 118)]) h_m71 (z_at.mk 3 rfl rfl) rfl (u := .ref 119) rfl rfl rfl ?_
  refine w_p h_m71 2 (pc' := 42) (L' := [(0, .ref 118)]) (st' := [.int (0 : Int32), .int (3 : Int32), .ref 119]) rfl ?_
  refine w_as H (t := 0) (j := 3) (u := .int (0 : Int32)) (0, 7, [(3, .int (0 : Int32)), (2, .int (12 : Int32)), (1, .int (40 : Int32)), (0, .int (10 : Int32))], some (.int (0 : Int32))) (pc' := 43) (L' := [(0, .ref 118)]) h_m71 (z_at.mk 1 rfl rfl) rfl rfl (w_ui _ _ (by decide)) rfl rfl rfl rfl ?_
  clear H m; intro m H
  refine w_p h_m71 1 (pc' := 44) (L' := [(0, .ref 118)]) (st' := [.ref 118]) rfl ?_
  refine w_gf H (pc' := 47) (L' := [(0, .ref 118)]) h_m71 (z_at.mk 3 rfl rfl) rfl (u := .ref 119) rfl rfl rfl ?_
  refine w_p h_m71 2 (pc' := 49) (L' := [(0, .ref 118)]) (st' := [.int (1 : Int32), .int (4 : Int32), .ref 119]) rfl ?_
  refine w_as H (t := 0) (j := 4) (u := .int (1 : Int32)) (0, 7, [(4, .int (1 : Int32)), (3, .int (0 : Int32)), (2, .int (12 : Int32)), (1, .int (40 : Int32)), (0, .int (10 : Int32))], some (.int (0 : Int32))) (pc' := 50) (L' := [(0, .ref 118)]) h_m71 (z_at.mk 1 rfl rfl) rfl rfl (w_ui _ _ (by decide)) rfl rfl rfl rfl ?_
  clear H m; intro m H
  refine w_p h_m71 1 (pc' := 51) (L' := [(0, .ref 118)]) (st' := [.ref 118]) rfl ?_
  refine w_gf H (pc' := 54) (L' := [(0, .ref 118)]) h_m71 (z_at.mk 3 rfl rfl) rfl (u := .ref 119) rfl rfl rfl ?_
  refine w_p h_m71 2 (pc' := 56) (L' := [(0, .ref 118)]) (st' := [.int (1 : Int32), .int (5 : Int32), .ref 119]) rfl ?_
  refine w_as H (t := 0) (j := 5) (u := .int (1 : Int32)) (0, 7, [(5, .int (1 : Int32)), (4, .int (1 : Int32)), (3, .int (0 : Int32)), (2, .int (12 : Int32)), (1, .int (40 : Int32)), (0, .int (10 : Int32))], some (.int (0 : Int32))) (pc' := 57) (L' := [(0, .ref 118)]) h_m71 (z_at.mk 1 rfl rfl) rfl rfl (w_ui _ _ (by decide)) rfl rfl rfl rfl ?_
  clear H m; intro m H
  refine w_p h_m71 1 (pc' := 58) (L' := [(0, .ref 118)]) (st' := [.ref 118]) rfl ?_
  refine w_gf H (pc' := 61) (L' := [(0, .ref 118)]) h_m71 (z_at.mk 3 rfl rfl) rfl (u := .ref 119) rfl rfl rfl ?_
  refine w_p h_m71 2 (pc' := 66) (L' := [(0, .ref 118)]) (st' := [.int (1024 : Int32), .int (6 : Int32), .ref 119]) rfl ?_
  refine w_as H (t := 0) (j := 6) (u := .int (1024 : Int32)) (0, 7, [(6, .int (1024 : Int32)), (5, .int (1 : Int32)), (4, .int (1 : Int32)), (3, .int (0 : Int32)), (2, .int (12 : Int32)), (1, .int (40 : Int32)), (0, .int (10 : Int32))], some (.int (0 : Int32))) (pc' := 67) (L' := [(0, .ref 118)]) h_m71 (z_at.mk 1 rfl rfl) rfl rfl (w_ui _ _ (by decide)) rfl rfl rfl rfl ?_
  clear H m; intro m H
  refine w_rv h_m71 (z_at.mk 1 rfl rfl) rfl ?_
  show z_W 999 114 57 [(0, .ref 39)] [.ref 118, .ref 39] m _
  refine w_pf H (21, 14, [(4, .ref 118), (3, .ref 106), (2, .int (0 : Int32)), (1, .ref 73), (0, .ref 40), (5, .null), (6, .null), (7, .null), (8, .null), (9, .int (0 : Int32)), (10, .null), (11, .null), (12, .null), (13, .null)], none) (pc' := 60) (L' := [(0, .ref 39)]) h_m114 (z_at.mk 3 rfl rfl) rfl (by decide) rfl (Or.inr ⟨rfl, rfl, by decide⟩) rfl rfl rfl ?_
  clear H m; intro m H
  refine w_p h_m114 1 (pc' := 61) (L' := [(0, .ref 39)]) (st' := [.ref 39]) rfl ?_
  refine w_nw H (19, 4, [(0, .null), (1, .int (0 : Int32)), (2, .int (0 : Int32)), (3, .int (0 : Int32))], none) (N' := 121) (S' := 5057) (pc' := 64) (L' := [(0, .ref 39)]) h_m114 (z_at.mk 3 rfl rfl) rfl rfl rfl rfl rfl rfl ?_
  clear H m; intro m H
  refine w_p h_m114 1 (pc' := 65) (L' := [(0, .ref 39)]) (st' := [.ref 120, .ref 120, .ref 39]) rfl ?_
  refine w_cs (As := [.ref 120]) (rest := [.ref 120, .ref 39]) (j := 90) (L0 := [(0, .ref 120)]) (pc' := 68) (L' := [(0, .ref 39)]) h_m114 (z_at.mk 3 rfl rfl) (Or.inr ⟨rfl, rfl⟩) rfl rfl rfl rfl rfl ?_
  refine w_p h_m90 4 (pc' := 8) (L' := [(0, .ref 120)]) (st' := [.int (160 : Int32), .ref 120]) rfl ?_
  refine w_na H (ti := 2) (n := 160) (.int (0 : Int32)) (N' := 122) (S' := 5217) (pc' := 10) (L' := [(0, .ref 120)]) h_m90 (z_at.mk 2 rfl rfl) rfl (by decide) rfl (by decide) rfl rfl rfl rfl rfl ?_
  clear H m; intro m H
  refine w_pf H (19, 4, [(0, .ref 121), (1, .int (0 : Int32)), (2, .int (0 : Int32)), (3, .int (0 : Int32))], none) (pc' := 13) (L' := [(0, .ref 120)]) h_m90 (z_at.mk 3 rfl rfl) rfl (by decide) rfl (Or.inr ⟨rfl, rfl, by decide⟩) rfl rfl rfl ?_
  clear H m; intro m H
  refine w_p h_m90 2 (pc' := 15) (L' := [(0, .ref 120)]) (st' := [.int (0 : Int32), .ref 120]) rfl ?_
  refine w_pf H (19, 4, [(1, .int (0 : Int32)), (0, .ref 121), (2, .int (0 : Int32)), (3, .int (0 : Int32))], none) (pc' := 18) (L' := [(0, .ref 120)]) h_m90 (z_at.mk 3 rfl rfl) rfl (by decide) rfl (Or.inl rfl) rfl rfl rfl ?_
  clear H m; intro m H
  refine w_p h_m90 2 (pc' := 20) (L' := [(0, .ref 120)]) (st' := [.int (0 : Int32), .ref 120]) rfl ?_
  refine w_pf H (19, 4, [(2, .int (0 : Int32)), (1, .int (0 : Int32)), (0, .ref 121), (3, .int (0 : Int32))], none) (pc' := 23) (L' := [(0, .ref 120)]) h_m90 (z_at.mk 3 rfl rfl) rfl (by decide) rfl (Or.inl rfl) rfl rfl rfl ?_
  clear H m; intro m H
  refine w_p h_m90 2 (pc' := 25) (L' := [(0, .ref 120)]) (st' := [.int (-1 : Int32), .ref 120]) rfl ?_
  refine w_pf H (19, 4, [(3, .int (-1 : Int32)), (2, .int (0 : Int32)), (1, .int (0 : Int32)), (0, .ref 121)], none) (pc' := 28) (L' := [(0, .ref 120)]) h_m90 (z_at.mk 3 rfl rfl) rfl (by decide) rfl (Or.inl rfl) rfl rfl rfl ?_
  clear H m; intro m H
  refine w_rv h_m90 (z_at.mk 1 rfl rfl) rfl ?_
  show z_W 999 114 68 [(0, .ref 39)] [.ref 120, .ref 39] m _
  refine w_pf H (21, 14, [(5, .ref 120), (4, .ref 118), (3, .ref 106), (2, .int (0 : Int32)), (1, .ref 73), (0, .ref 40), (6, .null), (7, .null), (8, .null), (9, .int (0 : Int32)), (10, .null), (11, .null), (12, .null), (13, .null)], none) (pc' := 71) (L' := [(0, .ref 39)]) h_m114 (z_at.mk 3 rfl rfl) rfl (by decide) rfl (Or.inr ⟨rfl, rfl, by decide⟩) rfl rfl rfl ?_
  clear H m; intro m H
  refine w_p h_m114 1 (pc' := 72) (L' := [(0, .ref 39)]) (st' := [.ref 39]) rfl ?_
  refine w_nw H (15, 6, [(0, .null), (1, .null), (2, .null), (3, .null), (4, .null), (5, .int (0 : Int32))], none) (N' := 123) (S' := 5223) (pc' := 75) (L' := [(0, .ref 39)]) h_m114 (z_at.mk 3 rfl rfl) rfl rfl rfl rfl rfl rfl ?_
  clear H m; intro m H
  refine w_p h_m114 2 (pc' := 77) (L' := [(0, .ref 39)]) (st' := [.ref 39, .ref 122, .ref 122, .ref 39]) rfl ?_
  refine w_gf H (pc' := 80) (L' := [(0, .ref 39)]) h_m114 (z_at.mk 3 rfl rfl) rfl (u := .ref 120) rfl rfl rfl ?_
  refine w_p h_m114 1 (pc' := 81) (L' := [(0, .ref 39)]) (st' := [.ref 39, .ref 120, .ref 122, .ref 122, .ref 39]) rfl ?_
  refine w_gf H (pc' := 84) (L' := [(0, .ref 39)]) h_m114 (z_at.mk 3 rfl rfl) rfl (u := .ref 40) rfl rfl rfl ?_
  refine w_gf H (pc' := 87) (L' := [(0, .ref 39)]) h_m114 (z_at.mk 3 rfl rfl) rfl (u := .ref 41) rfl rfl rfl ?_
  refine w_cs (As := [.ref 122, .ref 120, .ref 41]) (rest := [.ref 122, .ref 39]) (j := 65) (L0 := [(0, .ref 122), (1, .ref 120), (2, .ref 41)]) (pc' := 90) (L' := [(0, .ref 39)]) h_m114 (z_at.mk 3 rfl rfl) (Or.inr ⟨rfl, rfl⟩) rfl rfl rfl rfl rfl ?_
  refine w_p h_m65 4 (pc' := 7) (L' := [(0, .ref 122), (1, .ref 120), (2, .ref 41)]) (st' := [.int (8 : Int32), .ref 122]) rfl ?_
  refine w_na H (ti := 0) (n := 8) (.int (0 : Int32)) (N' := 124) (S' := 5231) (pc' := 9) (L' := [(0, .ref 122), (1, .ref 120), (2, .ref 41)]) h_m65 (z_at.mk 2 rfl rfl) rfl (by decide) rfl (by decide) rfl rfl rfl rfl rfl ?_
  clear H m; intro m H
  refine w_pf H (15, 6, [(2, .ref 123), (0, .null), (1, .null), (3, .null), (4, .null), (5, .int (0 : Int32))], none) (pc' := 12) (L' := [(0, .ref 122), (1, .ref 120), (2, .ref 41)]) h_m65 (z_at.mk 3 rfl rfl) rfl (by decide) rfl (Or.inr ⟨rfl, rfl, by decide⟩) rfl rfl rfl ?_
  clear H m; intro m H
  refine w_p h_m65 2 (pc' := 15) (L' := [(0, .ref 122), (1, .ref 120), (2, .ref 41)]) (st' := [.int (8 : Int32), .ref 122]) rfl ?_
  refine w_na H (ti := 0) (n := 8) (.int (0 : Int32)) (N' := 125) (S' := 5239) (pc' := 17) (L' := [(0, .ref 122), (1, .ref 120), (2, .ref 41)]) h_m65 (z_at.mk 2 rfl rfl) rfl (by decide) rfl (by decide) rfl rfl rfl rfl rfl ?_
  clear H m; intro m H
  refine w_pf H (15, 6, [(3, .ref 124), (2, .ref 123), (0, .null), (1, .null), (4, .null), (5, .int (0 : Int32))], none) (pc' := 20) (L' := [(0, .ref 122), (1, .ref 120), (2, .ref 41)]) h_m65 (z_at.mk 3 rfl rfl) rfl (by decide) rfl (Or.inr ⟨rfl, rfl, by decide⟩) rfl rfl rfl ?_
  clear H m; intro m H
  refine w_p h_m65 2 (pc' := 23) (L' := [(0, .ref 122), (1, .ref 120), (2, .ref 41)]) (st' := [.int (8 : Int32), .ref 122]) rfl ?_
  refine w_na H (ti := 1) (n := 8) (.long (0 : Int64)) (N' := 126) (S' := 5247) (pc' := 25) (L' := [(0, .ref 122), (1, .ref 120), (2, .ref 41)]) h_m65 (z_at.mk 2 rfl rfl) rfl (by decide) rfl (by decide) rfl rfl rfl rfl rfl ?_
  clear H m; intro m H
  refine w_pf H (15, 6, [(4, .ref 125), (3, .ref 124), (2, .ref 123), (0, .null), (1, .null), (5, .int (0 : Int32))], none) (pc' := 28) (L' := [(0, .ref 122), (1, .ref 120), (2, .ref 41)]) h_m65 (z_at.mk 3 rfl rfl) rfl (by decide) rfl (Or.inr ⟨rfl, rfl, by decide⟩) rfl rfl rfl ?_
  clear H m; intro m H
  refine w_p h_m65 2 (pc' := 30) (L' := [(0, .ref 122), (1, .ref 120), (2, .ref 41)]) (st' := [.int (0 : Int32), .ref 122]) rfl ?_
  refine w_pf H (15, 6, [(5, .int (0 : Int32)), (4, .ref 125), (3, .ref 124), (2, .ref 123), (0, .null), (1, .null)], none) (pc' := 33) (L' := [(0, .ref 122), (1, .ref 120), (2, .ref 41)]) h_m65 (z_at.mk 3 rfl rfl) rfl (by decide) rfl (Or.inl rfl) rfl rfl rfl ?_
  clear H m; intro m H
  refine w_p h_m65 2 (pc' := 35) (L' := [(0, .ref 122), (1, .ref 120), (2, .ref 41)]) (st' := [.ref 120, .ref 122]) rfl ?_
  refine w_pf H (15, 6, [(0, .ref 120), (5, .int (0 : Int32)), (4, .ref 125), (3, .ref 124), (2, .ref 123), (1, .null)], none) (pc' := 38) (L' := [(0, .ref 122), (1, .ref 120), (2, .ref 41)]) h_m65 (z_at.mk 3 rfl rfl) rfl (by decide) rfl (Or.inr ⟨rfl, rfl, by decide⟩) rfl rfl rfl ?_
  clear H m; intro m H
  refine w_p h_m65 2 (pc' := 40) (L' := [(0, .ref 122), (1, .ref 120), (2, .ref 41)]) (st' := [.ref 41, .ref 122]) rfl ?_
  refine w_pf H (15, 6, [(1, .ref 41), (0, .ref 120), (5, .int (0 : Int32)), (4, .ref 125), (3, .ref 124), (2, .ref 123)], none) (pc' := 43) (L' := [(0, .ref 122), (1, .ref 120), (2, .ref 41)]) h_m65 (z_at.mk 3 rfl rfl) rfl (by decide) rfl (Or.inr ⟨rfl, rfl, by decide⟩) rfl rfl rfl ?_
  clear H m; intro m H
  refine w_rv h_m65 (z_at.mk 1 rfl rfl) rfl ?_
  show z_W 999 114 90 [(0, .ref 39)] [.ref 122, .ref 39] m _
  refine w_pf H (21, 14, [(6, .ref 122), (5, .ref 120), (4, .ref 118), (3, .ref 106), (2, .int (0 : Int32)), (1, .ref 73), (0, .ref 40), (7, .null), (8, .null), (9, .int (0 : Int32)), (10, .null), (11, .null), (12, .null), (13, .null)], none) (pc' := 93) (L' := [(0, .ref 39)]) h_m114 (z_at.mk 3 rfl rfl) rfl (by decide) rfl (Or.inr ⟨rfl, rfl, by decide⟩) rfl rfl rfl ?_
  clear H m; intro m H
  refine w_p h_m114 1 (pc' := 94) (L' := [(0, .ref 39)]) (st' := [.ref 39]) rfl ?_
  refine w_nw H (11, 2, [(0, .null), (1, .int (0 : Int32))], none) (N' := 127) (S' := 5249) (pc' := 97) (L' := [(0, .ref 39)]) h_m114 (z_at.mk 3 rfl rfl) rfl rfl rfl rfl rfl rfl ?_
  clear H m; intro m H
  refine w_p h_m114 2 (pc' := 100) (L' := [(0, .ref 39)]) (st' := [.int (12 : Int32), .ref 126, .ref 126, .ref 39]) rfl ?_
  refine w_cs (As := [.ref 126, .int (12 : Int32)]) (rest := [.ref 126, .ref 39]) (j := 13) (L0 := [(0, .ref 126), (1, .int (12 : Int32))]) (pc' := 103) (L' := [(0, .ref 39)]) h_m114 (z_at.mk 3 rfl rfl) (Or.inr ⟨rfl, rfl⟩) rfl rfl rfl rfl rfl ?_
  refine w_p h_m13 4 (pc' := 6) (L' := [(0, .ref 126), (1, .int (12 : Int32))]) (st' := [.int (0 : Int32), .ref 126]) rfl ?_
  refine w_pf H (11, 2, [(1, .int (0 : Int32)), (0, .null)], none) (pc' := 9) (L' := [(0, .ref 126), (1, .int (12 : Int32))]) h_m13 (z_at.mk 3 rfl rfl) rfl (by decide) rfl (Or.inl rfl) rfl rfl rfl ?_
  clear H m; intro m H
  refine w_p h_m13 3 (pc' := 12) (L' := [(0, .ref 126), (1, .int (12 : Int32))]) (st' := [.int (12 : Int32), .int (0 : Int32), .ref 126]) rfl ?_
  refine w_cs (As := [.int (0 : Int32), .int (12 : Int32)]) (rest := [.ref 126]) (j := 289) (L0 := [(0, .int (0 : Int32)), (1, .int (12 : Int32))]) (pc' := 15) (L' := [(0, .ref 126), (1, .int (12 : Int32))]) h_m13 (z_at.mk 3 rfl rfl) (Or.inl ⟨rfl, rfl⟩) rfl rfl rfl rfl rfl ?_
  refine w_p h_m289 4 (pc' := 10) (L' := []) (st' := [.int (12 : Int32)]) rfl ?_
  refine w_ri h_m289 (z_at.mk 1 rfl rfl) rfl rfl ?_
  show z_W 998 13 15 [(0, .ref 126), (1, .int (12 : Int32))] [.int (12 : Int32), .ref 126] m _
  refine w_na H (ti := 0) (n := 12) (.int (0 : Int32)) (N' := 128) (S' := 5261) (pc' := 17) (L' := [(0, .ref 126), (1, .int (12 : Int32))]) h_m13 (z_at.mk 2 rfl rfl) rfl (by decide) rfl (by decide) rfl rfl rfl rfl rfl ?_
  clear H m; intro m H
  refine w_pf H (11, 2, [(0, .ref 127), (1, .int (0 : Int32))], none) (pc' := 20) (L' := [(0, .ref 126), (1, .int (12 : Int32))]) h_m13 (z_at.mk 3 rfl rfl) rfl (by decide) rfl (Or.inr ⟨rfl, rfl, by decide⟩) rfl rfl rfl ?_
  clear H m; intro m H
  refine w_rv h_m13 (z_at.mk 1 rfl rfl) rfl ?_
  show z_W 999 114 103 [(0, .ref 39)] [.ref 126, .ref 39] m _
  refine w_pf H (21, 14, [(7, .ref 126), (6, .ref 122), (5, .ref 120), (4, .ref 118), (3, .ref 106), (2, .int (0 : Int32)), (1, .ref 73), (0, .ref 40), (8, .null), (9, .int (0 : Int32)), (10, .null), (11, .null), (12, .null), (13, .null)], none) (pc' := 106) (L' := [(0, .ref 39)]) h_m114 (z_at.mk 3 rfl rfl) rfl (by decide) rfl (Or.inr ⟨rfl, rfl, by decide⟩) rfl rfl rfl ?_
  clear H m; intro m H
  refine w_p h_m114 2 (pc' := 109) (L' := [(0, .ref 39)]) (st' := [.int (8 : Int32), .ref 39]) rfl ?_
  refine w_na H (ti := 1) (n := 8) (.long (0 : Int64)) (N' := 129) (S' := 5269) (pc' := 111) (L' := [(0, .ref 39)]) h_m114 (z_at.mk 2 rfl rfl) rfl (by decide) rfl (by decide) rfl rfl rfl rfl rfl ?_
  clear H m; intro m H
  refine w_pf H (21, 14, [(8, .ref 128), (7, .ref 126), (6, .ref 122), (5, .ref 120), (4, .ref 118), (3, .ref 106), (2, .int (0 : Int32)), (1, .ref 73), (0, .ref 40), (9, .int (0 : Int32)), (10, .null), (11, .null), (12, .null), (13, .null)], none) (pc' := 114) (L' := [(0, .ref 39)]) h_m114 (z_at.mk 3 rfl rfl) rfl (by decide) rfl (Or.inr ⟨rfl, rfl, by decide⟩) rfl rfl rfl ?_
  clear H m; intro m H
  refine w_p h_m114 2 (pc' := 116) (L' := [(0, .ref 39)]) (st' := [.int (0 : Int32), .ref 39]) rfl ?_
  refine w_pf H (21, 14, [(9, .int (0 : Int32)), (8, .ref 128), (7, .ref 126), (6, .ref 122), (5, .ref 120), (4, .ref 118), (3, .ref 106), (2, .int (0 : Int32)), (1, .ref 73), (0, .ref 40), (10, .null), (11, .null), (12, .null), (13, .null)], none) (pc' := 119) (L' := [(0, .ref 39)]) h_m114 (z_at.mk 3 rfl rfl) rfl (by decide) rfl (Or.inl rfl) rfl rfl rfl ?_
  clear H m; intro m H
  refine w_p h_m114 1 (pc' := 120) (L' := [(0, .ref 39)]) (st' := [.ref 39]) rfl ?_
  refine w_nw H (23, 4, [(0, .null), (1, .int (0 : Int32)), (2, .int (0 : Int32)), (3, .int (0 : Int32))], none) (N' := 130) (S' := 5273) (pc' := 123) (L' := [(0, .ref 39)]) h_m114 (z_at.mk 3 rfl rfl) rfl rfl rfl rfl rfl rfl ?_
  clear H m; intro m H
  refine w_p h_m114 1 (pc' := 124) (L' := [(0, .ref 39)]) (st' := [.ref 129, .ref 129, .ref 39]) rfl ?_
  refine w_cs (As := [.ref 129]) (rest := [.ref 129, .ref 39]) (j := 301) (L0 := [(0, .ref 129)]) (pc' := 127) (L' := [(0, .ref 39)]) h_m114 (z_at.mk 3 rfl rfl) (Or.inr ⟨rfl, rfl⟩) rfl rfl rfl rfl rfl ?_
  refine w_p h_m301 2 (pc' := 3) (L' := [(0, .ref 129)]) (st' := [.int (16 : Int32), .ref 129]) rfl ?_
  refine w_cs (As := [.ref 129, .int (16 : Int32)]) (rest := []) (j := 272) (L0 := [(0, .ref 129), (1, .int (16 : Int32))]) (pc' := 6) (L' := [(0, .ref 129)]) h_m301 (z_at.mk 3 rfl rfl) (Or.inr ⟨rfl, rfl⟩) rfl rfl rfl rfl rfl ?_
  refine w_p h_m272 6 (pc' := 12) (L' := [(0, .ref 129), (1, .int (16 : Int32))]) (st' := [.int (16 : Int32), .ref 129]) rfl ?_
  refine w_na H (ti := 2) (n := 16) (.int (0 : Int32)) (N' := 131) (S' := 5289) (pc' := 14) (L' := [(0, .ref 129), (1, .int (16 : Int32))]) h_m272 (z_at.mk 2 rfl rfl) rfl (by decide) rfl (by decide) rfl rfl rfl rfl rfl ?_
  clear H m; intro m H
  refine w_pf H (23, 4, [(0, .ref 130), (1, .int (0 : Int32)), (2, .int (0 : Int32)), (3, .int (0 : Int32))], none) (pc' := 17) (L' := [(0, .ref 129), (1, .int (16 : Int32))]) h_m272 (z_at.mk 3 rfl rfl) rfl (by decide) rfl (Or.inl rfl) rfl rfl rfl ?_
  clear H m; intro m H
  refine w_p h_m272 2 (pc' := 19) (L' := [(0, .ref 129), (1, .int (16 : Int32))]) (st' := [.int (0 : Int32), .ref 129]) rfl ?_
  refine w_pf H (23, 4, [(1, .int (0 : Int32)), (0, .ref 130), (2, .int (0 : Int32)), (3, .int (0 : Int32))], none) (pc' := 22) (L' := [(0, .ref 129), (1, .int (16 : Int32))]) h_m272 (z_at.mk 3 rfl rfl) rfl (by decide) rfl (Or.inl rfl) rfl rfl rfl ?_
  clear H m; intro m H
  refine w_p h_m272 1 (pc' := 38) (L' := []) (st' := []) rfl ?_
  refine w_rv h_m272 (z_at.mk 1 rfl rfl) rfl ?_
  show z_W 998 301 6 [(0, .ref 129)] [] m _
  refine w_rv h_m301 (z_at.mk 1 rfl rfl) rfl ?_
  show z_W 999 114 127 [(0, .ref 39)] [.ref 129, .ref 39] m _
  refine w_pf H (21, 14, [(10, .ref 129), (9, .int (0 : Int32)), (8, .ref 128), (7, .ref 126), (6, .ref 122), (5, .ref 120), (4, .ref 118), (3, .ref 106), (2, .int (0 : Int32)), (1, .ref 73), (0, .ref 40), (11, .null), (12, .null), (13, .null)], none) (pc' := 130) (L' := [(0, .ref 39)]) h_m114 (z_at.mk 3 rfl rfl) rfl (by decide) rfl (Or.inr ⟨rfl, rfl, by decide⟩) rfl rfl rfl ?_
  clear H m; intro m H
  refine w_p h_m114 1 (pc' := 131) (L' := [(0, .ref 39)]) (st' := [.ref 39]) rfl ?_
  refine w_nw H (11, 2, [(0, .null), (1, .int (0 : Int32))], none) (N' := 132) (S' := 5291) (pc' := 134) (L' := [(0, .ref 39)]) h_m114 (z_at.mk 3 rfl rfl) rfl rfl rfl rfl rfl rfl ?_
  clear H m; intro m H
  refine w_p h_m114 2 (pc' := 138) (L' := [(0, .ref 39)]) (st' := [.int (181 : Int32), .ref 131, .ref 131, .ref 39]) rfl ?_
  refine w_cs (As := [.ref 131, .int (181 : Int32)]) (rest := [.ref 131, .ref 39]) (j := 13) (L0 := [(0, .ref 131), (1, .int (181 : Int32))]) (pc' := 141) (L' := [(0, .ref 39)]) h_m114 (z_at.mk 3 rfl rfl) (Or.inr ⟨rfl, rfl⟩) rfl rfl rfl rfl rfl ?_
  refine w_p h_m13 4 (pc' := 6) (L' := [(0, .ref 131), (1, .int (181 : Int32))]) (st' := [.int (0 : Int32), .ref 131]) rfl ?_
  refine w_pf H (11, 2, [(1, .int (0 : Int32)), (0, .null)], none) (pc' := 9) (L' := [(0, .ref 131), (1, .int (181 : Int32))]) h_m13 (z_at.mk 3 rfl rfl) rfl (by decide) rfl (Or.inl rfl) rfl rfl rfl ?_
  clear H m; intro m H
  refine w_p h_m13 3 (pc' := 12) (L' := [(0, .ref 131), (1, .int (181 : Int32))]) (st' := [.int (181 : Int32), .int (0 : Int32), .ref 131]) rfl ?_
  refine w_cs (As := [.int (0 : Int32), .int (181 : Int32)]) (rest := [.ref 131]) (j := 289) (L0 := [(0, .int (0 : Int32)), (1, .int (181 : Int32))]) (pc' := 15) (L' := [(0, .ref 131), (1, .int (181 : Int32))]) h_m13 (z_at.mk 3 rfl rfl) (Or.inl ⟨rfl, rfl⟩) rfl rfl rfl rfl rfl ?_
  refine w_p h_m289 4 (pc' := 10) (L' := []) (st' := [.int (181 : Int32)]) rfl ?_
  refine w_ri h_m289 (z_at.mk 1 rfl rfl) rfl rfl ?_
  show z_W 998 13 15 [(0, .ref 131), (1, .int (181 : Int32))] [.int (181 : Int32), .ref 131] m _
  refine w_na H (ti := 0) (n := 181) (.int (0 : Int32)) (N' := 133) (S' := 5472) (pc' := 17) (L' := [(0, .ref 131), (1, .int (181 : Int32))]) h_m13 (z_at.mk 2 rfl rfl) rfl (by decide) rfl (by decide) rfl rfl rfl rfl rfl ?_
  clear H m; intro m H
  refine w_pf H (11, 2, [(0, .ref 132), (1, .int (0 : Int32))], none) (pc' := 20) (L' := [(0, .ref 131), (1, .int (181 : Int32))]) h_m13 (z_at.mk 3 rfl rfl) rfl (by decide) rfl (Or.inr ⟨rfl, rfl, by decide⟩) rfl rfl rfl ?_
  clear H m; intro m H
  refine w_rv h_m13 (z_at.mk 1 rfl rfl) rfl ?_
  show z_W 999 114 141 [(0, .ref 39)] [.ref 131, .ref 39] m _
  refine w_pf H (21, 14, [(11, .ref 131), (10, .ref 129), (9, .int (0 : Int32)), (8, .ref 128), (7, .ref 126), (6, .ref 122), (5, .ref 120), (4, .ref 118), (3, .ref 106), (2, .int (0 : Int32)), (1, .ref 73), (0, .ref 40), (12, .null), (13, .null)], none) (pc' := 144) (L' := [(0, .ref 39)]) h_m114 (z_at.mk 3 rfl rfl) rfl (by decide) rfl (Or.inr ⟨rfl, rfl, by decide⟩) rfl rfl rfl ?_
  clear H m; intro m H
  refine w_p h_m114 2 (pc' := 148) (L' := [(0, .ref 39)]) (st' := [.int (181 : Int32), .ref 39]) rfl ?_
  refine w_na H (ti := 0) (n := 181) (.int (0 : Int32)) (N' := 134) (S' := 5653) (pc' := 150) (L' := [(0, .ref 39)]) h_m114 (z_at.mk 2 rfl rfl) rfl (by decide) rfl (by decide) rfl rfl rfl rfl rfl ?_
  clear H m; intro m H
  refine w_pf H (21, 14, [(12, .ref 133), (11, .ref 131), (10, .ref 129), (9, .int (0 : Int32)), (8, .ref 128), (7, .ref 126), (6, .ref 122), (5, .ref 120), (4, .ref 118), (3, .ref 106), (2, .int (0 : Int32)), (1, .ref 73), (0, .ref 40), (13, .null)], none) (pc' := 153) (L' := [(0, .ref 39)]) h_m114 (z_at.mk 3 rfl rfl) rfl (by decide) rfl (Or.inr ⟨rfl, rfl, by decide⟩) rfl rfl rfl ?_
  clear H m; intro m H
  refine w_p h_m114 1 (pc' := 154) (L' := [(0, .ref 39)]) (st' := [.ref 39]) rfl ?_
  refine w_nw H (14, 2, [(0, .null), (1, .null)], none) (N' := 135) (S' := 5655) (pc' := 157) (L' := [(0, .ref 39)]) h_m114 (z_at.mk 3 rfl rfl) rfl rfl rfl rfl rfl rfl ?_
  clear H m; intro m H
  refine w_p h_m114 1 (pc' := 158) (L' := [(0, .ref 39)]) (st' := [.ref 134, .ref 134, .ref 39]) rfl ?_
  refine w_cs (As := [.ref 134]) (rest := [.ref 134, .ref 39]) (j := 57) (L0 := [(0, .ref 134)]) (pc' := 161) (L' := [(0, .ref 39)]) h_m114 (z_at.mk 3 rfl rfl) (Or.inr ⟨rfl, rfl⟩) rfl rfl rfl rfl rfl ?_
  refine w_p h_m57 5 (pc' := 9) (L' := [(0, .ref 134)]) (st' := [.int (60 : Int32), .int (6 : Int32), .ref 134]) rfl ?_
  refine w_mm H (n := 6) (k2 := 60) (N' := 142) (S' := 6021) (T' := [(141, (1, 60, [], some (.long (0 : Int64)))), (140, (1, 60, [], some (.long (0 : Int64)))), (139, (1, 60, [], some (.long (0 : Int64)))), (138, (1, 60, [], some (.long (0 : Int64)))), (137, (1, 60, [], some (.long (0 : Int64)))), (136, (1, 60, [], some (.long (0 : Int64)))), (135, (3, 6, [(0, .ref 136), (1, .ref 137), (2, .ref 138), (3, .ref 139), (4, .ref 140), (5, .ref 141)], none))]) (pc' := 13) (L' := [(0, .ref 134)]) h_m57 (z_at.mk 4 rfl rfl) rfl rfl rfl (by decide) (by decide) rfl rfl rfl rfl rfl ?_
  clear H m; intro m H
  refine w_pf H (14, 2, [(0, .ref 135), (1, .null)], none) (pc' := 16) (L' := [(0, .ref 134)]) h_m57 (z_at.mk 3 rfl rfl) rfl (by decide) rfl (Or.inr ⟨rfl, rfl, by decide⟩) rfl rfl rfl ?_
  clear H m; intro m H
  refine w_p h_m57 2 (pc' := 19) (L' := [(0, .ref 134)]) (st' := [.int (6 : Int32), .ref 134]) rfl ?_
  refine w_na H (ti := 0) (n := 6) (.int (0 : Int32)) (N' := 143) (S' := 6027) (pc' := 21) (L' := [(0, .ref 134)]) h_m57 (z_at.mk 2 rfl rfl) rfl (by decide) rfl (by decide) rfl rfl rfl rfl rfl ?_
  clear H m; intro m H
  refine w_pf H (14, 2, [(1, .ref 142), (0, .ref 135)], none) (pc' := 24) (L' := [(0, .ref 134)]) h_m57 (z_at.mk 3 rfl rfl) rfl (by decide) rfl (Or.inr ⟨rfl, rfl, by decide⟩) rfl rfl rfl ?_
  clear H m; intro m H
  refine w_p h_m57 6 (pc' := 33) (L' := [(0, .ref 134), (1, .int (0 : Int32))]) (st' := [.ref 134]) rfl ?_
  refine w_gf H (pc' := 36) (L' := [(0, .ref 134), (1, .int (0 : Int32))]) h_m57 (z_at.mk 3 rfl rfl) rfl (u := .ref 142) rfl rfl rfl ?_
  refine w_p h_m57 2 (pc' := 38) (L' := [(0, .ref 134), (1, .int (0 : Int32))]) (st' := [.int (-1 : Int32), .int (0 : Int32), .ref 142]) rfl ?_
  refine w_as H (t := 0) (j := 0) (u := .int (-1 : Int32)) (0, 6, [(0, .int (-1 : Int32))], some (.int (0 : Int32))) (pc' := 39) (L' := [(0, .ref 134), (1, .int (0 : Int32))]) h_m57 (z_at.mk 1 rfl rfl) rfl rfl (w_ui _ _ (by decide)) rfl rfl rfl rfl ?_
  clear H m; intro m H
  refine w_p h_m57 6 (pc' := 33) (L' := [(0, .ref 134), (1, .int (1 : Int32))]) (st' := [.ref 134]) rfl ?_
  refine w_gf H (pc' := 36) (L' := [(0, .ref 134), (1, .int (1 : Int32))]) h_m57 (z_at.mk 3 rfl rfl) rfl (u := .ref 142) rfl rfl rfl ?_
  refine w_p h_m57 2 (pc' := 38) (L' := [(0, .ref 134), (1, .int (1 : Int32))]) (st' := [.int (-1 : Int32), .int (1 : Int32), .ref 142]) rfl ?_
  refine w_as H (t := 0) (j := 1) (u := .int (-1 : Int32)) (0, 6, [(1, .int (-1 : Int32)), (0, .int (-1 : Int32))], some (.int (0 : Int32))) (pc' := 39) (L' := [(0, .ref 134), (1, .int (1 : Int32))]) h_m57 (z_at.mk 1 rfl rfl) rfl rfl (w_ui _ _ (by decide)) rfl rfl rfl rfl ?_
  clear H m; intro m H
  refine w_p h_m57 6 (pc' := 33) (L' := [(0, .ref 134), (1, .int (2 : Int32))]) (st' := [.ref 134]) rfl ?_
  refine w_gf H (pc' := 36) (L' := [(0, .ref 134), (1, .int (2 : Int32))]) h_m57 (z_at.mk 3 rfl rfl) rfl (u := .ref 142) rfl rfl rfl ?_
  refine w_p h_m57 2 (pc' := 38) (L' := [(0, .ref 134), (1, .int (2 : Int32))]) (st' := [.int (-1 : Int32), .int (2 : Int32), .ref 142]) rfl ?_
  refine w_as H (t := 0) (j := 2) (u := .int (-1 : Int32)) (0, 6, [(2, .int (-1 : Int32)), (1, .int (-1 : Int32)), (0, .int (-1 : Int32))], some (.int (0 : Int32))) (pc' := 39) (L' := [(0, .ref 134), (1, .int (2 : Int32))]) h_m57 (z_at.mk 1 rfl rfl) rfl rfl (w_ui _ _ (by decide)) rfl rfl rfl rfl ?_
  clear H m; intro m H
  refine w_p h_m57 6 (pc' := 33) (L' := [(0, .ref 134), (1, .int (3 : Int32))]) (st' := [.ref 134]) rfl ?_
  refine w_gf H (pc' := 36) (L' := [(0, .ref 134), (1, .int (3 : Int32))]) h_m57 (z_at.mk 3 rfl rfl) rfl (u := .ref 142) rfl rfl rfl ?_
  refine w_p h_m57 2 (pc' := 38) (L' := [(0, .ref 134), (1, .int (3 : Int32))]) (st' := [.int (-1 : Int32), .int (3 : Int32), .ref 142]) rfl ?_
  refine w_as H (t := 0) (j := 3) (u := .int (-1 : Int32)) (0, 6, [(3, .int (-1 : Int32)), (2, .int (-1 : Int32)), (1, .int (-1 : Int32)), (0, .int (-1 : Int32))], some (.int (0 : Int32))) (pc' := 39) (L' := [(0, .ref 134), (1, .int (3 : Int32))]) h_m57 (z_at.mk 1 rfl rfl) rfl rfl (w_ui _ _ (by decide)) rfl rfl rfl rfl ?_
  clear H m; intro m H
  refine w_p h_m57 6 (pc' := 33) (L' := [(0, .ref 134), (1, .int (4 : Int32))]) (st' := [.ref 134]) rfl ?_
  refine w_gf H (pc' := 36) (L' := [(0, .ref 134), (1, .int (4 : Int32))]) h_m57 (z_at.mk 3 rfl rfl) rfl (u := .ref 142) rfl rfl rfl ?_
  refine w_p h_m57 2 (pc' := 38) (L' := [(0, .ref 134), (1, .int (4 : Int32))]) (st' := [.int (-1 : Int32), .int (4 : Int32), .ref 142]) rfl ?_
  refine w_as H (t := 0) (j := 4) (u := .int (-1 : Int32)) (0, 6, [(4, .int (-1 : Int32)), (3, .int (-1 : Int32)), (2, .int (-1 : Int32)), (1, .int (-1 : Int32)), (0, .int (-1 : Int32))], some (.int (0 : Int32))) (pc' := 39) (L' := [(0, .ref 134), (1, .int (4 : Int32))]) h_m57 (z_at.mk 1 rfl rfl) rfl rfl (w_ui _ _ (by decide)) rfl rfl rfl rfl ?_
  clear H m; intro m H
  refine w_p h_m57 6 (pc' := 33) (L' := [(0, .ref 134), (1, .int (5 : Int32))]) (st' := [.ref 134]) rfl ?_
  refine w_gf H (pc' := 36) (L' := [(0, .ref 134), (1, .int (5 : Int32))]) h_m57 (z_at.mk 3 rfl rfl) rfl (u := .ref 142) rfl rfl rfl ?_
  refine w_p h_m57 2 (pc' := 38) (L' := [(0, .ref 134), (1, .int (5 : Int32))]) (st' := [.int (-1 : Int32), .int (5 : Int32), .ref 142]) rfl ?_
  refine w_as H (t := 0) (j := 5) (u := .int (-1 : Int32)) (0, 6, [(5, .int (-1 : Int32)), (4, .int (-1 : Int32)), (3, .int (-1 : Int32)), (2, .int (-1 : Int32)), (1, .int (-1 : Int32)), (0, .int (-1 : Int32))], some (.int (0 : Int32))) (pc' := 39) (L' := [(0, .ref 134), (1, .int (5 : Int32))]) h_m57 (z_at.mk 1 rfl rfl) rfl rfl (w_ui _ _ (by decide)) rfl rfl rfl rfl ?_
  clear H m; intro m H
  refine w_p h_m57 5 (pc' := 45) (L' := [(0, .ref 134), (1, .int (6 : Int32))]) (st' := []) rfl ?_
  refine w_rv h_m57 (z_at.mk 1 rfl rfl) rfl ?_
  show z_W 999 114 161 [(0, .ref 39)] [.ref 134, .ref 39] m _
  refine w_pf H (21, 14, [(13, .ref 134), (12, .ref 133), (11, .ref 131), (10, .ref 129), (9, .int (0 : Int32)), (8, .ref 128), (7, .ref 126), (6, .ref 122), (5, .ref 120), (4, .ref 118), (3, .ref 106), (2, .int (0 : Int32)), (1, .ref 73), (0, .ref 40)], none) (pc' := 164) (L' := [(0, .ref 39)]) h_m114 (z_at.mk 3 rfl rfl) rfl (by decide) rfl (Or.inr ⟨rfl, rfl, by decide⟩) rfl rfl rfl ?_
  clear H m; intro m H
  refine w_rv h_m114 (z_at.mk 1 rfl rfl) rfl ?_
  show z_W 1000 1000 7 [(0, .ref 0)] [.ref 39] m _
  refine w_p h_m1000 1 (pc' := 8) (L' := [(1, .ref 39), (0, .ref 0)]) (st' := []) rfl ?_
  refine w_nw H (22, 35, [(0, .null), (1, .null), (2, .null), (3, .null), (4, .null), (5, .null), (6, .int (0 : Int32)), (7, .null), (8, .null), (9, .null), (10, .int (0 : Int32)), (11, .null), (12, .null), (13, .null), (14, .int (0 : Int32)), (15, .int (0 : Int32)), (16, .null), (17, .null), (18, .null), (19, .null), (20, .int (0 : Int32)), (21, .int (0 : Int32)), (22, .int (0 : Int32)), (23, .int (0 : Int32)), (24, .null), (25, .null), (26, .null), (27, .int (0 : Int32)), (28, .null), (29, .int (0 : Int32)), (30, .null), (31, .null), (32, .int (0 : Int32)), (33, .null), (34, .null)], none) (N' := 144) (S' := 6062) (pc' := 11) (L' := [(1, .ref 39), (0, .ref 0)]) h_m1000 (z_at.mk 3 rfl rfl) rfl rfl rfl rfl rfl rfl ?_
  clear H m; intro m H
  refine w_p h_m1000 1 (pc' := 12) (L' := [(1, .ref 39), (0, .ref 0)]) (st' := [.ref 143, .ref 143]) rfl ?_
  refine w_cs (As := [.ref 143]) (rest := [.ref 143]) (j := 158) (L0 := [(0, .ref 143)]) (pc' := 15) (L' := [(1, .ref 39), (0, .ref 0)]) h_m1000 (z_at.mk 3 rfl rfl) (Or.inr ⟨rfl, rfl⟩) rfl rfl rfl rfl rfl ?_
  refine w_p h_m158 4 (pc' := 8) (L' := [(0, .ref 143)]) (st' := [.int (2740 : Int32), .ref 143]) rfl ?_
  refine w_na H (ti := 0) (n := 2740) (.int (0 : Int32)) (N' := 145) (S' := 8802) (pc' := 10) (L' := [(0, .ref 143)]) h_m158 (z_at.mk 2 rfl rfl) rfl (by decide) rfl (by decide) rfl rfl rfl rfl rfl ?_
  clear H m; intro m H
  refine w_pf H (22, 35, [(0, .ref 144), (1, .null), (2, .null), (3, .null), (4, .null), (5, .null), (6, .int (0 : Int32)), (7, .null), (8, .null), (9, .null), (10, .int (0 : Int32)), (11, .null), (12, .null), (13, .null), (14, .int (0 : Int32)), (15, .int (0 : Int32)), (16, .null), (17, .null), (18, .null), (19, .null), (20, .int (0 : Int32)), (21, .int (0 : Int32)), (22, .int (0 : Int32)), (23, .int (0 : Int32)), (24, .null), (25, .null), (26, .null), (27, .int (0 : Int32)), (28, .null), (29, .int (0 : Int32)), (30, .null), (31, .null), (32, .int (0 : Int32)), (33, .null), (34, .null)], none) (pc' := 13) (L' := [(0, .ref 143)]) h_m158 (z_at.mk 3 rfl rfl) rfl (by decide) rfl (Or.inr ⟨rfl, rfl, by decide⟩) rfl rfl rfl ?_
  clear H m; intro m H
  refine w_p h_m158 2 (pc' := 17) (L' := [(0, .ref 143)]) (st' := [.int (2740 : Int32), .ref 143]) rfl ?_
  refine w_na H (ti := 0) (n := 2740) (.int (0 : Int32)) (N' := 146) (S' := 11542) (pc' := 19) (L' := [(0, .ref 143)]) h_m158 (z_at.mk 2 rfl rfl) rfl (by decide) rfl (by decide) rfl rfl rfl rfl rfl ?_
  clear H m; intro m H
  refine w_pf H (22, 35, [(1, .ref 145), (0, .ref 144), (2, .null), (3, .null), (4, .null), (5, .null), (6, .int (0 : Int32)), (7, .null), (8, .null), (9, .null), (10, .int (0 : Int32)), (11, .null), (12, .null), (13, .null), (14, .int (0 : Int32)), (15, .int (0 : Int32)), (16, .null), (17, .null), (18, .null), (19, .null), (20, .int (0 : Int32)), (21, .int (0 : Int32)), (22, .int (0 : Int32)), (23, .int (0 : Int32)), (24, .null), (25, .null), (26, .null), (27, .int (0 : Int32)), (28, .null), (29, .int (0 : Int32)), (30, .null), (31, .null), (32, .int (0 : Int32)), (33, .null), (34, .null)], none) (pc' := 22) (L' := [(0, .ref 143)]) h_m158 (z_at.mk 3 rfl rfl) rfl (by decide) rfl (Or.inr ⟨rfl, rfl, by decide⟩) rfl rfl rfl ?_
  clear H m; intro m H
  refine w_p h_m158 2 (pc' := 26) (L' := [(0, .ref 143)]) (st' := [.int (2740 : Int32), .ref 143]) rfl ?_
  refine w_na H (ti := 0) (n := 2740) (.int (0 : Int32)) (N' := 147) (S' := 14282) (pc' := 28) (L' := [(0, .ref 143)]) h_m158 (z_at.mk 2 rfl rfl) rfl (by decide) rfl (by decide) rfl rfl rfl rfl rfl ?_
  clear H m; intro m H
  refine w_pf H (22, 35, [(2, .ref 146), (1, .ref 145), (0, .ref 144), (3, .null), (4, .null), (5, .null), (6, .int (0 : Int32)), (7, .null), (8, .null), (9, .null), (10, .int (0 : Int32)), (11, .null), (12, .null), (13, .null), (14, .int (0 : Int32)), (15, .int (0 : Int32)), (16, .null), (17, .null), (18, .null), (19, .null), (20, .int (0 : Int32)), (21, .int (0 : Int32)), (22, .int (0 : Int32)), (23, .int (0 : Int32)), (24, .null), (25, .null), (26, .null), (27, .int (0 : Int32)), (28, .null), (29, .int (0 : Int32)), (30, .null), (31, .null), (32, .int (0 : Int32)), (33, .null), (34, .null)], none) (pc' := 31) (L' := [(0, .ref 143)]) h_m158 (z_at.mk 3 rfl rfl) rfl (by decide) rfl (Or.inr ⟨rfl, rfl, by decide⟩) rfl rfl rfl ?_
  clear H m; intro m H
  refine w_p h_m158 2 (pc' := 35) (L' := [(0, .ref 143)]) (st' := [.int (361 : Int32), .ref 143]) rfl ?_
  refine w_na H (ti := 1) (n := 361) (.long (0 : Int64)) (N' := 148) (S' := 14643) (pc' := 37) (L' := [(0, .ref 143)]) h_m158 (z_at.mk 2 rfl rfl) rfl (by decide) rfl (by decide) rfl rfl rfl rfl rfl ?_
  clear H m; intro m H
  refine w_pf H (22, 35, [(3, .ref 147), (2, .ref 146), (1, .ref 145), (0, .ref 144), (4, .null), (5, .null), (6, .int (0 : Int32)), (7, .null), (8, .null), (9, .null), (10, .int (0 : Int32)), (11, .null), (12, .null), (13, .null), (14, .int (0 : Int32)), (15, .int (0 : Int32)), (16, .null), (17, .null), (18, .null), (19, .null), (20, .int (0 : Int32)), (21, .int (0 : Int32)), (22, .int (0 : Int32)), (23, .int (0 : Int32)), (24, .null), (25, .null), (26, .null), (27, .int (0 : Int32)), (28, .null), (29, .int (0 : Int32)), (30, .null), (31, .null), (32, .int (0 : Int32)), (33, .null), (34, .null)], none) (pc' := 40) (L' := [(0, .ref 143)]) h_m158 (z_at.mk 3 rfl rfl) rfl (by decide) rfl (Or.inr ⟨rfl, rfl, by decide⟩) rfl rfl rfl ?_
  clear H m; intro m H
  refine w_p h_m158 2 (pc' := 44) (L' := [(0, .ref 143)]) (st' := [.int (361 : Int32), .ref 143]) rfl ?_
  refine w_na H (ti := 1) (n := 361) (.long (0 : Int64)) (N' := 149) (S' := 15004) (pc' := 46) (L' := [(0, .ref 143)]) h_m158 (z_at.mk 2 rfl rfl) rfl (by decide) rfl (by decide) rfl rfl rfl rfl rfl ?_
  clear H m; intro m H
  refine w_pf H (22, 35, [(4, .ref 148), (3, .ref 147), (2, .ref 146), (1, .ref 145), (0, .ref 144), (5, .null), (6, .int (0 : Int32)), (7, .null), (8, .null), (9, .null), (10, .int (0 : Int32)), (11, .null), (12, .null), (13, .null), (14, .int (0 : Int32)), (15, .int (0 : Int32)), (16, .null), (17, .null), (18, .null), (19, .null), (20, .int (0 : Int32)), (21, .int (0 : Int32)), (22, .int (0 : Int32)), (23, .int (0 : Int32)), (24, .null), (25, .null), (26, .null), (27, .int (0 : Int32)), (28, .null), (29, .int (0 : Int32)), (30, .null), (31, .null), (32, .int (0 : Int32)), (33, .null), (34, .null)], none) (pc' := 49) (L' := [(0, .ref 143)]) h_m158 (z_at.mk 3 rfl rfl) rfl (by decide) rfl (Or.inr ⟨rfl, rfl, by decide⟩) rfl rfl rfl ?_
  clear H m; intro m H
  refine w_p h_m158 2 (pc' := 53) (L' := [(0, .ref 143)]) (st' := [.int (361 : Int32), .ref 143]) rfl ?_
  refine w_na H (ti := 1) (n := 361) (.long (0 : Int64)) (N' := 150) (S' := 15365) (pc' := 55) (L' := [(0, .ref 143)]) h_m158 (z_at.mk 2 rfl rfl) rfl (by decide) rfl (by decide) rfl rfl rfl rfl rfl ?_
  clear H m; intro m H
  refine w_pf H (22, 35, [(5, .ref 149), (4, .ref 148), (3, .ref 147), (2, .ref 146), (1, .ref 145), (0, .ref 144), (6, .int (0 : Int32)), (7, .null), (8, .null), (9, .null), (10, .int (0 : Int32)), (11, .null), (12, .null), (13, .null), (14, .int (0 : Int32)), (15, .int (0 : Int32)), (16, .null), (17, .null), (18, .null), (19, .null), (20, .int (0 : Int32)), (21, .int (0 : Int32)), (22, .int (0 : Int32)), (23, .int (0 : Int32)), (24, .null), (25, .null), (26, .null), (27, .int (0 : Int32)), (28, .null), (29, .int (0 : Int32)), (30, .null), (31, .null), (32, .int (0 : Int32)), (33, .null), (34, .null)], none) (pc' := 58) (L' := [(0, .ref 143)]) h_m158 (z_at.mk 3 rfl rfl) rfl (by decide) rfl (Or.inr ⟨rfl, rfl, by decide⟩) rfl rfl rfl ?_
  clear H m; intro m H
  refine w_p h_m158 2 (pc' := 62) (L' := [(0, .ref 143)]) (st' := [.int (2400 : Int32), .ref 143]) rfl ?_
  refine w_na H (ti := 0) (n := 2400) (.int (0 : Int32)) (N' := 151) (S' := 17765) (pc' := 64) (L' := [(0, .ref 143)]) h_m158 (z_at.mk 2 rfl rfl) rfl (by decide) rfl (by decide) rfl rfl rfl rfl rfl ?_
  clear H m; intro m H
  refine w_pf H (22, 35, [(7, .ref 150), (5, .ref 149), (4, .ref 148), (3, .ref 147), (2, .ref 146), (1, .ref 145), (0, .ref 144), (6, .int (0 : Int32)), (8, .null), (9, .null), (10, .int (0 : Int32)), (11, .null), (12, .null), (13, .null), (14, .int (0 : Int32)), (15, .int (0 : Int32)), (16, .null), (17, .null), (18, .null), (19, .null), (20, .int (0 : Int32)), (21, .int (0 : Int32)), (22, .int (0 : Int32)), (23, .int (0 : Int32)), (24, .null), (25, .null), (26, .null), (27, .int (0 : Int32)), (28, .null), (29, .int (0 : Int32)), (30, .null), (31, .null), (32, .int (0 : Int32)), (33, .null), (34, .null)], none) (pc' := 67) (L' := [(0, .ref 143)]) h_m158 (z_at.mk 3 rfl rfl) rfl (by decide) rfl (Or.inr ⟨rfl, rfl, by decide⟩) rfl rfl rfl ?_
  clear H m; intro m H
  refine w_p h_m158 2 (pc' := 71) (L' := [(0, .ref 143)]) (st' := [.int (2400 : Int32), .ref 143]) rfl ?_
  refine w_na H (ti := 0) (n := 2400) (.int (0 : Int32)) (N' := 152) (S' := 20165) (pc' := 73) (L' := [(0, .ref 143)]) h_m158 (z_at.mk 2 rfl rfl) rfl (by decide) rfl (by decide) rfl rfl rfl rfl rfl ?_
  clear H m; intro m H
  refine w_pf H (22, 35, [(8, .ref 151), (7, .ref 150), (5, .ref 149), (4, .ref 148), (3, .ref 147), (2, .ref 146), (1, .ref 145), (0, .ref 144), (6, .int (0 : Int32)), (9, .null), (10, .int (0 : Int32)), (11, .null), (12, .null), (13, .null), (14, .int (0 : Int32)), (15, .int (0 : Int32)), (16, .null), (17, .null), (18, .null), (19, .null), (20, .int (0 : Int32)), (21, .int (0 : Int32)), (22, .int (0 : Int32)), (23, .int (0 : Int32)), (24, .null), (25, .null), (26, .null), (27, .int (0 : Int32)), (28, .null), (29, .int (0 : Int32)), (30, .null), (31, .null), (32, .int (0 : Int32)), (33, .null), (34, .null)], none) (pc' := 76) (L' := [(0, .ref 143)]) h_m158 (z_at.mk 3 rfl rfl) rfl (by decide) rfl (Or.inr ⟨rfl, rfl, by decide⟩) rfl rfl rfl ?_
  clear H m; intro m H
  refine w_p h_m158 2 (pc' := 78) (L' := [(0, .ref 143)]) (st' := [.int (4 : Int32), .ref 143]) rfl ?_
  refine w_na H (ti := 0) (n := 4) (.int (0 : Int32)) (N' := 153) (S' := 20169) (pc' := 80) (L' := [(0, .ref 143)]) h_m158 (z_at.mk 2 rfl rfl) rfl (by decide) rfl (by decide) rfl rfl rfl rfl rfl ?_
  clear H m; intro m H
  refine w_pf H (22, 35, [(9, .ref 152), (8, .ref 151), (7, .ref 150), (5, .ref 149), (4, .ref 148), (3, .ref 147), (2, .ref 146), (1, .ref 145), (0, .ref 144), (6, .int (0 : Int32)), (10, .int (0 : Int32)), (11, .null), (12, .null), (13, .null), (14, .int (0 : Int32)), (15, .int (0 : Int32)), (16, .null), (17, .null), (18, .null), (19, .null), (20, .int (0 : Int32)), (21, .int (0 : Int32)), (22, .int (0 : Int32)), (23, .int (0 : Int32)), (24, .null), (25, .null), (26, .null), (27, .int (0 : Int32)), (28, .null), (29, .int (0 : Int32)), (30, .null), (31, .null), (32, .int (0 : Int32)), (33, .null), (34, .null)], none) (pc' := 83) (L' := [(0, .ref 143)]) h_m158 (z_at.mk 3 rfl rfl) rfl (by decide) rfl (Or.inr ⟨rfl, rfl, by decide⟩) rfl rfl rfl ?_
  clear H m; intro m H
  refine w_p h_m158 2 (pc' := 85) (L' := [(0, .ref 143)]) (st' := [.int (4 : Int32), .ref 143]) rfl ?_
  refine w_na H (ti := 0) (n := 4) (.int (0 : Int32)) (N' := 154) (S' := 20173) (pc' := 87) (L' := [(0, .ref 143)]) h_m158 (z_at.mk 2 rfl rfl) rfl (by decide) rfl (by decide) rfl rfl rfl rfl rfl ?_
  clear H m; intro m H
  refine w_pf H (22, 35, [(11, .ref 153), (9, .ref 152), (8, .ref 151), (7, .ref 150), (5, .ref 149), (4, .ref 148), (3, .ref 147), (2, .ref 146), (1, .ref 145), (0, .ref 144), (6, .int (0 : Int32)), (10, .int (0 : Int32)), (12, .null), (13, .null), (14, .int (0 : Int32)), (15, .int (0 : Int32)), (16, .null), (17, .null), (18, .null), (19, .null), (20, .int (0 : Int32)), (21, .int (0 : Int32)), (22, .int (0 : Int32)), (23, .int (0 : Int32)), (24, .null), (25, .null), (26, .null), (27, .int (0 : Int32)), (28, .null), (29, .int (0 : Int32)), (30, .null), (31, .null), (32, .int (0 : Int32)), (33, .null), (34, .null)], none) (pc' := 90) (L' := [(0, .ref 143)]) h_m158 (z_at.mk 3 rfl rfl) rfl (by decide) rfl (Or.inr ⟨rfl, rfl, by decide⟩) rfl rfl rfl ?_
  clear H m; intro m H
  refine w_p h_m158 2 (pc' := 93) (L' := [(0, .ref 143)]) (st' := [.int (60 : Int32), .ref 143]) rfl ?_
  refine w_na H (ti := 0) (n := 60) (.int (0 : Int32)) (N' := 155) (S' := 20233) (pc' := 95) (L' := [(0, .ref 143)]) h_m158 (z_at.mk 2 rfl rfl) rfl (by decide) rfl (by decide) rfl rfl rfl rfl rfl ?_
  clear H m; intro m H
  refine w_pf H (22, 35, [(12, .ref 154), (11, .ref 153), (9, .ref 152), (8, .ref 151), (7, .ref 150), (5, .ref 149), (4, .ref 148), (3, .ref 147), (2, .ref 146), (1, .ref 145), (0, .ref 144), (6, .int (0 : Int32)), (10, .int (0 : Int32)), (13, .null), (14, .int (0 : Int32)), (15, .int (0 : Int32)), (16, .null), (17, .null), (18, .null), (19, .null), (20, .int (0 : Int32)), (21, .int (0 : Int32)), (22, .int (0 : Int32)), (23, .int (0 : Int32)), (24, .null), (25, .null), (26, .null), (27, .int (0 : Int32)), (28, .null), (29, .int (0 : Int32)), (30, .null), (31, .null), (32, .int (0 : Int32)), (33, .null), (34, .null)], none) (pc' := 98) (L' := [(0, .ref 143)]) h_m158 (z_at.mk 3 rfl rfl) rfl (by decide) rfl (Or.inr ⟨rfl, rfl, by decide⟩) rfl rfl rfl ?_
  clear H m; intro m H
  refine w_p h_m158 2 (pc' := 101) (L' := [(0, .ref 143)]) (st' := [.int (60 : Int32), .ref 143]) rfl ?_
  refine w_na H (ti := 1) (n := 60) (.long (0 : Int64)) (N' := 156) (S' := 20293) (pc' := 103) (L' := [(0, .ref 143)]) h_m158 (z_at.mk 2 rfl rfl) rfl (by decide) rfl (by decide) rfl rfl rfl rfl rfl ?_
  clear H m; intro m H
  refine w_pf H (22, 35, [(13, .ref 155), (12, .ref 154), (11, .ref 153), (9, .ref 152), (8, .ref 151), (7, .ref 150), (5, .ref 149), (4, .ref 148), (3, .ref 147), (2, .ref 146), (1, .ref 145), (0, .ref 144), (6, .int (0 : Int32)), (10, .int (0 : Int32)), (14, .int (0 : Int32)), (15, .int (0 : Int32)), (16, .null), (17, .null), (18, .null), (19, .null), (20, .int (0 : Int32)), (21, .int (0 : Int32)), (22, .int (0 : Int32)), (23, .int (0 : Int32)), (24, .null), (25, .null), (26, .null), (27, .int (0 : Int32)), (28, .null), (29, .int (0 : Int32)), (30, .null), (31, .null), (32, .int (0 : Int32)), (33, .null), (34, .null)], none) (pc' := 106) (L' := [(0, .ref 143)]) h_m158 (z_at.mk 3 rfl rfl) rfl (by decide) rfl (Or.inr ⟨rfl, rfl, by decide⟩) rfl rfl rfl ?_
  clear H m; intro m H
  refine w_p h_m158 2 (pc' := 109) (L' := [(0, .ref 143)]) (st' := [.int (10 : Int32), .ref 143]) rfl ?_
  refine w_na H (ti := 0) (n := 10) (.int (0 : Int32)) (N' := 157) (S' := 20303) (pc' := 111) (L' := [(0, .ref 143)]) h_m158 (z_at.mk 2 rfl rfl) rfl (by decide) rfl (by decide) rfl rfl rfl rfl rfl ?_
  clear H m; intro m H
  refine w_pf H (22, 35, [(16, .ref 156), (13, .ref 155), (12, .ref 154), (11, .ref 153), (9, .ref 152), (8, .ref 151), (7, .ref 150), (5, .ref 149), (4, .ref 148), (3, .ref 147), (2, .ref 146), (1, .ref 145), (0, .ref 144), (6, .int (0 : Int32)), (10, .int (0 : Int32)), (14, .int (0 : Int32)), (15, .int (0 : Int32)), (17, .null), (18, .null), (19, .null), (20, .int (0 : Int32)), (21, .int (0 : Int32)), (22, .int (0 : Int32)), (23, .int (0 : Int32)), (24, .null), (25, .null), (26, .null), (27, .int (0 : Int32)), (28, .null), (29, .int (0 : Int32)), (30, .null), (31, .null), (32, .int (0 : Int32)), (33, .null), (34, .null)], none) (pc' := 114) (L' := [(0, .ref 143)]) h_m158 (z_at.mk 3 rfl rfl) rfl (by decide) rfl (Or.inr ⟨rfl, rfl, by decide⟩) rfl rfl rfl ?_
  clear H m; intro m H
  refine w_p h_m158 2 (pc' := 116) (L' := [(0, .ref 143)]) (st' := [.int (4 : Int32), .ref 143]) rfl ?_
  refine w_na H (ti := 0) (n := 4) (.int (0 : Int32)) (N' := 158) (S' := 20307) (pc' := 118) (L' := [(0, .ref 143)]) h_m158 (z_at.mk 2 rfl rfl) rfl (by decide) rfl (by decide) rfl rfl rfl rfl rfl ?_
  clear H m; intro m H
  refine w_pf H (22, 35, [(17, .ref 157), (16, .ref 156), (13, .ref 155), (12, .ref 154), (11, .ref 153), (9, .ref 152), (8, .ref 151), (7, .ref 150), (5, .ref 149), (4, .ref 148), (3, .ref 147), (2, .ref 146), (1, .ref 145), (0, .ref 144), (6, .int (0 : Int32)), (10, .int (0 : Int32)), (14, .int (0 : Int32)), (15, .int (0 : Int32)), (18, .null), (19, .null), (20, .int (0 : Int32)), (21, .int (0 : Int32)), (22, .int (0 : Int32)), (23, .int (0 : Int32)), (24, .null), (25, .null), (26, .null), (27, .int (0 : Int32)), (28, .null), (29, .int (0 : Int32)), (30, .null), (31, .null), (32, .int (0 : Int32)), (33, .null), (34, .null)], none) (pc' := 121) (L' := [(0, .ref 143)]) h_m158 (z_at.mk 3 rfl rfl) rfl (by decide) rfl (Or.inr ⟨rfl, rfl, by decide⟩) rfl rfl rfl ?_
  clear H m; intro m H
  refine w_p h_m158 2 (pc' := 124) (L' := [(0, .ref 143)]) (st' := [.int (6 : Int32), .ref 143]) rfl ?_
  refine w_na H (ti := 1) (n := 6) (.long (0 : Int64)) (N' := 159) (S' := 20313) (pc' := 126) (L' := [(0, .ref 143)]) h_m158 (z_at.mk 2 rfl rfl) rfl (by decide) rfl (by decide) rfl rfl rfl rfl rfl ?_
  clear H m; intro m H
  refine w_pf H (22, 35, [(18, .ref 158), (17, .ref 157), (16, .ref 156), (13, .ref 155), (12, .ref 154), (11, .ref 153), (9, .ref 152), (8, .ref 151), (7, .ref 150), (5, .ref 149), (4, .ref 148), (3, .ref 147), (2, .ref 146), (1, .ref 145), (0, .ref 144), (6, .int (0 : Int32)), (10, .int (0 : Int32)), (14, .int (0 : Int32)), (15, .int (0 : Int32)), (19, .null), (20, .int (0 : Int32)), (21, .int (0 : Int32)), (22, .int (0 : Int32)), (23, .int (0 : Int32)), (24, .null), (25, .null), (26, .null), (27, .int (0 : Int32)), (28, .null), (29, .int (0 : Int32)), (30, .null), (31, .null), (32, .int (0 : Int32)), (33, .null), (34, .null)], none) (pc' := 129) (L' := [(0, .ref 143)]) h_m158 (z_at.mk 3 rfl rfl) rfl (by decide) rfl (Or.inr ⟨rfl, rfl, by decide⟩) rfl rfl rfl ?_
  clear H m; intro m H
  refine w_p h_m158 2 (pc' := 133) (L' := [(0, .ref 143)]) (st' := [.int (160 : Int32), .ref 143]) rfl ?_
  refine w_na H (ti := 0) (n := 160) (.int (0 : Int32)) (N' := 160) (S' := 20473) (pc' := 135) (L' := [(0, .ref 143)]) h_m158 (z_at.mk 2 rfl rfl) rfl (by decide) rfl (by decide) rfl rfl rfl rfl rfl ?_
  clear H m; intro m H
  refine w_pf H (22, 35, [(19, .ref 159), (18, .ref 158), (17, .ref 157), (16, .ref 156), (13, .ref 155), (12, .ref 154), (11, .ref 153), (9, .ref 152), (8, .ref 151), (7, .ref 150), (5, .ref 149), (4, .ref 148), (3, .ref 147), (2, .ref 146), (1, .ref 145), (0, .ref 144), (6, .int (0 : Int32)), (10, .int (0 : Int32)), (14, .int (0 : Int32)), (15, .int (0 : Int32)), (20, .int (0 : Int32)), (21, .int (0 : Int32)), (22, .int (0 : Int32)), (23, .int (0 : Int32)), (24, .null), (25, .null), (26, .null), (27, .int (0 : Int32)), (28, .null), (29, .int (0 : Int32)), (30, .null), (31, .null), (32, .int (0 : Int32)), (33, .null), (34, .null)], none) (pc' := 138) (L' := [(0, .ref 143)]) h_m158 (z_at.mk 3 rfl rfl) rfl (by decide) rfl (Or.inr ⟨rfl, rfl, by decide⟩) rfl rfl rfl ?_
  clear H m; intro m H
  refine w_p h_m158 2 (pc' := 141) (L' := [(0, .ref 143)]) (st' := [.int (7 : Int32), .ref 143]) rfl ?_
  refine w_na H (ti := 0) (n := 7) (.int (0 : Int32)) (N' := 161) (S' := 20480) (pc' := 143) (L' := [(0, .ref 143)]) h_m158 (z_at.mk 2 rfl rfl) rfl (by decide) rfl (by decide) rfl rfl rfl rfl rfl ?_
  clear H m; intro m H
  refine w_pf H (22, 35, [(24, .ref 160), (19, .ref 159), (18, .ref 158), (17, .ref 157), (16, .ref 156), (13, .ref 155), (12, .ref 154), (11, .ref 153), (9, .ref 152), (8, .ref 151), (7, .ref 150), (5, .ref 149), (4, .ref 148), (3, .ref 147), (2, .ref 146), (1, .ref 145), (0, .ref 144), (6, .int (0 : Int32)), (10, .int (0 : Int32)), (14, .int (0 : Int32)), (15, .int (0 : Int32)), (20, .int (0 : Int32)), (21, .int (0 : Int32)), (22, .int (0 : Int32)), (23, .int (0 : Int32)), (25, .null), (26, .null), (27, .int (0 : Int32)), (28, .null), (29, .int (0 : Int32)), (30, .null), (31, .null), (32, .int (0 : Int32)), (33, .null), (34, .null)], none) (pc' := 146) (L' := [(0, .ref 143)]) h_m158 (z_at.mk 3 rfl rfl) rfl (by decide) rfl (Or.inr ⟨rfl, rfl, by decide⟩) rfl rfl rfl ?_
  clear H m; intro m H
  refine w_p h_m158 2 (pc' := 149) (L' := [(0, .ref 143)]) (st' := [.int (48 : Int32), .ref 143]) rfl ?_
  refine w_na H (ti := 0) (n := 48) (.int (0 : Int32)) (N' := 162) (S' := 20528) (pc' := 151) (L' := [(0, .ref 143)]) h_m158 (z_at.mk 2 rfl rfl) rfl (by decide) rfl (by decide) rfl rfl rfl rfl rfl ?_
  clear H m; intro m H
  refine w_pf H (22, 35, [(25, .ref 161), (24, .ref 160), (19, .ref 159), (18, .ref 158), (17, .ref 157), (16, .ref 156), (13, .ref 155), (12, .ref 154), (11, .ref 153), (9, .ref 152), (8, .ref 151), (7, .ref 150), (5, .ref 149), (4, .ref 148), (3, .ref 147), (2, .ref 146), (1, .ref 145), (0, .ref 144), (6, .int (0 : Int32)), (10, .int (0 : Int32)), (14, .int (0 : Int32)), (15, .int (0 : Int32)), (20, .int (0 : Int32)), (21, .int (0 : Int32)), (22, .int (0 : Int32)), (23, .int (0 : Int32)), (26, .null), (27, .int (0 : Int32)), (28, .null), (29, .int (0 : Int32)), (30, .null), (31, .null), (32, .int (0 : Int32)), (33, .null), (34, .null)], none) (pc' := 154) (L' := [(0, .ref 143)]) h_m158 (z_at.mk 3 rfl rfl) rfl (by decide) rfl (Or.inr ⟨rfl, rfl, by decide⟩) rfl rfl rfl ?_
  clear H m; intro m H
  refine w_p h_m158 2 (pc' := 157) (L' := [(0, .ref 143)]) (st' := [.int (8 : Int32), .ref 143]) rfl ?_
  refine w_na H (ti := 1) (n := 8) (.long (0 : Int64)) (N' := 163) (S' := 20536) (pc' := 159) (L' := [(0, .ref 143)]) h_m158 (z_at.mk 2 rfl rfl) rfl (by decide) rfl (by decide) rfl rfl rfl rfl rfl ?_
  clear H m; intro m H
  refine w_pf H (22, 35, [(26, .ref 162), (25, .ref 161), (24, .ref 160), (19, .ref 159), (18, .ref 158), (17, .ref 157), (16, .ref 156), (13, .ref 155), (12, .ref 154), (11, .ref 153), (9, .ref 152), (8, .ref 151), (7, .ref 150), (5, .ref 149), (4, .ref 148), (3, .ref 147), (2, .ref 146), (1, .ref 145), (0, .ref 144), (6, .int (0 : Int32)), (10, .int (0 : Int32)), (14, .int (0 : Int32)), (15, .int (0 : Int32)), (20, .int (0 : Int32)), (21, .int (0 : Int32)), (22, .int (0 : Int32)), (23, .int (0 : Int32)), (27, .int (0 : Int32)), (28, .null), (29, .int (0 : Int32)), (30, .null), (31, .null), (32, .int (0 : Int32)), (33, .null), (34, .null)], none) (pc' := 162) (L' := [(0, .ref 143)]) h_m158 (z_at.mk 3 rfl rfl) rfl (by decide) rfl (Or.inr ⟨rfl, rfl, by decide⟩) rfl rfl rfl ?_
  clear H m; intro m H
  refine w_p h_m158 2 (pc' := 165) (L' := [(0, .ref 143)]) (st' := [.int (40000 : Int32), .ref 143]) rfl ?_
  refine w_na H (ti := 0) (n := 40000) (.int (0 : Int32)) (N' := 164) (S' := 60536) (pc' := 167) (L' := [(0, .ref 143)]) h_m158 (z_at.mk 2 rfl rfl) rfl (by decide) rfl (by decide) rfl rfl rfl rfl rfl ?_
  clear H m; intro m H
  refine w_pf H (22, 35, [(28, .ref 163), (26, .ref 162), (25, .ref 161), (24, .ref 160), (19, .ref 159), (18, .ref 158), (17, .ref 157), (16, .ref 156), (13, .ref 155), (12, .ref 154), (11, .ref 153), (9, .ref 152), (8, .ref 151), (7, .ref 150), (5, .ref 149), (4, .ref 148), (3, .ref 147), (2, .ref 146), (1, .ref 145), (0, .ref 144), (6, .int (0 : Int32)), (10, .int (0 : Int32)), (14, .int (0 : Int32)), (15, .int (0 : Int32)), (20, .int (0 : Int32)), (21, .int (0 : Int32)), (22, .int (0 : Int32)), (23, .int (0 : Int32)), (27, .int (0 : Int32)), (29, .int (0 : Int32)), (30, .null), (31, .null), (32, .int (0 : Int32)), (33, .null), (34, .null)], none) (pc' := 170) (L' := [(0, .ref 143)]) h_m158 (z_at.mk 3 rfl rfl) rfl (by decide) rfl (Or.inr ⟨rfl, rfl, by decide⟩) rfl rfl rfl ?_
  clear H m; intro m H
  refine w_p h_m158 2 (pc' := 173) (L' := [(0, .ref 143)]) (st' := [.int (48 : Int32), .ref 143]) rfl ?_
  refine w_na H (ti := 0) (n := 48) (.int (0 : Int32)) (N' := 165) (S' := 60584) (pc' := 175) (L' := [(0, .ref 143)]) h_m158 (z_at.mk 2 rfl rfl) rfl (by decide) rfl (by decide) rfl rfl rfl rfl rfl ?_
  clear H m; intro m H
  refine w_pf H (22, 35, [(30, .ref 164), (28, .ref 163), (26, .ref 162), (25, .ref 161), (24, .ref 160), (19, .ref 159), (18, .ref 158), (17, .ref 157), (16, .ref 156), (13, .ref 155), (12, .ref 154), (11, .ref 153), (9, .ref 152), (8, .ref 151), (7, .ref 150), (5, .ref 149), (4, .ref 148), (3, .ref 147), (2, .ref 146), (1, .ref 145), (0, .ref 144), (6, .int (0 : Int32)), (10, .int (0 : Int32)), (14, .int (0 : Int32)), (15, .int (0 : Int32)), (20, .int (0 : Int32)), (21, .int (0 : Int32)), (22, .int (0 : Int32)), (23, .int (0 : Int32)), (27, .int (0 : Int32)), (29, .int (0 : Int32)), (31, .null), (32, .int (0 : Int32)), (33, .null), (34, .null)], none) (pc' := 178) (L' := [(0, .ref 143)]) h_m158 (z_at.mk 3 rfl rfl) rfl (by decide) rfl (Or.inr ⟨rfl, rfl, by decide⟩) rfl rfl rfl ?_
  clear H m; intro m H
  refine w_p h_m158 2 (pc' := 182) (L' := [(0, .ref 143)]) (st' := [.int (3000 : Int32), .ref 143]) rfl ?_
  refine w_na H (ti := 0) (n := 3000) (.int (0 : Int32)) (N' := 166) (S' := 63584) (pc' := 184) (L' := [(0, .ref 143)]) h_m158 (z_at.mk 2 rfl rfl) rfl (by decide) rfl (by decide) rfl rfl rfl rfl rfl ?_
  clear H m; intro m H
  refine w_pf H (22, 35, [(31, .ref 165), (30, .ref 164), (28, .ref 163), (26, .ref 162), (25, .ref 161), (24, .ref 160), (19, .ref 159), (18, .ref 158), (17, .ref 157), (16, .ref 156), (13, .ref 155), (12, .ref 154), (11, .ref 153), (9, .ref 152), (8, .ref 151), (7, .ref 150), (5, .ref 149), (4, .ref 148), (3, .ref 147), (2, .ref 146), (1, .ref 145), (0, .ref 144), (6, .int (0 : Int32)), (10, .int (0 : Int32)), (14, .int (0 : Int32)), (15, .int (0 : Int32)), (20, .int (0 : Int32)), (21, .int (0 : Int32)), (22, .int (0 : Int32)), (23, .int (0 : Int32)), (27, .int (0 : Int32)), (29, .int (0 : Int32)), (32, .int (0 : Int32)), (33, .null), (34, .null)], none) (pc' := 187) (L' := [(0, .ref 143)]) h_m158 (z_at.mk 3 rfl rfl) rfl (by decide) rfl (Or.inr ⟨rfl, rfl, by decide⟩) rfl rfl rfl ?_
  clear H m; intro m H
  refine w_p h_m158 2 (pc' := 190) (L' := [(0, .ref 143)]) (st' := [.int (6 : Int32), .ref 143]) rfl ?_
  refine w_na H (ti := 0) (n := 6) (.int (0 : Int32)) (N' := 167) (S' := 63590) (pc' := 192) (L' := [(0, .ref 143)]) h_m158 (z_at.mk 2 rfl rfl) rfl (by decide) rfl (by decide) rfl rfl rfl rfl rfl ?_
  clear H m; intro m H
  refine w_p h_m158 3 (pc' := 195) (L' := [(0, .ref 143)]) (st' := [.int (-1 : Int32), .int (0 : Int32), .ref 166, .ref 166, .ref 143]) rfl ?_
  refine w_as H (t := 0) (j := 0) (u := .int (-1 : Int32)) (0, 6, [(0, .int (-1 : Int32))], some (.int (0 : Int32))) (pc' := 196) (L' := [(0, .ref 143)]) h_m158 (z_at.mk 1 rfl rfl) rfl rfl (w_ui _ _ (by decide)) rfl rfl rfl rfl ?_
  clear H m; intro m H
  refine w_p h_m158 3 (pc' := 199) (L' := [(0, .ref 143)]) (st' := [.int (-1 : Int32), .int (1 : Int32), .ref 166, .ref 166, .ref 143]) rfl ?_
  refine w_as H (t := 0) (j := 1) (u := .int (-1 : Int32)) (0, 6, [(1, .int (-1 : Int32)), (0, .int (-1 : Int32))], some (.int (0 : Int32))) (pc' := 200) (L' := [(0, .ref 143)]) h_m158 (z_at.mk 1 rfl rfl) rfl rfl (w_ui _ _ (by decide)) rfl rfl rfl rfl ?_
  clear H m; intro m H
  refine w_p h_m158 3 (pc' := 203) (L' := [(0, .ref 143)]) (st' := [.int (-1 : Int32), .int (2 : Int32), .ref 166, .ref 166, .ref 143]) rfl ?_
  refine w_as H (t := 0) (j := 2) (u := .int (-1 : Int32)) (0, 6, [(2, .int (-1 : Int32)), (1, .int (-1 : Int32)), (0, .int (-1 : Int32))], some (.int (0 : Int32))) (pc' := 204) (L' := [(0, .ref 143)]) h_m158 (z_at.mk 1 rfl rfl) rfl rfl (w_ui _ _ (by decide)) rfl rfl rfl rfl ?_
  clear H m; intro m H
  refine w_p h_m158 3 (pc' := 207) (L' := [(0, .ref 143)]) (st' := [.int (-1 : Int32), .int (3 : Int32), .ref 166, .ref 166, .ref 143]) rfl ?_
  refine w_as H (t := 0) (j := 3) (u := .int (-1 : Int32)) (0, 6, [(3, .int (-1 : Int32)), (2, .int (-1 : Int32)), (1, .int (-1 : Int32)), (0, .int (-1 : Int32))], some (.int (0 : Int32))) (pc' := 208) (L' := [(0, .ref 143)]) h_m158 (z_at.mk 1 rfl rfl) rfl rfl (w_ui _ _ (by decide)) rfl rfl rfl rfl ?_
  clear H m; intro m H
  refine w_p h_m158 3 (pc' := 211) (L' := [(0, .ref 143)]) (st' := [.int (-1 : Int32), .int (4 : Int32), .ref 166, .ref 166, .ref 143]) rfl ?_
  refine w_as H (t := 0) (j := 4) (u := .int (-1 : Int32)) (0, 6, [(4, .int (-1 : Int32)), (3, .int (-1 : Int32)), (2, .int (-1 : Int32)), (1, .int (-1 : Int32)), (0, .int (-1 : Int32))], some (.int (0 : Int32))) (pc' := 212) (L' := [(0, .ref 143)]) h_m158 (z_at.mk 1 rfl rfl) rfl rfl (w_ui _ _ (by decide)) rfl rfl rfl rfl ?_
  clear H m; intro m H
  refine w_p h_m158 3 (pc' := 215) (L' := [(0, .ref 143)]) (st' := [.int (-1 : Int32), .int (5 : Int32), .ref 166, .ref 166, .ref 143]) rfl ?_
  refine w_as H (t := 0) (j := 5) (u := .int (-1 : Int32)) (0, 6, [(5, .int (-1 : Int32)), (4, .int (-1 : Int32)), (3, .int (-1 : Int32)), (2, .int (-1 : Int32)), (1, .int (-1 : Int32)), (0, .int (-1 : Int32))], some (.int (0 : Int32))) (pc' := 216) (L' := [(0, .ref 143)]) h_m158 (z_at.mk 1 rfl rfl) rfl rfl (w_ui _ _ (by decide)) rfl rfl rfl rfl ?_
  clear H m; intro m H
  refine w_pf H (22, 35, [(33, .ref 166), (31, .ref 165), (30, .ref 164), (28, .ref 163), (26, .ref 162), (25, .ref 161), (24, .ref 160), (19, .ref 159), (18, .ref 158), (17, .ref 157), (16, .ref 156), (13, .ref 155), (12, .ref 154), (11, .ref 153), (9, .ref 152), (8, .ref 151), (7, .ref 150), (5, .ref 149), (4, .ref 148), (3, .ref 147), (2, .ref 146), (1, .ref 145), (0, .ref 144), (6, .int (0 : Int32)), (10, .int (0 : Int32)), (14, .int (0 : Int32)), (15, .int (0 : Int32)), (20, .int (0 : Int32)), (21, .int (0 : Int32)), (22, .int (0 : Int32)), (23, .int (0 : Int32)), (27, .int (0 : Int32)), (29, .int (0 : Int32)), (32, .int (0 : Int32)), (34, .null)], none) (pc' := 219) (L' := [(0, .ref 143)]) h_m158 (z_at.mk 3 rfl rfl) rfl (by decide) rfl (Or.inr ⟨rfl, rfl, by decide⟩) rfl rfl rfl ?_
  clear H m; intro m H
  refine w_p h_m158 2 (pc' := 223) (L' := [(0, .ref 143)]) (st' := [.int (360 : Int32), .ref 143]) rfl ?_
  refine w_na H (ti := 1) (n := 360) (.long (0 : Int64)) (N' := 168) (S' := 63950) (pc' := 225) (L' := [(0, .ref 143)]) h_m158 (z_at.mk 2 rfl rfl) rfl (by decide) rfl (by decide) rfl rfl rfl rfl rfl ?_
  clear H m; intro m H
  refine w_pf H (22, 35, [(34, .ref 167), (33, .ref 166), (31, .ref 165), (30, .ref 164), (28, .ref 163), (26, .ref 162), (25, .ref 161), (24, .ref 160), (19, .ref 159), (18, .ref 158), (17, .ref 157), (16, .ref 156), (13, .ref 155), (12, .ref 154), (11, .ref 153), (9, .ref 152), (8, .ref 151), (7, .ref 150), (5, .ref 149), (4, .ref 148), (3, .ref 147), (2, .ref 146), (1, .ref 145), (0, .ref 144), (6, .int (0 : Int32)), (10, .int (0 : Int32)), (14, .int (0 : Int32)), (15, .int (0 : Int32)), (20, .int (0 : Int32)), (21, .int (0 : Int32)), (22, .int (0 : Int32)), (23, .int (0 : Int32)), (27, .int (0 : Int32)), (29, .int (0 : Int32)), (32, .int (0 : Int32))], none) (pc' := 228) (L' := [(0, .ref 143)]) h_m158 (z_at.mk 3 rfl rfl) rfl (by decide) rfl (Or.inr ⟨rfl, rfl, by decide⟩) rfl rfl rfl ?_
  clear H m; intro m H
  refine w_p h_m158 1 (pc' := 229) (L' := [(0, .ref 143)]) (st' := [.ref 143]) rfl ?_
  refine w_gf H (pc' := 232) (L' := [(0, .ref 143)]) h_m158 (z_at.mk 3 rfl rfl) rfl (u := .ref 144) rfl rfl rfl ?_
  refine w_p h_m158 2 (pc' := 236) (L' := [(0, .ref 143)]) (st' := [.int (10 : Int32), .int (11 : Int32), .ref 144]) rfl ?_
  refine w_as H (t := 0) (j := 11) (u := .int (10 : Int32)) (0, 2740, [(11, .int (10 : Int32))], some (.int (0 : Int32))) (pc' := 237) (L' := [(0, .ref 143)]) h_m158 (z_at.mk 1 rfl rfl) rfl rfl (w_ui _ _ (by decide)) rfl rfl rfl rfl ?_
  clear H m; intro m H
  refine w_p h_m158 1 (pc' := 238) (L' := [(0, .ref 143)]) (st' := [.ref 143]) rfl ?_
  refine w_gf H (pc' := 241) (L' := [(0, .ref 143)]) h_m158 (z_at.mk 3 rfl rfl) rfl (u := .ref 144) rfl rfl rfl ?_
  refine w_p h_m158 2 (pc' := 245) (L' := [(0, .ref 143)]) (st' := [.int (40 : Int32), .int (12 : Int32), .ref 144]) rfl ?_
  refine w_as H (t := 0) (j := 12) (u := .int (40 : Int32)) (0, 2740, [(12, .int (40 : Int32)), (11, .int (10 : Int32))], some (.int (0 : Int32))) (pc' := 246) (L' := [(0, .ref 143)]) h_m158 (z_at.mk 1 rfl rfl) rfl rfl (w_ui _ _ (by decide)) rfl rfl rfl rfl ?_
  clear H m; intro m H
  refine w_p h_m158 1 (pc' := 247) (L' := [(0, .ref 143)]) (st' := [.ref 143]) rfl ?_
  refine w_gf H (pc' := 250) (L' := [(0, .ref 143)]) h_m158 (z_at.mk 3 rfl rfl) rfl (u := .ref 144) rfl rfl rfl ?_
  refine w_p h_m158 2 (pc' := 254) (L' := [(0, .ref 143)]) (st' := [.int (12 : Int32), .int (13 : Int32), .ref 144]) rfl ?_
  refine w_as H (t := 0) (j := 13) (u := .int (12 : Int32)) (0, 2740, [(13, .int (12 : Int32)), (12, .int (40 : Int32)), (11, .int (10 : Int32))], some (.int (0 : Int32))) (pc' := 255) (L' := [(0, .ref 143)]) h_m158 (z_at.mk 1 rfl rfl) rfl rfl (w_ui _ _ (by decide)) rfl rfl rfl rfl ?_
  clear H m; intro m H
  refine w_p h_m158 1 (pc' := 256) (L' := [(0, .ref 143)]) (st' := [.ref 143]) rfl ?_
  refine w_gf H (pc' := 259) (L' := [(0, .ref 143)]) h_m158 (z_at.mk 3 rfl rfl) rfl (u := .ref 144) rfl rfl rfl ?_
  refine w_p h_m158 2 (pc' := 262) (L' := [(0, .ref 143)]) (st' := [.int (1 : Int32), .int (15 : Int32), .ref 144]) rfl ?_
  refine w_as H (t := 0) (j := 15) (u := .int (1 : Int32)) (0, 2740, [(15, .int (1 : Int32)), (13, .int (12 : Int32)), (12, .int (40 : Int32)), (11, .int (10 : Int32))], some (.int (0 : Int32))) (pc' := 263) (L' := [(0, .ref 143)]) h_m158 (z_at.mk 1 rfl rfl) rfl rfl (w_ui _ _ (by decide)) rfl rfl rfl rfl ?_
  clear H m; intro m H
  refine w_p h_m158 1 (pc' := 264) (L' := [(0, .ref 143)]) (st' := [.ref 143]) rfl ?_
  refine w_gf H (pc' := 267) (L' := [(0, .ref 143)]) h_m158 (z_at.mk 3 rfl rfl) rfl (u := .ref 144) rfl rfl rfl ?_
  refine w_p h_m158 2 (pc' := 270) (L' := [(0, .ref 143)]) (st' := [.int (1 : Int32), .int (16 : Int32), .ref 144]) rfl ?_
  refine w_as H (t := 0) (j := 16) (u := .int (1 : Int32)) (0, 2740, [(16, .int (1 : Int32)), (15, .int (1 : Int32)), (13, .int (12 : Int32)), (12, .int (40 : Int32)), (11, .int (10 : Int32))], some (.int (0 : Int32))) (pc' := 271) (L' := [(0, .ref 143)]) h_m158 (z_at.mk 1 rfl rfl) rfl rfl (w_ui _ _ (by decide)) rfl rfl rfl rfl ?_
  clear H m; intro m H
  refine w_p h_m158 1 (pc' := 272) (L' := [(0, .ref 143)]) (st' := [.ref 143]) rfl ?_
  refine w_gf H (pc' := 275) (L' := [(0, .ref 143)]) h_m158 (z_at.mk 3 rfl rfl) rfl (u := .ref 144) rfl rfl rfl ?_
  refine w_p h_m158 2 (pc' := 280) (L' := [(0, .ref 143)]) (st' := [.int (1024 : Int32), .int (17 : Int32), .ref 144]) rfl ?_
  refine w_as H (t := 0) (j := 17) (u := .int (1024 : Int32)) (0, 2740, [(17, .int (1024 : Int32)), (16, .int (1 : Int32)), (15, .int (1 : Int32)), (13, .int (12 : Int32)), (12, .int (40 : Int32)), (11, .int (10 : Int32))], some (.int (0 : Int32))) (pc' := 281) (L' := [(0, .ref 143)]) h_m158 (z_at.mk 1 rfl rfl) rfl rfl (w_ui _ _ (by decide)) rfl rfl rfl rfl ?_
  clear H m; intro m H
  refine w_rv h_m158 (z_at.mk 1 rfl rfl) rfl ?_
  show z_W 1000 1000 15 [(1, .ref 39), (0, .ref 0)] [.ref 143] m _
  refine w_p h_m1000 3 (pc' := 18) (L' := [(0, .ref 0), (1, .ref 39), (2, .ref 143), (3, .int (0 : Int32))]) (st' := []) rfl ?_
  exact hQ _ (H.subB (by decide +kernel))
end
section
/-! 16.z.more -/
/-! MORE RULES: copies of which nothing is known after, products, a box's sides -/
section ZWM
variable {xl : Nat} {xs : Nat → Int32} {N S : Nat} {T : wT}
variable {q : z_R} {d k pc pc' : Nat} {L L' : zL} {st st' r : List Value} {μ : zM} {Q : Option Value → zM → Prop}
theorem w_ok.src (H : w_ok xl xs N S T μ) {a t na : Nat} (h : (w_row T a).map (fun r => (r.1, r.2.1)) = some (t, na)) : z_tg μ a = t ∧ z_n μ a = na ∧ w_el t (μ.2 a) := by
  obtain ⟨rr, hrr, he⟩ := Option.map_eq_some_iff.mp h
  obtain ⟨g1, g2, g3, g4⟩ := H.2.2.2.2 a rr hrr
  have he1 : rr.1 = t := (Prod.mk.inj he).1
  have he2 : rr.2.1 = na := (Prod.mk.inj he).2
  refine ⟨?_, ?_, by rw [← he1]; exact g3⟩
  · unfold z_tg; rw [g2]; exact he1
  · unfold z_n; rw [g2]; exact he2
theorem w_ok.srce (H : w_ok xl xs N S T μ) {a na : Nat} (ha : a < 39) (h19 : 19 ≤ a) (h : (z_sh0 xl)[a]? = some (2, na)) : z_tg μ a = 2 ∧ z_n μ a = na ∧ w_el 2 (μ.2 a) := by
  obtain ⟨g1, g2⟩ := H.te ha h
  refine ⟨g1, g2, fun _ j => ?_, fun h => by omega⟩
  rw [(H.2.2.2.1 a ha).2 j]
  unfold z_m0
  rw [if_neg (by omega), if_neg (by omega)]
  split
  · exact ⟨_, rfl⟩
  · exact ⟨_, rfl⟩
theorem w_cpu (H : w_ok xl xs N S T μ) {idx a b t na nb n s0 d0 : Nat} {r3 : Nat × Nat × List Nat} {y sp dp : Int32} (hq : z_mth k = some q) (hi : z_at q pc (.invokestatic idx)) (hl : z_lk z_ML q.2.2.2.2.1 idx = some (8, r3)) (hcat : z_cat r ≤ 8) (hs : z_tg μ a = t ∧ z_n μ a = na ∧ w_el t (μ.2 a)) (hrb : (w_row T b).map (fun r => (r.1, r.2.1)) = some (t, nb)) (hsp : sp.toInt = s0) (hdp : dp.toInt = d0) (hy : y.toInt = n) (h1 : s0 + n ≤ na) (h2 : d0 + n ≤ nb) (h3 : t < 3) (e1 : pc + 3 = pc') (e2 : z_can k pc' L = L') (kk : ∀ μ2, w_ok xl xs N S ((b, (t, nb, [], none)) :: T) μ2 → z_W d k pc' L' r μ2 Q) : z_W d k pc L (.int y :: .int dp :: .ref b :: .int sp :: .ref a :: r) μ Q := by
  obtain ⟨ta, na', ela⟩ := hs
  obtain ⟨tb, nb', elb⟩ := H.src hrb
  obtain ⟨rb, hrb2, he⟩ := Option.map_eq_some_iff.mp hrb
  have he1 : rb.1 = t := (Prod.mk.inj he).1
  have he2 : rb.2.1 = nb := (Prod.mk.inj he).2
  obtain ⟨H1, H2, H3, H4, H5⟩ := id H
  obtain ⟨gb1, gb2, -, -⟩ := H5 b rb hrb2
  have e3 : y.toNatClampNeg = n := by
    show y.toInt.toNat = n
    omega
  have e4 : sp.toNatClampNeg = s0 := by
    show sp.toInt.toNat = s0
    omega
  have e5 : dp.toNatClampNeg = d0 := by
    show dp.toInt.toNat = d0
    omega
  have hcp : z_cp μ a sp b dp y = some (μ.1, z_nw μ.2 b (z_cpy (μ.2 a) (μ.2 b) s0 d0 n)) := by
    unfold z_cp
    rw [e3, e4, e5, if_pos ⟨gb1, ta.trans tb.symm, by rw [ta]; exact h3, by omega, by omega, by omega, by omega, by omega⟩]
  refine w_x (fun _ _ e => ev_cp hq hi hl hcat hcp e1 e2 e) (kk _ ?_)
  refine ⟨H1, H2, H3, fun c hc => ⟨(H4 c hc).1, fun j => ?_⟩, fun c rc hc => ?_⟩
  · show (if c = b then _ else μ.2 c j) = _
    rw [if_neg (by omega)]
    exact (H4 c hc).2 j
  · rw [w_row_cons] at hc
    by_cases hbc : b = c
    · subst hbc
      rw [if_pos rfl] at hc
      cases hc
      have e : ∀ j, (if b = b then z_cpy (μ.2 a) (μ.2 b) s0 d0 n j else μ.2 b j) = if d0 ≤ j ∧ j < d0 + n then μ.2 a (s0 + (j - d0)) else μ.2 b j := fun j => if_pos rfl
      refine ⟨gb1, ?_, ⟨fun ht j => ?_, fun ht j => ?_⟩, fun j v hj hv => ?_⟩
      · show μ.1[b]? = some (t, nb)
        rw [gb2, he1, he2]
      · show ∃ x : Int32, (if b = b then z_cpy (μ.2 a) (μ.2 b) s0 d0 n j else μ.2 b j) = .int x
        rw [e j]
        split
        · exact ela.1 ht _
        · exact elb.1 ht j
      · show ∃ x : Int64, (if b = b then z_cpy (μ.2 a) (μ.2 b) s0 d0 n j else μ.2 b j) = .long x
        rw [e j]
        split
        · exact ela.2 ht _
        · exact elb.2 ht j
      · cases hv
    · rw [if_neg hbc] at hc
      obtain ⟨k1, k2, k3, k4⟩ := H5 c rc hc
      have e : z_nw μ.2 b (z_cpy (μ.2 a) (μ.2 b) s0 d0 n) c = μ.2 c := funext fun j => if_neg (fun e => hbc e.symm)
      refine ⟨k1, k2, ?_, ?_⟩
      · show w_el rc.1 (z_nw μ.2 b (z_cpy (μ.2 a) (μ.2 b) s0 d0 n) c)
        rw [e]; exact k3
      · show ∀ j v, j < rc.2.1 → w_at rc j = some v → z_nw μ.2 b (z_cpy (μ.2 a) (μ.2 b) s0 d0 n) c j = v
        rw [e]; exact k4
end ZWM
theorem zi_prod {x y : Int32} {a b : Int} (hx : x.toInt = a) (hy : y.toInt = b) (ha : 1 ≤ a ∧ a ≤ 32) (hb : 1 ≤ b ∧ b ≤ 32) : 1 ≤ (x * y).toInt ∧ (x * y).toInt ≤ 1024 := by
  have h1 : 1 * 1 ≤ a * b := Int.mul_le_mul ha.1 hb.1 (by omega) (by omega)
  have h2 : a * b ≤ 32 * 32 := Int.mul_le_mul ha.2 hb.2 (by omega) (by omega)
  have := zi_mul (c := a * b) hx hy (by omega) (by omega) rfl
  omega
theorem zp_n {x : Int32} (h : 0 ≤ x.toInt ∧ x.toInt ≤ 31) : ∃ n, n < 32 ∧ x = Int32.ofNat n := by
  refine ⟨x.toInt.toNat, by omega, ?_⟩
  apply Int32.toInt_inj.mp
  rw [Int32.toInt_ofNat']
  have : ((x.toInt.toNat : Nat) : Int) = x.toInt := by omega
  rw [this, zi_bm (by omega) (by omega)]
theorem zp_or_and (a b c : Int32) : (a ||| b) &&& c = (a &&& c) ||| (b &&& c) := by
  apply Int32.toBitVec_inj.1
  apply BitVec.eq_of_getLsbD_eq
  intro i _
  simp [Bool.and_or_distrib_right]
theorem zpdA_0 : ∀ n, n < 32 → (Int32.ofNat n) &&& (31 : Int32) = Int32.ofNat n := by decide +kernel
theorem zpdA_1 : ∀ n, n < 32 → (Int32.ofNat n <<< ((5 : Int32) &&& 31)) &&& (31 : Int32) = 0 := by decide +kernel
theorem zpdA_2 : ∀ n, n < 32 → (Int32.ofNat n <<< ((10 : Int32) &&& 31)) &&& (31 : Int32) = 0 := by decide +kernel
theorem zpdA_3 : ∀ n, n < 32 → (Int32.ofNat n <<< ((15 : Int32) &&& 31)) &&& (31 : Int32) = 0 := by decide +kernel
theorem zpA {x y z w : Int32} (hx : 0 ≤ x.toInt ∧ x.toInt ≤ 31) (hy : 0 ≤ y.toInt ∧ y.toInt ≤ 31) (hz : 0 ≤ z.toInt ∧ z.toInt ≤ 31) (hw : 0 ≤ w.toInt ∧ w.toInt ≤ 31) : (((x ||| (y <<< ((5 : Int32) &&& 31))) ||| (z <<< ((10 : Int32) &&& 31))) ||| (w <<< ((15 : Int32) &&& 31))) &&& (31 : Int32) = x := by
  obtain ⟨a, ha, rfl⟩ := zp_n hx
  obtain ⟨b, hb, rfl⟩ := zp_n hy
  obtain ⟨c, hc, rfl⟩ := zp_n hz
  obtain ⟨f, hf, rfl⟩ := zp_n hw
  rw [zp_or_and, zp_or_and, zp_or_and, zpdA_0 a ha, zpdA_1 b hb, zpdA_2 c hc, zpdA_3 f hf]
  simp only [Int32.or_zero, Int32.zero_or]
theorem zpd0_0 : ∀ n, n < 32 → ((Int32.ofNat n) >>> ((0 : Int32) &&& 31)) &&& (31 : Int32) = Int32.ofNat n := by decide +kernel
theorem zpd0_1 : ∀ n, n < 32 → ((Int32.ofNat n <<< ((5 : Int32) &&& 31)) >>> ((0 : Int32) &&& 31)) &&& (31 : Int32) = 0 := by decide +kernel
theorem zpd0_2 : ∀ n, n < 32 → ((Int32.ofNat n <<< ((10 : Int32) &&& 31)) >>> ((0 : Int32) &&& 31)) &&& (31 : Int32) = 0 := by decide +kernel
theorem zpd0_3 : ∀ n, n < 32 → ((Int32.ofNat n <<< ((15 : Int32) &&& 31)) >>> ((0 : Int32) &&& 31)) &&& (31 : Int32) = 0 := by decide +kernel
theorem zp0 {x y z w : Int32} (hx : 0 ≤ x.toInt ∧ x.toInt ≤ 31) (hy : 0 ≤ y.toInt ∧ y.toInt ≤ 31) (hz : 0 ≤ z.toInt ∧ z.toInt ≤ 31) (hw : 0 ≤ w.toInt ∧ w.toInt ≤ 31) : ((((x ||| (y <<< ((5 : Int32) &&& 31))) ||| (z <<< ((10 : Int32) &&& 31))) ||| (w <<< ((15 : Int32) &&& 31))) >>> ((0 : Int32) &&& 31)) &&& (31 : Int32) = x := by
  obtain ⟨a, ha, rfl⟩ := zp_n hx
  obtain ⟨b, hb, rfl⟩ := zp_n hy
  obtain ⟨c, hc, rfl⟩ := zp_n hz
  obtain ⟨f, hf, rfl⟩ := zp_n hw
  rw [Int32.shiftRight_or, Int32.shiftRight_or, Int32.shiftRight_or, zp_or_and, zp_or_and, zp_or_and, zpd0_0 a ha, zpd0_1 b hb, zpd0_2 c hc, zpd0_3 f hf]
  simp only [Int32.or_zero, Int32.zero_or]
theorem zpd5_0 : ∀ n, n < 32 → ((Int32.ofNat n) >>> ((5 : Int32) &&& 31)) &&& (31 : Int32) = 0 := by decide +kernel
theorem zpd5_1 : ∀ n, n < 32 → ((Int32.ofNat n <<< ((5 : Int32) &&& 31)) >>> ((5 : Int32) &&& 31)) &&& (31 : Int32) = Int32.ofNat n := by decide +kernel
theorem zpd5_2 : ∀ n, n < 32 → ((Int32.ofNat n <<< ((10 : Int32) &&& 31)) >>> ((5 : Int32) &&& 31)) &&& (31 : Int32) = 0 := by decide +kernel
theorem zpd5_3 : ∀ n, n < 32 → ((Int32.ofNat n <<< ((15 : Int32) &&& 31)) >>> ((5 : Int32) &&& 31)) &&& (31 : Int32) = 0 := by decide +kernel
theorem zp5 {x y z w : Int32} (hx : 0 ≤ x.toInt ∧ x.toInt ≤ 31) (hy : 0 ≤ y.toInt ∧ y.toInt ≤ 31) (hz : 0 ≤ z.toInt ∧ z.toInt ≤ 31) (hw : 0 ≤ w.toInt ∧ w.toInt ≤ 31) : ((((x ||| (y <<< ((5 : Int32) &&& 31))) ||| (z <<< ((10 : Int32) &&& 31))) ||| (w <<< ((15 : Int32) &&& 31))) >>> ((5 : Int32) &&& 31)) &&& (31 : Int32) = y := by
  obtain ⟨a, ha, rfl⟩ := zp_n hx
  obtain ⟨b, hb, rfl⟩ := zp_n hy
  obtain ⟨c, hc, rfl⟩ := zp_n hz
  obtain ⟨f, hf, rfl⟩ := zp_n hw
  rw [Int32.shiftRight_or, Int32.shiftRight_or, Int32.shiftRight_or, zp_or_and, zp_or_and, zp_or_and, zpd5_0 a ha, zpd5_1 b hb, zpd5_2 c hc, zpd5_3 f hf]
  simp only [Int32.or_zero, Int32.zero_or]
theorem zpd10_0 : ∀ n, n < 32 → ((Int32.ofNat n) >>> ((10 : Int32) &&& 31)) &&& (31 : Int32) = 0 := by decide +kernel
theorem zpd10_1 : ∀ n, n < 32 → ((Int32.ofNat n <<< ((5 : Int32) &&& 31)) >>> ((10 : Int32) &&& 31)) &&& (31 : Int32) = 0 := by decide +kernel
theorem zpd10_2 : ∀ n, n < 32 → ((Int32.ofNat n <<< ((10 : Int32) &&& 31)) >>> ((10 : Int32) &&& 31)) &&& (31 : Int32) = Int32.ofNat n := by decide +kernel
theorem zpd10_3 : ∀ n, n < 32 → ((Int32.ofNat n <<< ((15 : Int32) &&& 31)) >>> ((10 : Int32) &&& 31)) &&& (31 : Int32) = 0 := by decide +kernel
theorem zp10 {x y z w : Int32} (hx : 0 ≤ x.toInt ∧ x.toInt ≤ 31) (hy : 0 ≤ y.toInt ∧ y.toInt ≤ 31) (hz : 0 ≤ z.toInt ∧ z.toInt ≤ 31) (hw : 0 ≤ w.toInt ∧ w.toInt ≤ 31) : ((((x ||| (y <<< ((5 : Int32) &&& 31))) ||| (z <<< ((10 : Int32) &&& 31))) ||| (w <<< ((15 : Int32) &&& 31))) >>> ((10 : Int32) &&& 31)) &&& (31 : Int32) = z := by
  obtain ⟨a, ha, rfl⟩ := zp_n hx
  obtain ⟨b, hb, rfl⟩ := zp_n hy
  obtain ⟨c, hc, rfl⟩ := zp_n hz
  obtain ⟨f, hf, rfl⟩ := zp_n hw
  rw [Int32.shiftRight_or, Int32.shiftRight_or, Int32.shiftRight_or, zp_or_and, zp_or_and, zp_or_and, zpd10_0 a ha, zpd10_1 b hb, zpd10_2 c hc, zpd10_3 f hf]
  simp only [Int32.or_zero, Int32.zero_or]
theorem zpd15_0 : ∀ n, n < 32 → ((Int32.ofNat n) >>> ((15 : Int32) &&& 31)) &&& (31 : Int32) = 0 := by decide +kernel
theorem zpd15_1 : ∀ n, n < 32 → ((Int32.ofNat n <<< ((5 : Int32) &&& 31)) >>> ((15 : Int32) &&& 31)) &&& (31 : Int32) = 0 := by decide +kernel
theorem zpd15_2 : ∀ n, n < 32 → ((Int32.ofNat n <<< ((10 : Int32) &&& 31)) >>> ((15 : Int32) &&& 31)) &&& (31 : Int32) = 0 := by decide +kernel
theorem zpd15_3 : ∀ n, n < 32 → ((Int32.ofNat n <<< ((15 : Int32) &&& 31)) >>> ((15 : Int32) &&& 31)) &&& (31 : Int32) = Int32.ofNat n := by decide +kernel
theorem zp15 {x y z w : Int32} (hx : 0 ≤ x.toInt ∧ x.toInt ≤ 31) (hy : 0 ≤ y.toInt ∧ y.toInt ≤ 31) (hz : 0 ≤ z.toInt ∧ z.toInt ≤ 31) (hw : 0 ≤ w.toInt ∧ w.toInt ≤ 31) : ((((x ||| (y <<< ((5 : Int32) &&& 31))) ||| (z <<< ((10 : Int32) &&& 31))) ||| (w <<< ((15 : Int32) &&& 31))) >>> ((15 : Int32) &&& 31)) &&& (31 : Int32) = w := by
  obtain ⟨a, ha, rfl⟩ := zp_n hx
  obtain ⟨b, hb, rfl⟩ := zp_n hy
  obtain ⟨c, hc, rfl⟩ := zp_n hz
  obtain ⟨f, hf, rfl⟩ := zp_n hw
  rw [Int32.shiftRight_or, Int32.shiftRight_or, Int32.shiftRight_or, zp_or_and, zp_or_and, zp_or_and, zpd15_0 a ha, zpd15_1 b hb, zpd15_2 c hc, zpd15_3 f hf]
  simp only [Int32.or_zero, Int32.zero_or]
theorem zi_div {x y : Int32} {a b : Int} (hx : x.toInt = a) (hy : y.toInt = b) (ha : 0 ≤ a) (hb : 0 < b) : 0 ≤ (x / y).toInt ∧ b * (x / y).toInt ≤ a ∧ a < b * (x / y).toInt + b := by
  have h1 := Int32.toInt_div x y
  rw [hx, hy, Int.tdiv_eq_ediv_of_nonneg ha] at h1
  have h2 := zi_bd x
  have h3 : 0 ≤ a / b := Int.ediv_nonneg ha (by omega)
  have h4 : a / b ≤ a := Int.ediv_le_self b ha
  rw [zi_bm (by omega) (by omega)] at h1
  have h5 := Int.mul_ediv_add_emod a b
  have h6 := Int.emod_nonneg a (show b ≠ 0 by omega)
  have h7 := Int.emod_lt_of_pos a hb
  rw [h1]
  omega
end
section
/-! 20.rep -/
/-! A TYPED MEMORY of whole numbers over the small memory (zS: address, place -> number), and the rules for runs that keep to it -/
abbrev zS : Type := Nat → Int → Int
def w32 (x : Int) : Int := x.bmod (2 ^ 32)
def w64 (x : Int) : Int := x.bmod (2 ^ 64)
def w8 (x : Int) : Int := x.bmod (2 ^ 8)
def w16 (x : Int) : Int := x % 65536
def iAnd (x y : Int) : Int := (Int32.ofInt x &&& Int32.ofInt y).toInt
def iOr (x y : Int) : Int := (Int32.ofInt x ||| Int32.ofInt y).toInt
def iXor (x y : Int) : Int := (Int32.ofInt x ^^^ Int32.ofInt y).toInt
def iShl (x y : Int) : Int := (Int32.ofInt x <<< (Int32.ofInt y &&& 31)).toInt
def iShr (x y : Int) : Int := (Int32.ofInt x >>> (Int32.ofInt y &&& 31)).toInt
def lAnd (x y : Int) : Int := (Int64.ofInt x &&& Int64.ofInt y).toInt
def lOr (x y : Int) : Int := (Int64.ofInt x ||| Int64.ofInt y).toInt
def lXor (x y : Int) : Int := (Int64.ofInt x ^^^ Int64.ofInt y).toInt
def lShl (x y : Int) : Int := (Int64.ofInt x <<< ((Int32.ofInt y).toInt64 &&& 63)).toInt
def lShr (x y : Int) : Int := (Int64.ofInt x >>> ((Int32.ofInt y).toInt64 &&& 63)).toInt
def lUshr (x y : Int) : Int := ((Int64.ofInt x).toUInt64 >>> ((Int32.ofInt y).toInt64.toUInt64 &&& Int64.toUInt64 63)).toInt64.toInt
def lCmp (x y : Int) : Int := if x > y then 1 else if x = y then 0 else -1
def zu (σ : zS) (a : Nat) (i v : Int) : zS := fun b j => if b = a ∧ j = i then v else σ b j
def zcp (σ : zS) (a : Nat) (sp : Int) (b : Nat) (dp n : Int) : zS := fun c j => if c = b ∧ dp ≤ j ∧ j < dp + n then σ a (sp + (j - dp)) else σ c j
/-- what the texts and the digits hold, which nobody writes -/
def zs0 (a : Nat) (i : Int) : Int := if a < 37 then ((z_byt.getD (a - 19) []).getD i.toNat 0).toInt else ((z_dig (a - 37)).getD i.toNat 0).toInt
def zTB : List (Nat × Nat × List Nat) := [(100, 0, []), (9, 2, []), (9, 2, []), (9, 2, []), (9, 2, []), (9, 2, []), (9, 2, []), (9, 2, []), (9, 2, []), (9, 2, []), (9, 2, []), (9, 2, []), (9, 2, []), (9, 2, []), (9, 2, []), (9, 2, []), (9, 2, []), (9, 2, []), (9, 2, []), (2, 39, []), (2, 14, []), (2, 6, []), (2, 36, []), (2, 2, []), (2, 4, []), (2, 3, []), (2, 5, []), (2, 4, []), (2, 4, []), (2, 39, []), (2, 14, []), (2, 6, []), (2, 36, []), (2, 2, []), (2, 5, []), (2, 4, []), (2, 4, []), (2, 100, []), (2, 100, []), (21, 14, [140, 173, 0, 206, 218, 220, 222, 226, 228, 0, 229, 231, 233, 234]), (17, 5, [141, 148, 160, 163, 165]), (18, 7, [142, 143, 144, 145, 0, 146, 147]), (0, 60, []), (0, 60, []), (1, 60, []), (0, 60, []), (1, 33, []), (1, 33, []), (12, 18, [141, 149, 0, 151, 152, 153, 154, 155, 0, 1, 0, 0, 0, 0, 0, 0, 156, 158]), (16, 1, [150]), (0, 7, []), (0, 181, []), (0, 181, []), (0, 181, []), (0, 181, []), (1, 181, []), (11, 2, [157, 0]), (0, 169, []), (11, 2, [159, 0]), (0, 169, []), (13, 3, [161, 162, 0]), (0, 60, []), (1, 60, []), (11, 2, [164, 0]), (0, 10, []), (20, 6, [166, 167, 168, 169, 170, 0]), (0, 6, []), (0, 6, []), (0, 6, []), (1, 6, []), (13, 3, [171, 172, 0]), (0, 60, []), (1, 60, []), (17, 5, [174, 181, 193, 196, 198]), (18, 7, [175, 176, 177, 178, 0, 179, 180]), (0, 60, []), (0, 60, []), (1, 60, []), (0, 60, []), (1, 33, []), (1, 33, []), (12, 18, [174, 182, 0, 184, 185, 186, 187, 188, 0, 1, 0, 0, 0, 0, 0, 0, 189, 191]), (16, 1, [183]), (0, 7, []), (0, 181, []), (0, 181, []), (0, 181, []), (0, 181, []), (1, 181, []), (11, 2, [190, 0]), (0, 169, []), (11, 2, [192, 0]), (0, 169, []), (13, 3, [194, 195, 0]), (0, 60, []), (1, 60, []), (11, 2, [197, 0]), (0, 10, []), (20, 6, [199, 200, 201, 202, 203, 0]), (0, 6, []), (0, 6, []), (0, 6, []), (1, 6, []), (13, 3, [204, 205, 0]), (0, 60, []), (1, 60, []), (12, 18, [141, 207, 0, 209, 210, 211, 212, 213, 0, 1, 0, 0, 0, 0, 0, 0, 214, 216]), (16, 1, [208]), (0, 7, []), (0, 181, []), (0, 181, []), (0, 181, []), (0, 181, []), (1, 181, []), (11, 2, [215, 0]), (0, 169, []), (11, 2, [217, 0]), (0, 169, []), (16, 1, [219]), (0, 7, []), (19, 4, [221, 0, 0, 0]), (2, 160, []), (15, 6, [220, 141, 223, 224, 225, 0]), (0, 8, []), (0, 8, []), (1, 8, []), (11, 2, [227, 0]), (0, 12, []), (1, 8, []), (23, 4, [9, 0, 0, 0]), (2, 16, []), (11, 2, [232, 0]), (0, 181, []), (0, 181, []), (14, 2, [235, 242]), (3, 6, [236, 237, 238, 239, 240, 241]), (1, 60, []), (1, 60, []), (1, 60, []), (1, 60, []), (1, 60, []), (1, 60, []), (0, 6, []), (22, 35, [244, 245, 246, 247, 248, 249, 0, 250, 251, 252, 0, 253, 254, 255, 0, 0, 256, 257, 258, 259, 0, 0, 0, 0, 260, 261, 262, 0, 263, 0, 264, 265, 0, 266, 267]), (0, 2740, []), (0, 2740, []), (0, 2740, []), (1, 361, []), (1, 361, []), (1, 361, []), (0, 2400, []), (0, 2400, []), (0, 4, []), (0, 4, []), (0, 60, []), (1, 60, []), (0, 10, []), (0, 4, []), (1, 6, []), (0, 160, []), (0, 7, []), (0, 48, []), (1, 8, []), (0, 40000, []), (0, 48, []), (0, 3000, []), (0, 6, []), (1, 360, [])]
def zTg (a : Nat) : Nat := (zTB.getD a (100, 0, [])).1
def zLN (a : Nat) : Nat := (zTB.getD a (100, 0, [])).2.1
def zLI (a : Nat) : Int := (zLN a : Int)
def zKd (a i : Nat) : Nat := match zTg a with
  | 0 => 0
  | 2 => 0
  | 1 => 1
  | _ => (zTB.getD a (100, 0, [])).2.2.getD i 9
def zT (a tg : Nat) : Bool := decide (39 ≤ a) && decide (a < 168) && !(a == 130) && zTg a == tg
def zQ (a tg f k : Nat) : Bool := zT a tg && decide (f < zLN a) && zKd a f == k
def zAr (a t : Nat) (n : Int) : Bool := zT a t && decide (zLI a = n) && decide (t < 3)
def zAz (a t : Nat) (n : Int) : Bool := decide (19 ≤ a) && decide (a < 39) && decide (zLI a = n) && t == 2
def zIn (l : List Nat) (a : Nat) : Bool := l.contains a
theorem zIn_all {l : List Nat} {p : Nat → Bool} (h : l.all p = true) {a : Nat} (ha : zIn l a = true) : p a = true := List.all_eq_true.mp h a (List.contains_iff_mem.mp ha)
def zCell (k : Nat) (v : Value) (x : Int) : Prop := if k = 0 then ∃ X : Int32, v = .int X ∧ X.toInt = x else if k = 1 then ∃ X : Int64, v = .long X ∧ X.toInt = x else if k = 9 then True else v = .ref (k - 100)
/-- the text of the paper: its bytes lie at p (130 or, grown, behind all); the places of address 168 tell them, 169 0 how many there is room for -/
def zPage (xl : Nat) (xs : Nat → Int32) (p : Nat) (m : zM) (σ : zS) : Prop := ∃ cap : Nat,
  m.2 129 0 = .ref p ∧ (p = 130 ∨ 168 ≤ p) ∧ m.1[p]? = some (2, cap) ∧ (cap : Int) = σ 169 0 ∧ (∀ j : Nat, j < cap → ∃ X : Int32, m.2 p j = .int X ∧ X.toInt = σ 168 j) ∧ cap ≤ 200000 ∧ 168 ≤ m.1.length ∧ m.1.length ≤ 168 + cap ∧ z_slt m ≤ 63950 + 3 * cap + z_slt (z_mu0 xl xs)
def zRep (xl : Nat) (xs : Nat → Int32) (p : Nat) (m : zM) (σ : zS) : Prop :=
  (∀ a, a < 39 → m.1[a]? = (z_sh0 xl)[a]? ∧ ∀ j, m.2 a j = z_m0 xs a j) ∧
  (∀ a, 39 ≤ a → a < 168 → a ≠ 130 → m.1[a]? = some (zTg a, zLN a)) ∧
  (∀ a, 39 ≤ a → a < 168 → a ≠ 130 → ∀ i : Nat, i < zLN a → zCell (zKd a i) (m.2 a i) (σ a i)) ∧ zPage xl xs p m σ
def vI (r : Int) (v : Option Value) : Prop := ∃ R : Int32, v = some (.int R) ∧ R.toInt = r
def vL (r : Int) (v : Option Value) : Prop := ∃ R : Int64, v = some (.long R) ∧ R.toInt = r
def vR (a : Nat) (v : Option Value) : Prop := v = some (.ref a)
def vV (v : Option Value) : Prop := v = none
/-- runs from there to an end of which P holds, the memory is told by σ' then -/
def zGo (xl : Nat) (xs : Nat → Int32) (f : Nat → Prop) (d k pc : Nat) (L : zL) (st : List Value) (m : zM) (P : Option Value → Prop) (σ' : zS) : Prop := ∃ v m' p', z_Ev d k pc L st m v m' ∧ P v ∧ f p' ∧ zRep xl xs p' m' σ'
theorem z_ite {α : Type} {P : Prop} [Decidable P] {a b : Option α} {o : α} (h : (if P then a else b) = some o) : (P ∧ a = some o) ∨ (¬ P ∧ b = some o) := by
  by_cases hp : P
  · rw [if_pos hp] at h; exact Or.inl ⟨hp, h⟩
  · rw [if_neg hp] at h; exact Or.inr ⟨hp, h⟩
def zP (o : ClassFile.Cond) (x y : Int) : Prop := match o with
  | .eq => x = y
  | .ne => x ≠ y
  | .lt => x < y
  | .ge => y ≤ x
  | .gt => y < x
  | .le => x ≤ y
theorem zP_c {o : ClassFile.Cond} {X Y : Int32} {x y : Int} (hx : X.toInt = x) (hy : Y.toInt = y) : z_c o X Y = true ↔ zP o x y := by
  subst hx hy
  cases o
  · exact decide_eq_true_iff.trans Int32.toInt_inj.symm
  · exact decide_eq_true_iff.trans (not_congr Int32.toInt_inj.symm)
  · exact decide_eq_true_iff.trans Int32.lt_iff_toInt_lt
  · exact decide_eq_true_iff.trans Int32.le_iff_toInt_le
  · exact decide_eq_true_iff.trans Int32.lt_iff_toInt_lt
  · exact decide_eq_true_iff.trans Int32.le_iff_toInt_le
theorem tx_iadd {X Y : Int32} {x y : Int} (hx : X.toInt = x) (hy : Y.toInt = y) : (X + Y).toInt = w32 (x + y) := by subst hx hy; exact Int32.toInt_add X Y
theorem tx_iaddn {X Y : Int32} {x n : Int} (hx : X.toInt = x) (hy : Y.toInt = -n) : (X + Y).toInt = w32 (x - n) := by rw [tx_iadd hx hy]; rfl
theorem tx_isub {X Y : Int32} {x y : Int} (hx : X.toInt = x) (hy : Y.toInt = y) : (X - Y).toInt = w32 (x - y) := by subst hx hy; exact Int32.toInt_sub X Y
theorem tx_imul {X Y : Int32} {x y : Int} (hx : X.toInt = x) (hy : Y.toInt = y) : (X * Y).toInt = w32 (x * y) := by subst hx hy; exact Int32.toInt_mul X Y
theorem tx_ineg {X : Int32} {x : Int} (hx : X.toInt = x) : (-X).toInt = w32 (-x) := by subst hx; exact Int32.toInt_neg X
theorem tx_ladd {X Y : Int64} {x y : Int} (hx : X.toInt = x) (hy : Y.toInt = y) : (X + Y).toInt = w64 (x + y) := by subst hx hy; exact Int64.toInt_add X Y
theorem tx_lsub {X Y : Int64} {x y : Int} (hx : X.toInt = x) (hy : Y.toInt = y) : (X - Y).toInt = w64 (x - y) := by subst hx hy; exact Int64.toInt_sub X Y
theorem tx_lmul {X Y : Int64} {x y : Int} (hx : X.toInt = x) (hy : Y.toInt = y) : (X * Y).toInt = w64 (x * y) := by subst hx hy; exact Int64.toInt_mul X Y
theorem zo_i {X : Int32} {x : Int} (hx : X.toInt = x) : Int32.ofInt x = X := by subst hx; exact Int32.ofInt_toInt X
theorem zo_l {X : Int64} {x : Int} (hx : X.toInt = x) : Int64.ofInt x = X := by subst hx; exact Int64.ofInt_toInt X
theorem tx_iand {X Y : Int32} {x y : Int} (hx : X.toInt = x) (hy : Y.toInt = y) : (X &&& Y).toInt = iAnd x y := by unfold iAnd; rw [zo_i hx, zo_i hy]
theorem tx_ior {X Y : Int32} {x y : Int} (hx : X.toInt = x) (hy : Y.toInt = y) : (X ||| Y).toInt = iOr x y := by unfold iOr; rw [zo_i hx, zo_i hy]
theorem tx_ixor {X Y : Int32} {x y : Int} (hx : X.toInt = x) (hy : Y.toInt = y) : (X ^^^ Y).toInt = iXor x y := by unfold iXor; rw [zo_i hx, zo_i hy]
theorem tx_land {X Y : Int64} {x y : Int} (hx : X.toInt = x) (hy : Y.toInt = y) : (X &&& Y).toInt = lAnd x y := by unfold lAnd; rw [zo_l hx, zo_l hy]
theorem tx_lor {X Y : Int64} {x y : Int} (hx : X.toInt = x) (hy : Y.toInt = y) : (X ||| Y).toInt = lOr x y := by unfold lOr; rw [zo_l hx, zo_l hy]
theorem tx_lxor {X Y : Int64} {x y : Int} (hx : X.toInt = x) (hy : Y.toInt = y) : (X ^^^ Y).toInt = lXor x y := by unfold lXor; rw [zo_l hx, zo_l hy]
theorem tx_ishl {X Y : Int32} {x y : Int} (hx : X.toInt = x) (hy : Y.toInt = y) : (X <<< (Y &&& 31)).toInt = iShl x y := by unfold iShl; rw [zo_i hx, zo_i hy]
theorem tx_ishr {X Y : Int32} {x y : Int} (hx : X.toInt = x) (hy : Y.toInt = y) : (X >>> (Y &&& 31)).toInt = iShr x y := by unfold iShr; rw [zo_i hx, zo_i hy]
theorem tx_lshl {X : Int64} {Y : Int32} {x y : Int} (hx : X.toInt = x) (hy : Y.toInt = y) : (X <<< (Y.toInt64 &&& 63)).toInt = lShl x y := by unfold lShl; rw [zo_l hx, zo_i hy]
theorem tx_lshr {X : Int64} {Y : Int32} {x y : Int} (hx : X.toInt = x) (hy : Y.toInt = y) : (X >>> (Y.toInt64 &&& 63)).toInt = lShr x y := by unfold lShr; rw [zo_l hx, zo_i hy]
theorem tx_lushr {X : Int64} {Y : Int32} {x y : Int} (hx : X.toInt = x) (hy : Y.toInt = y) : ((X.toUInt64 >>> (Y.toInt64.toUInt64 &&& Int64.toUInt64 63)).toInt64).toInt = lUshr x y := by unfold lUshr; rw [zo_l hx, zo_i hy]
theorem tx_i2b {X : Int32} {x : Int} (hx : X.toInt = x) : (X.toInt8.toInt32).toInt = w8 x := by subst hx; rw [Int8.toInt_toInt32, Int32.toInt_toInt8]; rfl
theorem tx_i2l {X : Int32} {x : Int} (hx : X.toInt = x) : (X.toInt64).toInt = x := by rw [Int32.toInt_toInt64, hx]
theorem tx_l2i {X : Int64} {x : Int} (hx : X.toInt = x) : (X.toInt32).toInt = w32 x := by subst hx; rw [Int64.toInt_toInt32]; rfl
theorem tx_i2c {X : Int32} {x : Int} (hx : X.toInt = x) : ((X.toUInt32 % 65536).toInt32).toInt = w16 x := by
  subst hx
  show ((X.toBitVec % 65536#32)).toInt = _
  have h1 : X.toInt = X.toBitVec.toInt := rfl
  have h2 := BitVec.toInt_eq_toNat_cond X.toBitVec
  have h3 : (X.toBitVec % 65536#32).toNat = X.toBitVec.toNat % 65536 := BitVec.toNat_umod
  have h4 := BitVec.toInt_eq_toNat_cond (X.toBitVec % 65536#32)
  have h5 := X.toBitVec.isLt
  unfold w16
  simp only [Nat.reducePow] at h2 h4 h5
  split at h2 <;> split at h4 <;> omega
theorem tx_lcmp {X Y : Int64} {x y : Int} (hx : X.toInt = x) (hy : Y.toInt = y) : (lg_cmp X Y).toInt = lCmp x y := by
  subst hx hy
  unfold lg_cmp lCmp
  by_cases h1 : X > Y
  · rw [if_pos h1, if_pos (show X.toInt > Y.toInt from Int64.lt_iff_toInt_lt.mp h1)]; rfl
  · rw [if_neg h1, if_neg (show ¬ X.toInt > Y.toInt from fun h => h1 (Int64.lt_iff_toInt_lt.mpr h))]
    by_cases h2 : X = Y
    · rw [if_pos h2, if_pos (congrArg Int64.toInt h2)]; rfl
    · rw [if_neg h2, if_neg (fun h => h2 (Int64.toInt_inj.mp h))]; rfl
theorem tx_idiv {X Y : Int32} {x y : Int} (hx : X.toInt = x) (hy : Y.toInt = y) : (X / Y).toInt = w32 (Int.tdiv x y) := by subst hx hy; exact Int32.toInt_div X Y
theorem tx_ldiv {X Y : Int64} {x y : Int} (hx : X.toInt = x) (hy : Y.toInt = y) : (X / Y).toInt = w64 (Int.tdiv x y) := by subst hx hy; exact Int64.toInt_div X Y
theorem tx_irem {X Y : Int32} {x y : Int} (hx : X.toInt = x) (hy : Y.toInt = y) : (X - X / Y * Y).toInt = Int.tmod x y := by
  subst hx hy
  rw [Int32.toInt_sub, Int32.toInt_mul, Int32.toInt_div, Int.sub_bmod_bmod, ← Int.sub_bmod_bmod, Int.bmod_mul_bmod, Int.sub_bmod_bmod, ← Int32.toInt_mod]
  have h := Int32.toInt_mod X Y
  have h2 : X.toInt - X.toInt.tdiv Y.toInt * Y.toInt = (X % Y).toInt := by
    rw [h, Int.mul_comm]
    have := Int.mul_tdiv_add_tmod X.toInt Y.toInt
    omega
  rw [h2]
  exact Int32.toInt_bmod _
theorem tx_lrem {X Y : Int64} {x y : Int} (hx : X.toInt = x) (hy : Y.toInt = y) : (X - X / Y * Y).toInt = Int.tmod x y := by
  subst hx hy
  rw [Int64.toInt_sub, Int64.toInt_mul, Int64.toInt_div, Int.sub_bmod_bmod, ← Int.sub_bmod_bmod, Int.bmod_mul_bmod, Int.sub_bmod_bmod, ← Int64.toInt_mod]
  have h := Int64.toInt_mod X Y
  have h2 : X.toInt - X.toInt.tdiv Y.toInt * Y.toInt = (X % Y).toInt := by
    rw [h, Int.mul_comm]
    have := Int.mul_tdiv_add_tmod X.toInt Y.toInt
    omega
  rw [h2]
  exact Int64.toInt_bmod _
theorem z_fit_bz {X : Int32} {x : Int} (hx : X.toInt = x) (h : x = 0 ∨ x = 1) : z_fit .boolean (.int X) = true := by
  subst hx
  rcases h with h | h
  · rw [zi_lit h (y := 0) rfl]; rfl
  · rw [zi_lit h (y := 1) rfl]; rfl
theorem z_rty_bo {X : Int32} {x : Int} (hx : X.toInt = x) (h : x = 0 ∨ x = 1) : z_rty .boolean X = true := by
  subst hx
  rcases h with h | h
  · rw [zi_lit h (y := 0) rfl]; rfl
  · rw [zi_lit h (y := 1) rfl]; rfl
theorem z_rty_by {X : Int32} {x : Int} (hx : X.toInt = x) (h : x = 0 ∨ x = 1) : z_rty .byte X = true := by
  subst hx
  rcases h with h | h
  · rw [zi_lit h (y := 0) rfl]; rfl
  · rw [zi_lit h (y := 1) rfl]; rfl
theorem z_rty_ch {X : Int32} {x : Int} (hx : X.toInt = x) (h : 0 ≤ x ∧ x < 65536) : z_rty .char X = true := by
  subst hx
  exact z_rty_c h
theorem zT_u {a tg : Nat} (h : zT a tg = true) : 39 ≤ a ∧ a < 168 ∧ a ≠ 130 ∧ zTg a = tg := by
  unfold zT at h
  simp only [Bool.and_eq_true, decide_eq_true_eq, Bool.not_eq_true', beq_eq_false_iff_ne, beq_iff_eq] at h
  exact ⟨h.1.1.1, h.1.1.2, h.1.2, h.2⟩
theorem zQ_u {a tg f k : Nat} (h : zQ a tg f k = true) : zT a tg = true ∧ f < zLN a ∧ zKd a f = k := by
  unfold zQ at h
  simp only [Bool.and_eq_true, decide_eq_true_eq, beq_iff_eq] at h
  exact ⟨h.1.1, h.1.2, h.2⟩
theorem zAr_u {a t : Nat} {n : Int} (h : zAr a t n = true) : zT a t = true ∧ zLI a = n ∧ t < 3 := by
  unfold zAr at h
  simp only [Bool.and_eq_true, decide_eq_true_eq] at h
  exact ⟨h.1.1, h.1.2, h.2⟩
theorem zAr_n {a t : Nat} {n : Int} (h : zAr a t n = true) : a ≠ 129 := by
  intro e
  subst e
  have h2 := (zT_u (zAr_u h).1).2.2.2
  have h3 := (zAr_u h).2.2
  have h4 : zTg 129 = 23 := rfl
  omega
theorem zAz_u {a t : Nat} {n : Int} (h : zAz a t n = true) : 19 ≤ a ∧ a < 39 ∧ zLI a = n ∧ t = 2 := by
  unfold zAz at h
  simp only [Bool.and_eq_true, decide_eq_true_eq, beq_iff_eq] at h
  exact ⟨h.1.1.1, h.1.1.2, h.1.2, h.2⟩
section ZG
variable {xl : Nat} {xs : Nat → Int32} {ff ff1 : Nat → Prop} {p : Nat} {σ σ' σ1 : zS} {m : zM} {q : z_R} {d k pc pc' : Nat} {L L' : zL} {st st' r : List Value} {P : Option Value → Prop}
theorem zRep.tg (H : zRep xl xs p m σ) {a tg : Nat} (h : zT a tg = true) : z_tg m a = tg := by
  obtain ⟨h1, h2, h3, h4⟩ := zT_u h
  unfold z_tg
  rw [H.2.1 a h1 h2 h3]
  exact h4
theorem zRep.n (H : zRep xl xs p m σ) {a tg : Nat} (h : zT a tg = true) : z_n m a = zLN a := by
  obtain ⟨h1, h2, h3, h4⟩ := zT_u h
  unfold z_n
  rw [H.2.1 a h1 h2 h3]
  rfl
theorem z_str_sh : ∀ a, a < 19 → 0 < a → (z_sh0 0)[a]? = some (9, 2) := by decide
theorem z_sh0_str {a : Nat} (h1 : 0 < a) (h2 : a < 19) : (z_sh0 xl)[a]? = some (9, 2) := by
  have := z_str_sh a h2 h1
  obtain ⟨b, rfl⟩ := Nat.exists_eq_add_of_lt h1
  rw [Nat.zero_add] at this ⊢
  exact this
theorem zIn_str {a : Nat} (h : zIn [1, 2, 3, 4, 5, 6, 7, 8, 9, 10, 11, 12, 13, 14, 15, 16, 17, 18] a = true) : 0 < a ∧ a < 19 := by
  have h := List.contains_iff_mem.mp h
  simp only [List.mem_cons, List.not_mem_nil, or_false] at h
  omega
theorem zRep.tg9 (H : zRep xl xs p m σ) {a : Nat} (h : zIn [1, 2, 3, 4, 5, 6, 7, 8, 9, 10, 11, 12, 13, 14, 15, 16, 17, 18] a = true) : z_tg m a = 9 := by
  obtain ⟨h1, h2⟩ := zIn_str h
  unfold z_tg
  rw [(H.1 a (by omega)).1, z_sh0_str h1 h2]
  rfl
theorem zRep.wr (H : zRep xl xs p m σ) {a f : Nat} {x : Int} {v : Value} (h1 : 39 ≤ a) (h2 : a < 168) (h3 : a ≠ 130) (h4 : a ≠ 129 ∨ f ≠ 0) (hk : zCell (zKd a f) v x) : zRep xl xs p (z_wr m a f v) (zu σ a f x) := by
  obtain ⟨H1, H2, H3, H4⟩ := H
  have e1 : ∀ b, b ≠ a → (z_wr m a f v).2 b = m.2 b := fun b hb => funext fun j => if_neg hb
  refine ⟨fun b hb => ⟨(H1 b hb).1, fun j => ?_⟩, H2, fun b hb1 hb2 hb3 i hi => ?_, ?_⟩
  · rw [e1 b (by omega)]; exact (H1 b hb).2 j
  · by_cases hba : b = a
    · subst hba
      show zCell (zKd b i) (if b = b then (if i = f then v else m.2 b i) else m.2 b i) (if b = b ∧ (i : Int) = (f : Int) then x else σ b i)
      rw [if_pos rfl]
      by_cases hif : i = f
      · subst hif
        rw [if_pos rfl, if_pos ⟨rfl, rfl⟩]; exact hk
      · rw [if_neg hif, if_neg (fun h => hif (by omega))]; exact H3 b hb1 hb2 hb3 i hi
    · rw [e1 b hba]
      show zCell _ _ (if b = a ∧ _ then x else σ b i)
      rw [if_neg (fun h => hba h.1)]
      exact H3 b hb1 hb2 hb3 i hi
  · obtain ⟨cap, g1, g2, g3, g4, g5, g6, g7, g8, g9⟩ := H4
    have e2 : ∀ j, zu σ a f x 169 j = σ 169 j := fun j => if_neg (fun h => by omega)
    have e3 : ∀ j, zu σ a f x 168 j = σ 168 j := fun j => if_neg (fun h => by omega)
    refine ⟨cap, ?_, g2, g3, ?_, ?_, g6, g7, g8, g9⟩
    · show (if 129 = a then (if 0 = f then v else m.2 129 0) else m.2 129 0) = _
      by_cases h129 : 129 = a
      · rw [if_pos h129, if_neg (by omega)]; exact g1
      · rw [if_neg h129]; exact g1
    · rw [e2]; exact g4
    · intro j hj
      rw [e1 p (by omega), e3]
      exact g5 j hj
theorem g_of {m2 : zM} {d' k' : Nat} (h : ∀ v m', z_Ev d' k' pc' L' st' m2 v m' → z_Ev d k pc L st m v m') (kk : zGo xl xs ff d' k' pc' L' st' m2 P σ') : zGo xl xs ff d k pc L st m P σ' := by
  obtain ⟨v, m', p', h1, h2, h3⟩ := kk
  exact ⟨v, m', p', h v m' h1, h2, h3⟩
theorem r_p (hq : z_mth k = some q) (n : Nat) (h : z_rn q k n (pc, L, st, m) = some (pc', L', st', m)) (kk : zGo xl xs ff d k pc' L' st' m P σ') : zGo xl xs ff d k pc L st m P σ' := g_of (fun _ _ e => ev_r hq n h e) kk
theorem zCell0 {v : Value} {x : Int} (h : zCell 0 v x) : ∃ X : Int32, v = .int X ∧ X.toInt = x := h
theorem zCell1 {v : Value} {x : Int} (h : zCell 1 v x) : ∃ X : Int64, v = .long X ∧ X.toInt = x := h
theorem zCellR {b : Nat} {v : Value} {x : Int} (h : zCell (100 + b) v x) : v = .ref b := by
  unfold zCell at h
  rw [if_neg (by omega), if_neg (by omega), if_neg (by omega)] at h
  rw [h, Nat.add_sub_cancel_left]
theorem zRep.fd (H : zRep xl xs p m σ) {a tg f kd : Nat} (h : zQ a tg f kd = true) : z_tg m a = tg ∧ zCell kd (m.2 a f) (σ a f) := by
  obtain ⟨h1, h3, h4⟩ := zQ_u h
  obtain ⟨g1, g2, g3, g4⟩ := zT_u h1
  refine ⟨H.tg h1, ?_⟩
  rw [← h4]
  exact H.2.2.1 a g1 g2 g3 f h3
theorem r_gI (H : zRep xl xs p m σ) {idx a tg f wp : Nat} (hq : z_mth k = some q) (hi : z_at q pc (.getfield idx)) (hl : z_lk z_FL q.2.2.2.2.1 idx = some (tg, f, wp)) (hs : zQ a tg f 0 = true) (e1 : pc + 3 = pc') (e2 : z_can k pc' L = L') (kk : ∀ V : Int32, V.toInt = σ a f → zGo xl xs ff d k pc' L' (.int V :: r) m P σ') : zGo xl xs ff d k pc L (.ref a :: r) m P σ' := by
  subst e1
  obtain ⟨h1, h2⟩ := H.fd hs
  obtain ⟨V, h3, h4⟩ := zCell0 h2
  exact g_of (fun _ _ e => ev_s hq hi rfl (z_getf_step hl h1 h3) e2 e) (kk V h4)
theorem r_gL (H : zRep xl xs p m σ) {idx a tg f wp : Nat} (hq : z_mth k = some q) (hi : z_at q pc (.getfield idx)) (hl : z_lk z_FL q.2.2.2.2.1 idx = some (tg, f, wp)) (hs : zQ a tg f 1 = true) (e1 : pc + 3 = pc') (e2 : z_can k pc' L = L') (kk : ∀ V : Int64, V.toInt = σ a f → zGo xl xs ff d k pc' L' (.long V :: r) m P σ') : zGo xl xs ff d k pc L (.ref a :: r) m P σ' := by
  subst e1
  obtain ⟨h1, h2⟩ := H.fd hs
  obtain ⟨V, h3, h4⟩ := zCell1 h2
  exact g_of (fun _ _ e => ev_s hq hi rfl (z_getf_step hl h1 h3) e2 e) (kk V h4)
theorem r_gR {b : Nat} (H : zRep xl xs p m σ) {idx a tg f wp : Nat} (hq : z_mth k = some q) (hi : z_at q pc (.getfield idx)) (hl : z_lk z_FL q.2.2.2.2.1 idx = some (tg, f, wp)) (hs : zQ a tg f (100 + b) = true) (e1 : pc + 3 = pc') (e2 : z_can k pc' L = L') (kk : zGo xl xs ff d k pc' L' (.ref b :: r) m P σ') : zGo xl xs ff d k pc L (.ref a :: r) m P σ' := by
  subst e1
  obtain ⟨h1, h2⟩ := H.fd hs
  exact g_of (fun _ _ e => ev_s hq hi rfl (z_getf_step hl h1 (zCellR h2)) e2 e) kk
theorem r_gsR (H : zRep xl xs p m σ) {idx a wp : Nat} (hq : z_mth k = some q) (hi : z_at q pc (.getfield idx)) (hl : z_lk z_FL q.2.2.2.2.1 idx = some (9, 0, wp)) (hs : zIn [1, 2, 3, 4, 5, 6, 7, 8, 9, 10, 11, 12, 13, 14, 15, 16, 17, 18] a = true) (e1 : pc + 3 = pc') (e2 : z_can k pc' L = L') (kk : zGo xl xs ff d k pc' L' (.ref (a + 18) :: r) m P σ') : zGo xl xs ff d k pc L (.ref a :: r) m P σ' := by
  subst e1
  obtain ⟨h1, h2⟩ := zIn_str hs
  refine g_of (fun _ _ e => ev_s hq hi rfl (z_getf_step hl (H.tg9 hs) (((H.1 a (by omega)).2 0).trans ?_)) e2 e) kk
  unfold z_m0
  rw [if_neg (by omega), if_pos h2, if_pos rfl, Nat.add_comm]
theorem r_gsI (H : zRep xl xs p m σ) {idx a wp : Nat} (hq : z_mth k = some q) (hi : z_at q pc (.getfield idx)) (hl : z_lk z_FL q.2.2.2.2.1 idx = some (9, 1, wp)) (hs : zIn [1, 2, 3, 4, 5, 6, 7, 8, 9, 10, 11, 12, 13, 14, 15, 16, 17, 18] a = true) (e1 : pc + 3 = pc') (e2 : z_can k pc' L = L') (kk : zGo xl xs ff d k pc' L' (.int (0 : Int32) :: r) m P σ') : zGo xl xs ff d k pc L (.ref a :: r) m P σ' := by
  subst e1
  obtain ⟨h1, h2⟩ := zIn_str hs
  refine g_of (fun _ _ e => ev_s hq hi rfl (z_getf_step hl (H.tg9 hs) (((H.1 a (by omega)).2 1).trans ?_)) e2 e) kk
  unfold z_m0
  rw [if_neg (by omega), if_pos h2, if_neg (by decide)]
theorem r_pI {X : Int32} (H : zRep xl xs p m σ) {idx a tg f wp : Nat} {x : Int} (hq : z_mth k = some q) (hi : z_at q pc (.putfield idx)) (hl : z_lk z_FL q.2.2.2.2.1 idx = some (tg, f, wp)) (hs : zQ a tg f 0 = true) (hX : X.toInt = x) (h10 : 10 ≤ tg) (hf : z_fit ((z_tys.getD (tg - 10) []).getD f .int) (.int X) = true) (hn : ((z_cls.getD (tg - 10) ("", z_T0, 0)).2.1 f).2.2.2 = false) (e1 : pc + 3 = pc') (e2 : z_can k pc' L = L') (kk : ∀ m', zRep xl xs p m' (zu σ a f x) → zGo xl xs ff d k pc' L' r m' P σ') : zGo xl xs ff d k pc L (.int X :: .ref a :: r) m P σ' := by
  subst e1
  obtain ⟨g1, g3, g4⟩ := zQ_u hs
  obtain ⟨k1, k2, k3, k4⟩ := zT_u g1
  have g2 : a ≠ 129 ∨ f ≠ 0 := by
    by_cases h129 : a = 129
    · subst h129
      refine Or.inr (fun e => ?_)
      subst e
      exact absurd g4 (by decide)
    · exact Or.inl h129
  exact g_of (fun _ _ e => ev_s hq hi rfl (z_putf_step hl ⟨k1, h10, H.tg g1, hf, Or.inl hn⟩) e2 e) (kk _ (H.wr k1 k2 k3 g2 (by rw [g4]; exact ⟨X, rfl, hX⟩)))
theorem r_pL {X : Int64} (H : zRep xl xs p m σ) {idx a tg f wp : Nat} {x : Int} (hq : z_mth k = some q) (hi : z_at q pc (.putfield idx)) (hl : z_lk z_FL q.2.2.2.2.1 idx = some (tg, f, wp)) (hs : zQ a tg f 1 = true) (hX : X.toInt = x) (h10 : 10 ≤ tg) (hf : z_fit ((z_tys.getD (tg - 10) []).getD f .int) (.long X) = true) (hn : ((z_cls.getD (tg - 10) ("", z_T0, 0)).2.1 f).2.2.2 = false) (e1 : pc + 3 = pc') (e2 : z_can k pc' L = L') (kk : ∀ m', zRep xl xs p m' (zu σ a f x) → zGo xl xs ff d k pc' L' r m' P σ') : zGo xl xs ff d k pc L (.long X :: .ref a :: r) m P σ' := by
  subst e1
  obtain ⟨g1, g3, g4⟩ := zQ_u hs
  obtain ⟨k1, k2, k3, k4⟩ := zT_u g1
  have g2 : a ≠ 129 ∨ f ≠ 0 := by
    by_cases h129 : a = 129
    · subst h129
      refine Or.inr (fun e => ?_)
      subst e
      exact absurd g4 (by decide)
    · exact Or.inl h129
  exact g_of (fun _ _ e => ev_s hq hi rfl (z_putf_step hl ⟨k1, h10, H.tg g1, hf, Or.inl hn⟩) e2 e) (kk _ (H.wr k1 k2 k3 g2 (by rw [g4]; exact ⟨X, rfl, hX⟩)))
theorem z_ix {X : Int32} {i n : Int} (hX : X.toInt = i) (hb : 0 ≤ i ∧ i < n) : ((X.toNatClampNeg : Nat) : Int) = i := by
  show ((X.toInt.toNat : Nat) : Int) = i
  omega
theorem z_inb {X : Int32} {i n : Int} {N : Nat} (hX : X.toInt = i) (hb : 0 ≤ i ∧ i < n) (hn : (N : Int) = n) : z_in X N = true := by
  unfold z_in
  rw [decide_eq_true (show 0 ≤ X.toInt by omega), decide_eq_true (show X.toInt < N by omega)]
  rfl
theorem zKd_i {a t : Nat} (h : zTg a = t) (ht : t = 0 ∨ t = 2) (i : Nat) : zKd a i = 0 := by
  unfold zKd
  rcases ht with ht | ht <;> (rw [h, ht]; rfl)
theorem zKd_l {a : Nat} (h : zTg a = 1) (i : Nat) : zKd a i = 1 := by
  unfold zKd
  rw [h]
  rfl
theorem zRep.aI (H : zRep xl xs p m σ) {a t : Nat} {n i : Int} {X : Int32} (hs : zAr a t n = true) (ht : t = 0 ∨ t = 2) (hX : X.toInt = i) (hb : 0 ≤ i ∧ i < n) : z_tg m a = t ∧ z_in X (z_n m a) = true ∧ ∃ V : Int32, m.2 a X.toNatClampNeg = .int V ∧ V.toInt = σ a i := by
  obtain ⟨g1, g3, g4⟩ := zAr_u hs
  obtain ⟨k1, k2, k3, k4⟩ := zT_u g1
  refine ⟨H.tg g1, ?_, ?_⟩
  · rw [H.n g1]; exact z_inb hX hb g3
  · have e := z_ix hX hb
    have := H.2.2.1 a k1 k2 k3 X.toNatClampNeg (by have : ((zLN a : Nat) : Int) = n := g3; omega)
    rw [zKd_i k4 ht, e] at this
    exact this
theorem zRep.aL (H : zRep xl xs p m σ) {a : Nat} {n i : Int} {X : Int32} (hs : zAr a 1 n = true) (hX : X.toInt = i) (hb : 0 ≤ i ∧ i < n) : z_tg m a = 1 ∧ z_in X (z_n m a) = true ∧ ∃ V : Int64, m.2 a X.toNatClampNeg = .long V ∧ V.toInt = σ a i := by
  obtain ⟨g1, g3, g4⟩ := zAr_u hs
  obtain ⟨k1, k2, k3, k4⟩ := zT_u g1
  refine ⟨H.tg g1, ?_, ?_⟩
  · rw [H.n g1]; exact z_inb hX hb g3
  · have e := z_ix hX hb
    have := H.2.2.1 a k1 k2 k3 X.toNatClampNeg (by have : ((zLN a : Nat) : Int) = n := g3; omega)
    rw [zKd_l k4, e] at this
    exact this
theorem r_ia (H : zRep xl xs p m σ) {a : Nat} {n i : Int} {X : Int32} (hq : z_mth k = some q) (hi : z_at q pc .iaload) (hs : zAr a 0 n = true) (hX : X.toInt = i) (hb : 0 ≤ i ∧ i < n) (e1 : pc + 1 = pc') (e2 : z_can k pc' L = L') (kk : ∀ V : Int32, V.toInt = σ a i → zGo xl xs ff d k pc' L' (.int V :: r) m P σ') : zGo xl xs ff d k pc L (.int X :: .ref a :: r) m P σ' := by
  subst e1
  obtain ⟨h1, h2, V, h3, h4⟩ := H.aI hs (Or.inl rfl) hX hb
  exact g_of (fun _ _ e => ev_s hq hi rfl (show z_ld m 0 pc L a X r = _ from z_ld_ok h1 h2 h3) e2 e) (kk V h4)
theorem r_ba (H : zRep xl xs p m σ) {a : Nat} {n i : Int} {X : Int32} (hq : z_mth k = some q) (hi : z_at q pc .baload) (hs : zAr a 2 n = true) (hX : X.toInt = i) (hb : 0 ≤ i ∧ i < n) (e1 : pc + 1 = pc') (e2 : z_can k pc' L = L') (kk : ∀ V : Int32, V.toInt = σ a i → zGo xl xs ff d k pc' L' (.int V :: r) m P σ') : zGo xl xs ff d k pc L (.int X :: .ref a :: r) m P σ' := by
  subst e1
  obtain ⟨h1, h2, V, h3, h4⟩ := H.aI hs (Or.inr rfl) hX hb
  exact g_of (fun _ _ e => ev_s hq hi rfl (show z_ld m 2 pc L a X r = _ from z_ld_ok h1 h2 h3) e2 e) (kk V h4)
theorem r_la (H : zRep xl xs p m σ) {a : Nat} {n i : Int} {X : Int32} (hq : z_mth k = some q) (hi : z_at q pc .laload) (hs : zAr a 1 n = true) (hX : X.toInt = i) (hb : 0 ≤ i ∧ i < n) (e1 : pc + 1 = pc') (e2 : z_can k pc' L = L') (kk : ∀ V : Int64, V.toInt = σ a i → zGo xl xs ff d k pc' L' (.long V :: r) m P σ') : zGo xl xs ff d k pc L (.int X :: .ref a :: r) m P σ' := by
  subst e1
  obtain ⟨h1, h2, V, h3, h4⟩ := H.aL hs hX hb
  exact g_of (fun _ _ e => ev_s hq hi rfl (show z_ld m 1 pc L a X r = _ from z_ld_ok h1 h2 h3) e2 e) (kk V h4)
theorem z_sh0_bz : ∀ a, a < 39 → 19 ≤ a → (z_sh0 0)[a]? = some (2, zLN a) := by decide +kernel
theorem r_ba0 (H : zRep xl xs p m σ) {a : Nat} {n i : Int} {X : Int32} (hq : z_mth k = some q) (hi : z_at q pc .baload) (hs : zAz a 2 n = true) (hX : X.toInt = i) (hb : 0 ≤ i ∧ i < n) (e1 : pc + 1 = pc') (e2 : z_can k pc' L = L') (kk : ∀ V : Int32, V.toInt = zs0 a i → zGo xl xs ff d k pc' L' (.int V :: r) m P σ') : zGo xl xs ff d k pc L (.int X :: .ref a :: r) m P σ' := by
  subst e1
  obtain ⟨g1, g2, g3, g4⟩ := zAz_u hs
  have hsh : m.1[a]? = some (2, zLN a) := by
    rw [(H.1 a g2).1, ← z_sh0_bz a g2 g1]
    obtain ⟨b, rfl⟩ := Nat.exists_eq_add_of_lt (show 0 < a by omega)
    rw [Nat.zero_add]
    rfl
  have e := z_ix hX hb
  obtain ⟨V, hV, hVi⟩ : ∃ V : Int32, m.2 a X.toNatClampNeg = .int V ∧ V.toInt = zs0 a i := by
    rw [(H.1 a g2).2 X.toNatClampNeg]
    unfold z_m0 zs0
    rw [if_neg (by omega), if_neg (by omega), ← e, Int.toNat_natCast]
    by_cases h37 : a < 37
    · rw [if_pos h37, if_pos h37]; exact ⟨_, rfl, rfl⟩
    · rw [if_neg h37, if_neg h37]; exact ⟨_, rfl, rfl⟩
  exact g_of (fun _ _ e => ev_s hq hi rfl (show z_ld m 2 pc L a X r = _ from z_ld_ok (by unfold z_tg; rw [hsh]; rfl) (by unfold z_n; rw [hsh]; exact z_inb hX hb g3) hV) e2 e) (kk V hVi)
theorem zRep.sI (H : zRep xl xs p m σ) {a t : Nat} {n i x : Int} {X V : Int32} (hs : zAr a t n = true) (ht : t = 0 ∨ t = 2) (hX : X.toInt = i) (hb : 0 ≤ i ∧ i < n) (hV : V.toInt = x) : z_sd m t pc L a X (.int V) r = some (pc + 1, L, r, z_wr m a X.toNatClampNeg (.int V)) ∧ zRep xl xs p (z_wr m a X.toNatClampNeg (.int V)) (zu σ a i x) := by
  obtain ⟨g1, g3, g4⟩ := zAr_u hs
  have g2 : a ≠ 129 ∨ X.toNatClampNeg ≠ 0 := Or.inl (zAr_n hs)
  obtain ⟨k1, k2, k3, k4⟩ := zT_u g1
  constructor
  · unfold z_sd
    rw [if_pos (show zE ≤ a from k1), if_pos (H.tg g1), H.n g1, if_pos (z_inb hX hb g3)]
  · have := H.wr (f := X.toNatClampNeg) (x := x) (v := .int V) k1 k2 k3 g2 (by rw [zKd_i k4 ht]; exact ⟨V, rfl, hV⟩)
    rw [z_ix hX hb] at this
    exact this
theorem r_is (H : zRep xl xs p m σ) {a : Nat} {n i x : Int} {X V : Int32} (hq : z_mth k = some q) (hi : z_at q pc .iastore) (hs : zAr a 0 n = true) (hX : X.toInt = i) (hb : 0 ≤ i ∧ i < n) (hV : V.toInt = x) (e1 : pc + 1 = pc') (e2 : z_can k pc' L = L') (kk : ∀ m', zRep xl xs p m' (zu σ a i x) → zGo xl xs ff d k pc' L' r m' P σ') : zGo xl xs ff d k pc L (.int V :: .int X :: .ref a :: r) m P σ' := by
  subst e1
  obtain ⟨h1, h2⟩ := H.sI (pc := pc) (L := L) (r := r) hs (Or.inl rfl) hX hb hV
  exact g_of (fun _ _ e => ev_s hq hi rfl (show z_sd m 0 pc L a X (.int V) r = _ from h1) e2 e) (kk _ h2)
theorem r_bs (H : zRep xl xs p m σ) {a : Nat} {n i x : Int} {X V : Int32} (hq : z_mth k = some q) (hi : z_at q pc .bastore) (hs : zAr a 2 n = true) (hX : X.toInt = i) (hb : 0 ≤ i ∧ i < n) (hV : V.toInt = x) (e1 : pc + 1 = pc') (e2 : z_can k pc' L = L') (kk : ∀ m', zRep xl xs p m' (zu σ a i (w8 x)) → zGo xl xs ff d k pc' L' r m' P σ') : zGo xl xs ff d k pc L (.int V :: .int X :: .ref a :: r) m P σ' := by
  subst e1
  obtain ⟨h1, h2⟩ := H.sI (pc := pc) (L := L) (r := r) hs (Or.inr rfl) hX hb (tx_i2b hV)
  exact g_of (fun _ _ e => ev_s hq hi rfl (show z_sd m 2 pc L a X (.int V.toInt8.toInt32) r = _ from h1) e2 e) (kk _ h2)
theorem r_ls (H : zRep xl xs p m σ) {a : Nat} {n i x : Int} {X : Int32} {V : Int64} (hq : z_mth k = some q) (hi : z_at q pc .lastore) (hs : zAr a 1 n = true) (hX : X.toInt = i) (hb : 0 ≤ i ∧ i < n) (hV : V.toInt = x) (e1 : pc + 1 = pc') (e2 : z_can k pc' L = L') (kk : ∀ m', zRep xl xs p m' (zu σ a i x) → zGo xl xs ff d k pc' L' r m' P σ') : zGo xl xs ff d k pc L (.long V :: .int X :: .ref a :: r) m P σ' := by
  subst e1
  obtain ⟨g1, g3, g4⟩ := zAr_u hs
  have g2 : a ≠ 129 ∨ X.toNatClampNeg ≠ 0 := Or.inl (zAr_n hs)
  obtain ⟨k1, k2, k3, k4⟩ := zT_u g1
  have h2 := H.wr (f := X.toNatClampNeg) (x := x) (v := .long V) k1 k2 k3 g2 (by rw [zKd_l k4]; exact ⟨V, rfl, hV⟩)
  rw [z_ix hX hb] at h2
  have h1 : z_sd m 1 pc L a X (.long V) r = some (pc + 1, L, r, z_wr m a X.toNatClampNeg (.long V)) := by
    unfold z_sd
    rw [if_pos (show zE ≤ a from k1), if_pos (H.tg g1), H.n g1, if_pos (z_inb hX hb g3)]
  exact g_of (fun _ _ e => ev_s hq hi rfl (show z_sd m 1 pc L a X (.long V) r = _ from h1) e2 e) (kk _ h2)
theorem z_rows_ok : ∀ i, i < 6 → zQ 135 3 i (100 + (136 + i)) = true := by decide
theorem r_aa (H : zRep xl xs p m σ) {i : Int} {X : Int32} (hq : z_mth k = some q) (hi : z_at q pc .aaload) (hX : X.toInt = i) (hb : 0 ≤ i ∧ i < 6) (e1 : pc + 1 = pc') (e2 : z_can k pc' L = L') (kk : ∀ A, A = 136 + i.toNat → zIn [136, 137, 138, 139, 140, 141] A = true → zGo xl xs ff d k pc' L' (.ref A :: r) m P σ') : zGo xl xs ff d k pc L (.int X :: .ref 135 :: r) m P σ' := by
  subst e1
  have e := z_ix hX hb
  have h0 : i.toNat < 6 := by omega
  have e2' : X.toNatClampNeg = i.toNat := by omega
  obtain ⟨h1, h2⟩ := H.fd (z_rows_ok i.toNat h0)
  refine g_of (fun _ _ e => ev_s hq hi rfl (show z_ld m 3 pc L 135 X r = _ from z_ld_ok h1 (by rw [H.n (tg := 3) rfl]; exact z_inb hX hb rfl) (by rw [e2']; exact zCellR h2)) e2 e) (kk _ rfl ?_)
  generalize i.toNat = j at h0
  unfold zIn
  rw [List.contains_iff_mem]
  simp only [List.mem_cons, List.not_mem_nil, or_false]
  omega
theorem zLN_lt : ∀ a, a < 168 → zLN a < 100000 := by decide +kernel
theorem r_le (H : zRep xl xs p m σ) {a t : Nat} {n : Int} (hq : z_mth k = some q) (hi : z_at q pc .arraylength) (hs : zAr a t n = true) (e1 : pc + 1 = pc') (e2 : z_can k pc' L = L') (e3 : (4 : Nat) = 4) (kk : ∀ V : Int32, V.toInt = n → zGo xl xs ff d k pc' L' (.int V :: r) m P σ') : zGo xl xs ff d k pc L (.ref a :: r) m P σ' := by
  obtain ⟨g1, g3, g4⟩ := zAr_u hs
  obtain ⟨k1, k2, k3, k4⟩ := zT_u g1
  have hlt := zLN_lt a k2
  refine g_of (fun _ _ e => ev_le hq hi (show (if z_tg m a < 4 then some (Int32.ofNat (z_n m a)) else none) = _ by rw [H.tg g1, H.n g1, if_pos (show t < 4 by omega)]) e1 e2 e) (kk _ ?_)
  rw [Int32.toInt_ofNat_of_lt (by omega)]
  exact g3
theorem r_le0 (H : zRep xl xs p m σ) {a t : Nat} {n : Int} (hq : z_mth k = some q) (hi : z_at q pc .arraylength) (hs : zAz a t n = true) (e1 : pc + 1 = pc') (e2 : z_can k pc' L = L') (e3 : (4 : Nat) = 4) (kk : ∀ V : Int32, V.toInt = n → zGo xl xs ff d k pc' L' (.int V :: r) m P σ') : zGo xl xs ff d k pc L (.ref a :: r) m P σ' := by
  obtain ⟨g1, g2, g3, g4⟩ := zAz_u hs
  have hsh : m.1[a]? = some (2, zLN a) := by
    rw [(H.1 a g2).1, ← z_sh0_bz a g2 g1]
    obtain ⟨b, rfl⟩ := Nat.exists_eq_add_of_lt (show 0 < a by omega)
    rw [Nat.zero_add]
    rfl
  have hlt := zLN_lt a (by omega)
  refine g_of (fun _ _ e => ev_le hq hi (show (if z_tg m a < 4 then some (Int32.ofNat (z_n m a)) else none) = some (Int32.ofNat (zLN a)) by unfold z_tg z_n; rw [hsh]; exact if_pos (show 2 < 4 by omega)) e1 e2 e) (kk _ ?_)
  rw [Int32.toInt_ofNat_of_lt (show zLN a < 2 ^ 31 by omega)]
  exact g3
theorem r_cp {t : Nat} (H : zRep xl xs p m σ) {idx a b : Nat} {na nb sp dp n : Int} {SP DP N : Int32} {r3 : Nat × Nat × List Nat} (hq : z_mth k = some q) (hi : z_at q pc (.invokestatic idx)) (hl : z_lk z_ML q.2.2.2.2.1 idx = some (8, r3)) (hcat : z_cat r ≤ 8) (ht : t = 0 ∨ t = 1) (hsa : zAr a t na = true) (hsb : zAr b t nb = true) (h1 : SP.toInt = sp) (h2 : DP.toInt = dp) (h3 : N.toInt = n) (hb : 0 ≤ sp ∧ 0 ≤ dp ∧ 0 ≤ n ∧ sp + n ≤ na ∧ dp + n ≤ nb) (e1 : pc + 3 = pc') (e2 : z_can k pc' L = L') (kk : ∀ m', zRep xl xs p m' (zcp σ a sp b dp n) → zGo xl xs ff d k pc' L' r m' P σ') : zGo xl xs ff d k pc L (.int N :: .int DP :: .ref b :: .int SP :: .ref a :: r) m P σ' := by
  obtain ⟨g1, g3, g4⟩ := zAr_u hsa
  obtain ⟨f1, f3, f4⟩ := zAr_u hsb
  have f2 := zAr_n hsb
  obtain ⟨ka1, ka2, ka3, ka4⟩ := zT_u g1
  obtain ⟨kb1, kb2, kb3, kb4⟩ := zT_u f1
  obtain ⟨b1, b2, b3, b4, b5⟩ := hb
  have c1 : ((SP.toNatClampNeg : Nat) : Int) = sp := z_ix (n := sp + 1) h1 ⟨b1, by omega⟩
  have c2 : ((DP.toNatClampNeg : Nat) : Int) = dp := z_ix (n := dp + 1) h2 ⟨b2, by omega⟩
  have c3 : ((N.toNatClampNeg : Nat) : Int) = n := z_ix (n := n + 1) h3 ⟨b3, by omega⟩
  have l1 : ((zLN a : Nat) : Int) = na := g3
  have l2 : ((zLN b : Nat) : Int) = nb := f3
  have hcp : z_cp m a SP b DP N = some (m.1, z_nw m.2 b (z_cpy (m.2 a) (m.2 b) SP.toNatClampNeg DP.toNatClampNeg N.toNatClampNeg)) := by
    unfold z_cp
    rw [H.tg g1, H.tg f1, H.n g1, H.n f1, if_pos ⟨kb1, rfl, g4, by omega, by omega, by omega, by omega, by omega⟩]
  refine g_of (fun _ _ e => ev_cp hq hi hl hcat hcp e1 e2 e) (kk _ ?_)
  obtain ⟨H1, H2, H3, H4⟩ := H
  have e1 : ∀ c, c ≠ b → z_nw m.2 b (z_cpy (m.2 a) (m.2 b) SP.toNatClampNeg DP.toNatClampNeg N.toNatClampNeg) c = m.2 c := fun c hc => funext fun j => if_neg hc
  refine ⟨fun c hc => ⟨(H1 c hc).1, fun j => ?_⟩, H2, fun c hc1 hc2 hc3 i hi => ?_, ?_⟩
  · show z_nw _ _ _ c j = _
    rw [e1 c (by omega)]; exact (H1 c hc).2 j
  · show zCell _ (z_nw _ _ _ c i) _
    by_cases hcb : c = b
    · subst hcb
      show zCell _ (if c = c then z_cpy (m.2 a) (m.2 c) SP.toNatClampNeg DP.toNatClampNeg N.toNatClampNeg i else m.2 c i) (if c = c ∧ dp ≤ (i : Int) ∧ (i : Int) < dp + n then σ a (sp + ((i : Int) - dp)) else σ c i)
      rw [if_pos rfl]
      show zCell _ (if DP.toNatClampNeg ≤ i ∧ i < DP.toNatClampNeg + N.toNatClampNeg then m.2 a (SP.toNatClampNeg + (i - DP.toNatClampNeg)) else m.2 c i) _
      by_cases hr : DP.toNatClampNeg ≤ i ∧ i < DP.toNatClampNeg + N.toNatClampNeg
      · rw [if_pos hr, if_pos ⟨rfl, by omega, by omega⟩]
        have hk : zKd c i = zKd a (SP.toNatClampNeg + (i - DP.toNatClampNeg)) := by
          rcases ht with rfl | rfl
          · rw [zKd_i kb4 (Or.inl rfl), zKd_i ka4 (Or.inl rfl)]
          · rw [zKd_l kb4, zKd_l ka4]
        have := H3 a ka1 ka2 ka3 (SP.toNatClampNeg + (i - DP.toNatClampNeg)) (by omega)
        rw [hk]
        have e : ((SP.toNatClampNeg + (i - DP.toNatClampNeg) : Nat) : Int) = sp + ((i : Int) - dp) := by omega
        rw [e] at this
        exact this
      · rw [if_neg hr, if_neg (fun h => hr ⟨by omega, by omega⟩)]
        exact H3 c hc1 hc2 hc3 i hi
    · rw [e1 c hcb]
      show zCell _ _ (if c = b ∧ _ then _ else σ c i)
      rw [if_neg (fun h => hcb h.1)]
      exact H3 c hc1 hc2 hc3 i hi
  · obtain ⟨cap, g1, g2, g3, g4, g5, g6, g7, g8, g9⟩ := H4
    have e2 : ∀ j, zcp σ a sp b dp n 169 j = σ 169 j := fun j => if_neg (fun h => by omega)
    have e3 : ∀ j, zcp σ a sp b dp n 168 j = σ 168 j := fun j => if_neg (fun h => by omega)
    refine ⟨cap, ?_, g2, g3, ?_, ?_, g6, g7, g8, g9⟩
    · show z_nw _ _ _ 129 0 = _; rw [e1 129 (Ne.symm f2)]; exact g1
    · rw [e2]; exact g4
    · intro j hj
      show ∃ X, z_nw _ _ _ p j = _ ∧ _
      rw [e1 p (by omega), e3]
      exact g5 j hj
theorem r_idiv {X Y : Int32} {x y : Int} (hq : z_mth k = some q) (hi : z_at q pc .idiv) (hx : X.toInt = x) (hy : Y.toInt = y) (hn : ¬ y = 0) (e1 : pc + 1 = pc') (e2 : z_can k pc' L = L') (kk : ∀ V : Int32, V.toInt = w32 (Int.tdiv x y) → zGo xl xs ff d k pc' L' (.int V :: r) m P σ') : zGo xl xs ff d k pc L (.int Y :: .int X :: r) m P σ' :=
  g_of (fun _ _ e => ev_idiv hq hi (fun h => hn (by rw [← hy, h]; rfl)) e1 e2 e) (kk _ (tx_idiv hx hy))
theorem r_irem {X Y : Int32} {x y : Int} (hq : z_mth k = some q) (hi : z_at q pc .irem) (hx : X.toInt = x) (hy : Y.toInt = y) (hn : ¬ y = 0) (e1 : pc + 1 = pc') (e2 : z_can k pc' L = L') (kk : ∀ V : Int32, V.toInt = Int.tmod x y → zGo xl xs ff d k pc' L' (.int V :: r) m P σ') : zGo xl xs ff d k pc L (.int Y :: .int X :: r) m P σ' :=
  g_of (fun _ _ e => ev_irem hq hi (fun h => hn (by rw [← hy, h]; rfl)) e1 e2 e) (kk _ (tx_irem hx hy))
theorem r_ldiv {X Y : Int64} {x y : Int} (hq : z_mth k = some q) (hi : z_at q pc .ldiv) (hx : X.toInt = x) (hy : Y.toInt = y) (hn : ¬ y = 0) (e1 : pc + 1 = pc') (e2 : z_can k pc' L = L') (kk : ∀ V : Int64, V.toInt = w64 (Int.tdiv x y) → zGo xl xs ff d k pc' L' (.long V :: r) m P σ') : zGo xl xs ff d k pc L (.long Y :: .long X :: r) m P σ' :=
  g_of (fun _ _ e => ev_ldiv hq hi (fun h => hn (by rw [← hy, h]; rfl)) e1 e2 e) (kk _ (tx_ldiv hx hy))
theorem r_lrem {X Y : Int64} {x y : Int} (hq : z_mth k = some q) (hi : z_at q pc .lrem) (hx : X.toInt = x) (hy : Y.toInt = y) (hn : ¬ y = 0) (e1 : pc + 1 = pc') (e2 : z_can k pc' L = L') (kk : ∀ V : Int64, V.toInt = Int.tmod x y → zGo xl xs ff d k pc' L' (.long V :: r) m P σ') : zGo xl xs ff d k pc L (.long Y :: .long X :: r) m P σ' :=
  g_of (fun _ _ e => ev_lrem hq hi (fun h => hn (by rw [← hy, h]; rfl)) e1 e2 e) (kk _ (tx_lrem hx hy))
theorem r_t1 {o : ClassFile.Cond} {off : Int} {X : Int32} {x : Int} (hq : z_mth k = some q) (hi : z_at q pc (.ifCond o off)) (hf : z_fw pc off = true) (hx : X.toInt = x) (hc : zP o x 0) (e1 : z_to pc off = pc') (e2 : z_can k pc' L = L') (kk : zGo xl xs ff d k pc' L' r m P σ') : zGo xl xs ff d k pc L (.int X :: r) m P σ' :=
  g_of (fun _ _ e => ev_t1 hq hi hf ((zP_c hx rfl).mpr hc) e1 e2 e) kk
theorem r_f1 {o : ClassFile.Cond} {off : Int} {X : Int32} {x : Int} (hq : z_mth k = some q) (hi : z_at q pc (.ifCond o off)) (hf : z_fw pc off = true) (hx : X.toInt = x) (hc : ¬ zP o x 0) (e1 : pc + 3 = pc') (e2 : z_can k pc' L = L') (kk : zGo xl xs ff d k pc' L' r m P σ') : zGo xl xs ff d k pc L (.int X :: r) m P σ' :=
  g_of (fun _ _ e => ev_f1 hq hi hf (Bool.eq_false_iff.mpr (fun h => hc ((zP_c hx rfl).mp h))) e1 e2 e) kk
theorem r_t2 {o : ClassFile.Cond} {off : Int} {X Y : Int32} {x y : Int} (hq : z_mth k = some q) (hi : z_at q pc (.if_icmp o off)) (hf : z_fw pc off = true) (hx : X.toInt = x) (hy : Y.toInt = y) (hc : zP o x y) (e1 : z_to pc off = pc') (e2 : z_can k pc' L = L') (kk : zGo xl xs ff d k pc' L' r m P σ') : zGo xl xs ff d k pc L (.int Y :: .int X :: r) m P σ' :=
  g_of (fun _ _ e => ev_t2 hq hi hf ((zP_c hx hy).mpr hc) e1 e2 e) kk
theorem r_f2 {o : ClassFile.Cond} {off : Int} {X Y : Int32} {x y : Int} (hq : z_mth k = some q) (hi : z_at q pc (.if_icmp o off)) (hf : z_fw pc off = true) (hx : X.toInt = x) (hy : Y.toInt = y) (hc : ¬ zP o x y) (e1 : pc + 3 = pc') (e2 : z_can k pc' L = L') (kk : zGo xl xs ff d k pc' L' r m P σ') : zGo xl xs ff d k pc L (.int Y :: .int X :: r) m P σ' :=
  g_of (fun _ _ e => ev_f2 hq hi hf (Bool.eq_false_iff.mpr (fun h => hc ((zP_c hx hy).mp h))) e1 e2 e) kk
theorem r_sw {dflt lo up off : Int} {offs : Array Int} {X : Int32} (hq : z_mth k = some q) (hi : z_at q pc (.tableswitch dflt lo up offs)) (ho : z_off lo up dflt offs X = some off) (hf : z_fw pc off = true) (e1 : z_to pc off = pc') (e2 : z_can k pc' L = L') (kk : zGo xl xs ff d k pc' L' r m P σ') : zGo xl xs ff d k pc L (.int X :: r) m P σ' :=
  g_of (fun _ _ e => ev_sw hq hi ho hf e1 e2 e) kk
theorem r_ci {idx : Nat} {X Y : Int32} {x y : Int} {r3 : Nat × Nat × List Nat} (hq : z_mth k = some q) (hi : z_at q pc (.invokestatic idx)) (hl : z_lk z_ML q.2.2.2.2.1 idx = some (7, r3)) (hcat : z_cat r ≤ 8) (hx : X.toInt = x) (hy : Y.toInt = y) (h : 0 ≤ x ∧ x < y) (e1 : pc + 3 = pc') (e2 : z_can k pc' L = L') (kk : zGo xl xs ff d k pc' L' r m P σ') : zGo xl xs ff d k pc L (.int Y :: .int X :: r) m P σ' :=
  g_of (fun _ _ e => ev_ci hq hi hl hcat (by rw [hx, hy]; exact h) e1 e2 e) kk
theorem r_rv (hq : z_mth k = some q) (hi : z_at q pc .return_) (hr : q.2.2.2.1 = none) (hff : ff p) (H : zRep xl xs p m σ) : zGo xl xs ff d k pc L [] m vV σ := ⟨_, _, _, ev_rv hq hi hr, rfl, hff, H⟩
theorem r_ri {X : Int32} {x : Int} {ty : FieldType} (hq : z_mth k = some q) (hi : z_at q pc .ireturn) (hr : q.2.2.2.1 = some ty) (ht : z_rty ty X = true) (hx : X.toInt = x) (hff : ff p) (H : zRep xl xs p m σ) : zGo xl xs ff d k pc L [.int X] m (vI x) σ := ⟨_, _, _, ev_ri hq hi hr ht, ⟨X, rfl, hx⟩, hff, H⟩
theorem r_rl {X : Int64} {x : Int} (hq : z_mth k = some q) (hi : z_at q pc .lreturn) (hr : q.2.2.2.1 = some .long) (hx : X.toInt = x) (hff : ff p) (H : zRep xl xs p m σ) : zGo xl xs ff d k pc L [.long X] m (vL x) σ := ⟨_, _, _, ev_rl hq hi hr, ⟨X, rfl, hx⟩, hff, H⟩
theorem r_ra {a : Nat} (hq : z_mth k = some q) (hi : z_at q pc .areturn) (hr : (match q.2.2.2.1 with | some (.object _) => true | some (.array _) => true | _ => false) = true) (hff : ff p) (H : zRep xl xs p m σ) : zGo xl xs ff d k pc L [.ref a] m (vR a) σ := ⟨_, _, _, ev_ra hq hi hr, rfl, hff, H⟩
theorem r_gP (H : zRep xl xs p m σ) {idx wp : Nat} (hq : z_mth k = some q) (hi : z_at q pc (.getfield idx)) (hl : z_lk z_FL q.2.2.2.2.1 idx = some (23, 0, wp)) (e1 : pc + 3 = pc') (e2 : z_can k pc' L = L') (kk : zGo xl xs ff d k pc' L' (.ref p :: r) m P σ') : zGo xl xs ff d k pc L (.ref 129 :: r) m P σ' := by
  subst e1
  obtain ⟨cap, g1, -⟩ := H.2.2.2
  exact g_of (fun _ _ e => ev_s hq hi rfl (z_getf_step hl (H.tg (a := 129) (tg := 23) rfl) g1) e2 e) kk
theorem zRep.pg (H : zRep xl xs p m σ) : 39 ≤ p ∧ z_tg m p = 2 ∧ (z_n m p : Int) = σ 169 0 ∧ σ 169 0 ≤ 200000 ∧ p ≠ 129 := by
  obtain ⟨cap, g1, g2, g3, g4, -, g6, -⟩ := H.2.2.2
  have e1 : z_tg m p = 2 := by unfold z_tg; rw [g3]; rfl
  have e2 : z_n m p = cap := by unfold z_n; rw [g3]; rfl
  exact ⟨by omega, e1, by rw [e2]; exact g4, by omega, by omega⟩
theorem r_baP (H : zRep xl xs p m σ) {i : Int} {X : Int32} (hq : z_mth k = some q) (hi : z_at q pc .baload) (hX : X.toInt = i) (hb : 0 ≤ i ∧ i < σ 169 0) (e1 : pc + 1 = pc') (e2 : z_can k pc' L = L') (kk : ∀ V : Int32, V.toInt = σ 168 i → zGo xl xs ff d k pc' L' (.int V :: r) m P σ') : zGo xl xs ff d k pc L (.int X :: .ref p :: r) m P σ' := by
  subst e1
  obtain ⟨h1, h2, h3, h4, -⟩ := H.pg
  obtain ⟨cap, g1, g2, g3, g4, g5, -⟩ := H.2.2.2
  have e := z_ix hX hb
  obtain ⟨V, k1, k2⟩ := g5 X.toNatClampNeg (by omega)
  rw [e] at k2
  exact g_of (fun _ _ e => ev_s hq hi rfl (show z_ld m 2 pc L p X r = _ from z_ld_ok h2 (z_inb hX hb h3) k1) e2 e) (kk V k2)
theorem r_bsP (H : zRep xl xs p m σ) {i x : Int} {X V : Int32} (hq : z_mth k = some q) (hi : z_at q pc .bastore) (hX : X.toInt = i) (hb : 0 ≤ i ∧ i < σ 169 0) (hV : V.toInt = x) (e1 : pc + 1 = pc') (e2 : z_can k pc' L = L') (kk : ∀ m', zRep xl xs p m' (zu σ 168 i (w8 x)) → zGo xl xs ff d k pc' L' r m' P σ') : zGo xl xs ff d k pc L (.int V :: .int X :: .ref p :: r) m P σ' := by
  subst e1
  obtain ⟨h1, h2, h3, h4, h5⟩ := H.pg
  have e := z_ix hX hb
  have hst : z_sd m 2 pc L p X (.int V.toInt8.toInt32) r = some (pc + 1, L, r, z_wr m p X.toNatClampNeg (.int V.toInt8.toInt32)) := by
    unfold z_sd
    rw [if_pos (show zE ≤ p from h1), if_pos h2, if_pos (z_inb hX hb h3)]
  refine g_of (fun _ _ e => ev_s hq hi rfl hst e2 e) (kk _ ?_)
  obtain ⟨H1, H2, H3, cap, g1, g2, g3, g4, g5, g6, g7, g8, g9⟩ := H
  have e1 : ∀ b, b ≠ p → (z_wr m p X.toNatClampNeg (.int V.toInt8.toInt32)).2 b = m.2 b := fun b hb => funext fun j => if_neg hb
  have ez : ∀ b j, b ≠ 168 → zu σ 168 i (w8 x) b j = σ b j := fun b j hb => if_neg (fun h => hb h.1)
  refine ⟨fun b hb => ⟨(H1 b hb).1, fun j => ?_⟩, H2, fun b hb1 hb2 hb3 j hj => ?_, cap, ?_, g2, g3, ?_, fun j hj => ?_, g6, g7, g8, g9⟩
  · rw [e1 b (by omega)]; exact (H1 b hb).2 j
  · rw [e1 b (by omega), ez b _ (by omega)]; exact H3 b hb1 hb2 hb3 j hj
  · rw [e1 129 (Ne.symm h5)]; exact g1
  · rw [ez 169 0 (by decide)]; exact g4
  · show ∃ Y, (if p = p then (if j = X.toNatClampNeg then Value.int V.toInt8.toInt32 else m.2 p j) else m.2 p j) = .int Y ∧ Y.toInt = (if 168 = 168 ∧ (j : Int) = i then w8 x else σ 168 j)
    rw [if_pos rfl]
    by_cases hji : j = X.toNatClampNeg
    · rw [if_pos hji, if_pos ⟨rfl, by omega⟩]; exact ⟨_, rfl, tx_i2b hV⟩
    · rw [if_neg hji, if_neg (fun h => hji (by omega))]; exact g5 j hj
theorem r_leP (H : zRep xl xs p m σ) (hq : z_mth k = some q) (hi : z_at q pc .arraylength) (e1 : pc + 1 = pc') (e2 : z_can k pc' L = L') (kk : ∀ V : Int32, V.toInt = σ 169 0 → zGo xl xs ff d k pc' L' (.int V :: r) m P σ') : zGo xl xs ff d k pc L (.ref p :: r) m P σ' := by
  obtain ⟨h1, h2, h3, h4, -⟩ := H.pg
  refine g_of (fun _ _ e => ev_le hq hi (show (if z_tg m p < 4 then some (Int32.ofNat (z_n m p)) else none) = _ by rw [h2, if_pos (by decide)]) e1 e2 e) (kk _ ?_)
  rw [Int32.toInt_ofNat_of_lt (by omega)]
  exact h3
/-- a text copied to the paper -/
def zcP (σ : zS) (a : Nat) (sp dp n : Int) : zS := fun c j => if c = 168 ∧ dp ≤ j ∧ j < dp + n then zs0 a (sp + (j - dp)) else σ c j
theorem r_cpP (H : zRep xl xs p m σ) {idx a : Nat} {na sp dp n : Int} {SP DP N : Int32} {r3 : Nat × Nat × List Nat} (hq : z_mth k = some q) (hi : z_at q pc (.invokestatic idx)) (hl : z_lk z_ML q.2.2.2.2.1 idx = some (8, r3)) (hcat : z_cat r ≤ 8) (hsa : zAz a 2 na = true) (h1 : SP.toInt = sp) (h2 : DP.toInt = dp) (h3 : N.toInt = n) (hb : 0 ≤ sp ∧ 0 ≤ dp ∧ 0 ≤ n ∧ sp + n ≤ na ∧ dp + n ≤ σ 169 0) (e1 : pc + 3 = pc') (e2 : z_can k pc' L = L') (kk : ∀ m', zRep xl xs p m' (zcP σ a sp dp n) → zGo xl xs ff d k pc' L' r m' P σ') : zGo xl xs ff d k pc L (.int N :: .int DP :: .ref p :: .int SP :: .ref a :: r) m P σ' := by
  obtain ⟨q1, q2, q3, q4⟩ := zAz_u hsa
  obtain ⟨p1, p2, p3, p4, p5⟩ := H.pg
  obtain ⟨b1, b2, b3, b4, b5⟩ := hb
  have hsh : m.1[a]? = some (2, zLN a) := by
    rw [(H.1 a q2).1, ← z_sh0_bz a q2 q1]
    obtain ⟨b, rfl⟩ := Nat.exists_eq_add_of_lt (show 0 < a by omega)
    rw [Nat.zero_add]
    rfl
  have ta : z_tg m a = 2 := by unfold z_tg; rw [hsh]; rfl
  have na' : z_n m a = zLN a := by unfold z_n; rw [hsh]; rfl
  have l1 : ((zLN a : Nat) : Int) = na := q3
  have c1 : ((SP.toNatClampNeg : Nat) : Int) = sp := z_ix (n := sp + 1) h1 ⟨b1, by omega⟩
  have c2 : ((DP.toNatClampNeg : Nat) : Int) = dp := z_ix (n := dp + 1) h2 ⟨b2, by omega⟩
  have c3 : ((N.toNatClampNeg : Nat) : Int) = n := z_ix (n := n + 1) h3 ⟨b3, by omega⟩
  have hcp : z_cp m a SP p DP N = some (m.1, z_nw m.2 p (z_cpy (m.2 a) (m.2 p) SP.toNatClampNeg DP.toNatClampNeg N.toNatClampNeg)) := by
    unfold z_cp
    rw [ta, p2, na', if_pos ⟨p1, rfl, by decide, by omega, by omega, by omega, by omega, by omega⟩]
  refine g_of (fun _ _ e => ev_cp hq hi hl hcat hcp e1 e2 e) (kk _ ?_)
  obtain ⟨H1, H2, H3, cap, g1, g2, g3, g4, g5, g6, g7, g8, g9⟩ := H
  have e1 : ∀ c, c ≠ p → z_nw m.2 p (z_cpy (m.2 a) (m.2 p) SP.toNatClampNeg DP.toNatClampNeg N.toNatClampNeg) c = m.2 c := fun c hc => funext fun j => if_neg hc
  have ez : ∀ b j, b ≠ 168 → zcP σ a sp dp n b j = σ b j := fun b j hb => if_neg (fun h => hb h.1)
  refine ⟨fun c hc => ⟨(H1 c hc).1, fun j => ?_⟩, H2, fun c hc1 hc2 hc3 i hi => ?_, cap, ?_, g2, g3, ?_, fun j hj => ?_, g6, g7, g8, g9⟩
  · show z_nw _ _ _ c j = _
    rw [e1 c (by omega)]; exact (H1 c hc).2 j
  · show zCell _ (z_nw _ _ _ c i) _
    rw [e1 c (by omega), ez c _ (by omega)]; exact H3 c hc1 hc2 hc3 i hi
  · show z_nw _ _ _ 129 0 = _
    rw [e1 129 (Ne.symm p5)]; exact g1
  · rw [ez 169 0 (by decide)]; exact g4
  · show ∃ Y, (if p = p then z_cpy (m.2 a) (m.2 p) SP.toNatClampNeg DP.toNatClampNeg N.toNatClampNeg j else m.2 p j) = .int Y ∧ Y.toInt = (if 168 = 168 ∧ dp ≤ (j : Int) ∧ (j : Int) < dp + n then zs0 a (sp + ((j : Int) - dp)) else σ 168 j)
    rw [if_pos rfl]
    show ∃ Y, (if DP.toNatClampNeg ≤ j ∧ j < DP.toNatClampNeg + N.toNatClampNeg then m.2 a (SP.toNatClampNeg + (j - DP.toNatClampNeg)) else m.2 p j) = .int Y ∧ _
    by_cases hr : DP.toNatClampNeg ≤ j ∧ j < DP.toNatClampNeg + N.toNatClampNeg
    · rw [if_pos hr, if_pos ⟨rfl, by omega, by omega⟩, (H1 a q2).2]
      unfold z_m0 zs0
      have e : (sp + ((j : Int) - dp)).toNat = SP.toNatClampNeg + (j - DP.toNatClampNeg) := by omega
      rw [if_neg (show ¬ a = 0 by omega), if_neg (show ¬ a < 19 by omega), e]
      by_cases h37 : a < 37
      · rw [if_pos h37, if_pos h37]; exact ⟨_, rfl, rfl⟩
      · rw [if_neg h37, if_neg h37]; exact ⟨_, rfl, rfl⟩
    · rw [if_neg hr, if_neg (fun h => hr ⟨by omega, by omega⟩)]; exact g5 j hj
theorem r_iaS (H : zRep xl xs p m σ) {i : Int} {X : Int32} (hq : z_mth k = some q) (hi : z_at q pc .iaload) (hX : X.toInt = i) (hb : 0 ≤ i ∧ i < (xl : Int)) (e1 : pc + 1 = pc') (e2 : z_can k pc' L = L') (kk : ∀ V : Int32, V.toInt = (xs i.toNat).toInt → zGo xl xs ff d k pc' L' (.int V :: r) m P σ') : zGo xl xs ff d k pc L (.int X :: .ref 0 :: r) m P σ' := by
  subst e1
  obtain ⟨h1, h2⟩ := H.1 0 (by decide)
  have e := z_ix hX hb
  have e3 : X.toNatClampNeg = i.toNat := by omega
  have h4 : m.2 0 X.toNatClampNeg = .int (xs i.toNat) := by rw [h2, e3]; rfl
  exact g_of (fun _ _ e => ev_s hq hi rfl (show z_ld m 0 pc L 0 X r = _ from z_ld_ok (by unfold z_tg; rw [h1]; rfl) (by unfold z_n; rw [h1]; exact z_inb hX hb rfl) h4) e2 e) (kk _ rfl)
theorem r_leS (hxl : xl < 2147483648) (H : zRep xl xs p m σ) (hq : z_mth k = some q) (hi : z_at q pc .arraylength) (e1 : pc + 1 = pc') (e2 : z_can k pc' L = L') (kk : ∀ V : Int32, V.toInt = (xl : Int) → zGo xl xs ff d k pc' L' (.int V :: r) m P σ') : zGo xl xs ff d k pc L (.ref 0 :: r) m P σ' := by
  obtain ⟨h1, h2⟩ := H.1 0 (by decide)
  refine g_of (fun _ _ e => ev_le hq hi (show (if z_tg m 0 < 4 then some (Int32.ofNat (z_n m 0)) else none) = some (Int32.ofNat xl) by unfold z_tg z_n; rw [h1]; rfl) e1 e2 e) (kk _ ?_)
  rw [Int32.toInt_ofNat_of_lt (show xl < 2 ^ 31 by omega)]
theorem r_csI {As rest : List Value} {j : Nat} {idx dc : Nat} {i : Instr} {ks : List Nat} {x : Int} (hq : z_mth k = some q) (hi : z_at q pc i) (hk : (i = .invokestatic idx ∧ ks = [0]) ∨ (i = .invokespecial idx ∧ ks = [2, 3, 4])) (hs : z_step q.2.2.2.2.1 q.2.2.1 (q.1.name == "<init>") i pc L st m = none) (hv : z_inv q.2.2.2.2.1 idx ks st m = some (.inr (.inr (j, As, rest)))) (hd : dc + 1 ≤ d) (hc : zGo xl xs ff1 dc j 0 (z_can j 0 (lv_args 0 As)) [] m (vI x) σ1) (e1 : pc + 3 = pc') (e2 : z_can k pc' L = L') (kk : ∀ (R : Int32) m1 p1, ff1 p1 → R.toInt = x → zRep xl xs p1 m1 σ1 → zGo xl xs ff d k pc' L' (.int R :: rest) m1 P σ') : zGo xl xs ff d k pc L st m P σ' := by
  obtain ⟨v, m1, p1, h1, h2, hf1, h3⟩ := hc
  obtain ⟨R, rfl, hR⟩ := h2
  exact g_of (fun _ _ e => ev_cs hq hi hk hs hv hd h1 e1 e2 rfl e) (kk R m1 p1 hf1 hR h3)
theorem r_csL {As rest : List Value} {j : Nat} {idx dc : Nat} {i : Instr} {ks : List Nat} {x : Int} (hq : z_mth k = some q) (hi : z_at q pc i) (hk : (i = .invokestatic idx ∧ ks = [0]) ∨ (i = .invokespecial idx ∧ ks = [2, 3, 4])) (hs : z_step q.2.2.2.2.1 q.2.2.1 (q.1.name == "<init>") i pc L st m = none) (hv : z_inv q.2.2.2.2.1 idx ks st m = some (.inr (.inr (j, As, rest)))) (hd : dc + 1 ≤ d) (hc : zGo xl xs ff1 dc j 0 (z_can j 0 (lv_args 0 As)) [] m (vL x) σ1) (e1 : pc + 3 = pc') (e2 : z_can k pc' L = L') (kk : ∀ (R : Int64) m1 p1, ff1 p1 → R.toInt = x → zRep xl xs p1 m1 σ1 → zGo xl xs ff d k pc' L' (.long R :: rest) m1 P σ') : zGo xl xs ff d k pc L st m P σ' := by
  obtain ⟨v, m1, p1, h1, h2, hf1, h3⟩ := hc
  obtain ⟨R, rfl, hR⟩ := h2
  exact g_of (fun _ _ e => ev_cs hq hi hk hs hv hd h1 e1 e2 rfl e) (kk R m1 p1 hf1 hR h3)
theorem r_csV {As rest : List Value} {j : Nat} {idx dc : Nat} {i : Instr} {ks : List Nat} (hq : z_mth k = some q) (hi : z_at q pc i) (hk : (i = .invokestatic idx ∧ ks = [0]) ∨ (i = .invokespecial idx ∧ ks = [2, 3, 4])) (hs : z_step q.2.2.2.2.1 q.2.2.1 (q.1.name == "<init>") i pc L st m = none) (hv : z_inv q.2.2.2.2.1 idx ks st m = some (.inr (.inr (j, As, rest)))) (hd : dc + 1 ≤ d) (hc : zGo xl xs ff1 dc j 0 (z_can j 0 (lv_args 0 As)) [] m vV σ1) (e1 : pc + 3 = pc') (e2 : z_can k pc' L = L') (kk : ∀ m1 p1, ff1 p1 → zRep xl xs p1 m1 σ1 → zGo xl xs ff d k pc' L' rest m1 P σ') : zGo xl xs ff d k pc L st m P σ' := by
  obtain ⟨v, m1, p1, h1, h2, hf1, h3⟩ := hc
  cases h2
  exact g_of (fun _ _ e => ev_cs hq hi hk hs hv hd h1 e1 e2 rfl e) (kk m1 p1 hf1 h3)
theorem r_csR {As rest : List Value} {j : Nat} {idx dc : Nat} {i : Instr} {ks : List Nat} {b : Nat} (hq : z_mth k = some q) (hi : z_at q pc i) (hk : (i = .invokestatic idx ∧ ks = [0]) ∨ (i = .invokespecial idx ∧ ks = [2, 3, 4])) (hs : z_step q.2.2.2.2.1 q.2.2.1 (q.1.name == "<init>") i pc L st m = none) (hv : z_inv q.2.2.2.2.1 idx ks st m = some (.inr (.inr (j, As, rest)))) (hd : dc + 1 ≤ d) (hc : zGo xl xs ff1 dc j 0 (z_can j 0 (lv_args 0 As)) [] m (vR b) σ1) (e1 : pc + 3 = pc') (e2 : z_can k pc' L = L') (kk : ∀ m1 p1, ff1 p1 → zRep xl xs p1 m1 σ1 → zGo xl xs ff d k pc' L' (.ref b :: rest) m1 P σ') : zGo xl xs ff d k pc L st m P σ' := by
  obtain ⟨v, m1, p1, h1, h2, hf1, h3⟩ := hc
  cases h2
  exact g_of (fun _ _ e => ev_cs hq hi hk hs hv hd h1 e1 e2 rfl e) (kk m1 p1 hf1 h3)
theorem r_cvI {Ps rest : List Value} {idx j dc kd tg a : Nat} {i : Instr} {ks ps : List Nat} {qc : z_R} {x : Int} (hq : z_mth k = some q) (hi : z_at q pc i) (hk : (i = .invokevirtual idx ∧ ks = [1, 5]) ∨ (i = .invokespecial idx ∧ ks = [2, 3, 4] ∧ kd = 4)) (hl : z_lk z_ML q.2.2.2.2.1 idx = some (kd, j, tg, ps)) (hks : ks.contains kd = true) (hk0 : kd ≠ 0) (hk9 : kd ≠ 9) (hr : z_r j = some qc) (h1 : ¬ st.length < qc.2.2.2.2.2.1) (h2 : st.drop qc.2.2.2.2.2.1 = .ref a :: rest) (h3 : (st.take qc.2.2.2.2.2.1).reverse = Ps) (h4 : z_cat rest ≤ 8) (h5 : (lg_sl (.ref a :: Ps)).length ≤ qc.2.2.1) (h6 : qc.2.2.1 ≤ 41) (htg : z_tg m a = tg) (hd : dc + 1 ≤ d) (hc : zGo xl xs ff1 dc j 0 (z_can j 0 (lv_args 0 (.ref a :: Ps))) [] m (vI x) σ1) (e1 : pc + 3 = pc') (e2 : z_can k pc' L = L') (kk : ∀ (R : Int32) m1 p1, ff1 p1 → R.toInt = x → zRep xl xs p1 m1 σ1 → zGo xl xs ff d k pc' L' (.int R :: rest) m1 P σ') : zGo xl xs ff d k pc L st m P σ' := by
  obtain ⟨v, m1, p1, g1, g2, hf1, g3⟩ := hc
  obtain ⟨R, rfl, hR⟩ := g2
  exact g_of (fun _ _ e => ev_cv hq hi hk hl hks hk0 hk9 hr h1 h2 h3 h4 h5 h6 htg hd g1 e1 e2 rfl e) (kk R m1 p1 hf1 hR g3)
theorem r_cvL {Ps rest : List Value} {idx j dc kd tg a : Nat} {i : Instr} {ks ps : List Nat} {qc : z_R} {x : Int} (hq : z_mth k = some q) (hi : z_at q pc i) (hk : (i = .invokevirtual idx ∧ ks = [1, 5]) ∨ (i = .invokespecial idx ∧ ks = [2, 3, 4] ∧ kd = 4)) (hl : z_lk z_ML q.2.2.2.2.1 idx = some (kd, j, tg, ps)) (hks : ks.contains kd = true) (hk0 : kd ≠ 0) (hk9 : kd ≠ 9) (hr : z_r j = some qc) (h1 : ¬ st.length < qc.2.2.2.2.2.1) (h2 : st.drop qc.2.2.2.2.2.1 = .ref a :: rest) (h3 : (st.take qc.2.2.2.2.2.1).reverse = Ps) (h4 : z_cat rest ≤ 8) (h5 : (lg_sl (.ref a :: Ps)).length ≤ qc.2.2.1) (h6 : qc.2.2.1 ≤ 41) (htg : z_tg m a = tg) (hd : dc + 1 ≤ d) (hc : zGo xl xs ff1 dc j 0 (z_can j 0 (lv_args 0 (.ref a :: Ps))) [] m (vL x) σ1) (e1 : pc + 3 = pc') (e2 : z_can k pc' L = L') (kk : ∀ (R : Int64) m1 p1, ff1 p1 → R.toInt = x → zRep xl xs p1 m1 σ1 → zGo xl xs ff d k pc' L' (.long R :: rest) m1 P σ') : zGo xl xs ff d k pc L st m P σ' := by
  obtain ⟨v, m1, p1, g1, g2, hf1, g3⟩ := hc
  obtain ⟨R, rfl, hR⟩ := g2
  exact g_of (fun _ _ e => ev_cv hq hi hk hl hks hk0 hk9 hr h1 h2 h3 h4 h5 h6 htg hd g1 e1 e2 rfl e) (kk R m1 p1 hf1 hR g3)
theorem r_cvV {Ps rest : List Value} {idx j dc kd tg a : Nat} {i : Instr} {ks ps : List Nat} {qc : z_R} (hq : z_mth k = some q) (hi : z_at q pc i) (hk : (i = .invokevirtual idx ∧ ks = [1, 5]) ∨ (i = .invokespecial idx ∧ ks = [2, 3, 4] ∧ kd = 4)) (hl : z_lk z_ML q.2.2.2.2.1 idx = some (kd, j, tg, ps)) (hks : ks.contains kd = true) (hk0 : kd ≠ 0) (hk9 : kd ≠ 9) (hr : z_r j = some qc) (h1 : ¬ st.length < qc.2.2.2.2.2.1) (h2 : st.drop qc.2.2.2.2.2.1 = .ref a :: rest) (h3 : (st.take qc.2.2.2.2.2.1).reverse = Ps) (h4 : z_cat rest ≤ 8) (h5 : (lg_sl (.ref a :: Ps)).length ≤ qc.2.2.1) (h6 : qc.2.2.1 ≤ 41) (htg : z_tg m a = tg) (hd : dc + 1 ≤ d) (hc : zGo xl xs ff1 dc j 0 (z_can j 0 (lv_args 0 (.ref a :: Ps))) [] m vV σ1) (e1 : pc + 3 = pc') (e2 : z_can k pc' L = L') (kk : ∀ m1 p1, ff1 p1 → zRep xl xs p1 m1 σ1 → zGo xl xs ff d k pc' L' rest m1 P σ') : zGo xl xs ff d k pc L st m P σ' := by
  obtain ⟨v, m1, p1, g1, g2, hf1, g3⟩ := hc
  cases g2
  exact g_of (fun _ _ e => ev_cv hq hi hk hl hks hk0 hk9 hr h1 h2 h3 h4 h5 h6 htg hd g1 e1 e2 rfl e) (kk m1 p1 hf1 g3)
theorem r_cvR {Ps rest : List Value} {idx j dc kd tg a : Nat} {i : Instr} {ks ps : List Nat} {qc : z_R} {b : Nat} (hq : z_mth k = some q) (hi : z_at q pc i) (hk : (i = .invokevirtual idx ∧ ks = [1, 5]) ∨ (i = .invokespecial idx ∧ ks = [2, 3, 4] ∧ kd = 4)) (hl : z_lk z_ML q.2.2.2.2.1 idx = some (kd, j, tg, ps)) (hks : ks.contains kd = true) (hk0 : kd ≠ 0) (hk9 : kd ≠ 9) (hr : z_r j = some qc) (h1 : ¬ st.length < qc.2.2.2.2.2.1) (h2 : st.drop qc.2.2.2.2.2.1 = .ref a :: rest) (h3 : (st.take qc.2.2.2.2.2.1).reverse = Ps) (h4 : z_cat rest ≤ 8) (h5 : (lg_sl (.ref a :: Ps)).length ≤ qc.2.2.1) (h6 : qc.2.2.1 ≤ 41) (htg : z_tg m a = tg) (hd : dc + 1 ≤ d) (hc : zGo xl xs ff1 dc j 0 (z_can j 0 (lv_args 0 (.ref a :: Ps))) [] m (vR b) σ1) (e1 : pc + 3 = pc') (e2 : z_can k pc' L = L') (kk : ∀ m1 p1, ff1 p1 → zRep xl xs p1 m1 σ1 → zGo xl xs ff d k pc' L' (.ref b :: rest) m1 P σ') : zGo xl xs ff d k pc L st m P σ' := by
  obtain ⟨v, m1, p1, g1, g2, hf1, g3⟩ := hc
  cases g2
  exact g_of (fun _ _ e => ev_cv hq hi hk hl hks hk0 hk9 hr h1 h2 h3 h4 h5 h6 htg hd g1 e1 e2 rfl e) (kk m1 p1 hf1 g3)
end ZG
end
section
/-! 20a.cap -/
/-! THE METHODS over the typed memory: how the paper grows (by wip/zg.py) -/
def g_jMath_max_289 (x0 : Int) (x1 : Int) (σ : zS) : Option (Int × zS) :=
  if x0 < x1 then
    some (x1, σ)
  else
    some (x0, σ)
set_option maxHeartbeats 4000000 in
theorem g_jMath_max_289_ok {xl : Nat} {xs : Nat → Int32} {X0 : Int32} {x0 : Int} (hx0 : X0.toInt = x0) {X1 : Int32} {x1 : Int} (hx1 : X1.toInt = x1) {σ : zS} {p : Nat} {m : zM} {o : Int × zS} (H : zRep xl xs p m σ) (h : g_jMath_max_289 x0 x1 σ = some o) : zGo xl xs (fun p' => p = p') 1 289 0 (z_can 289 0 (lv_args 0 [.int X0, .int X1])) [] m (vI o.1) o.2 := by
  have hq : z_mth 289 = some z_r289 := rfl
  unfold g_jMath_max_289 at h
  show zGo xl xs (fun p' => p = p') 1 289 0 [(0, .int X0), (1, .int X1)] [] m (vI o.1) o.2
  refine r_p hq 2 (pc' := 2) (L' := [(0, .int X0), (1, .int X1)]) (st' := [.int X1, .int X0]) rfl ?_
  rcases z_ite h with ⟨c_2, h⟩ | ⟨c_2, h⟩
  · refine r_t2 (pc' := 9) (L' := [(0, .int X0), (1, .int X1)]) hq (z_at.mk 3 rfl rfl) rfl hx0 hx1 c_2 rfl rfl ?_
    refine r_p hq 1 (pc' := 10) (L' := []) (st' := [.int X1]) rfl ?_
    cases h
    exact r_ri hq (z_at.mk 1 rfl rfl) rfl rfl hx1 rfl H
  · refine r_f2 (pc' := 5) (L' := [(0, .int X0), (1, .int X1)]) hq (z_at.mk 3 rfl rfl) rfl hx0 hx1 c_2 rfl rfl ?_
    refine r_p hq 2 (pc' := 10) (L' := []) (st' := [.int X0]) rfl ?_
    cases h
    exact r_ri hq (z_at.mk 1 rfl rfl) rfl rfl hx0 rfl H
def g_jArraysSupport_newLength_L21 (x0 : Int) (x1 : Int) (σ : zS) : Option (Int × zS) :=
  none
set_option maxHeartbeats 4000000 in
theorem g_jArraysSupport_newLength_L21_ok {xl : Nat} {xs : Nat → Int32} {X0 : Int32} {x0 : Int} (hx0 : X0.toInt = x0) {X1 : Int32} {x1 : Int} (hx1 : X1.toInt = x1) {σ : zS} {p : Nat} {m : zM} {o : Int × zS} (H : zRep xl xs p m σ) (h : g_jArraysSupport_newLength_L21 x0 x1 σ = some o) : zGo xl xs (fun p' => p = p') 2 317 21 [(0, .int X0), (1, .int X1)] [] m (vI o.1) o.2 := by
  have hq : z_mth 317 = some z_r317 := rfl
  unfold g_jArraysSupport_newLength_L21 at h
  refine r_p hq 2 (pc' := 23) (L' := [(0, .int X0), (1, .int X1)]) (st' := [.int X1, .int X0]) rfl ?_
  cases h
def g_jArraysSupport_newLength (x0 : Int) (x1 : Int) (x2 : Int) (σ : zS) : Option (Int × zS) :=
  (g_jMath_max_289 x1 x2 σ).bind fun o_3 =>
  if w32 (x0 + o_3.1) ≤ 0 then
    g_jArraysSupport_newLength_L21 x0 x1 o_3.2
  else
    if 2147483639 < w32 (x0 + o_3.1) then
      g_jArraysSupport_newLength_L21 x0 x1 o_3.2
    else
      some (w32 (x0 + o_3.1), o_3.2)
set_option maxHeartbeats 4000000 in
theorem g_jArraysSupport_newLength_ok {xl : Nat} {xs : Nat → Int32} {X0 : Int32} {x0 : Int} (hx0 : X0.toInt = x0) {X1 : Int32} {x1 : Int} (hx1 : X1.toInt = x1) {X2 : Int32} {x2 : Int} (hx2 : X2.toInt = x2) {σ : zS} {p : Nat} {m : zM} {o : Int × zS} (H : zRep xl xs p m σ) (h : g_jArraysSupport_newLength x0 x1 x2 σ = some o) : zGo xl xs (fun p' => p = p') 2 317 0 (z_can 317 0 (lv_args 0 [.int X0, .int X1, .int X2])) [] m (vI o.1) o.2 := by
  have hq : z_mth 317 = some z_r317 := rfl
  unfold g_jArraysSupport_newLength at h
  show zGo xl xs (fun p' => p = p') 2 317 0 [(0, .int X0), (1, .int X1), (2, .int X2)] [] m (vI o.1) o.2
  refine r_p hq 3 (pc' := 3) (L' := [(0, .int X0), (1, .int X1), (2, .int X2)]) (st' := [.int X2, .int X1, .int X0]) rfl ?_
  obtain ⟨o_3, h_3, h⟩ := Option.bind_eq_some_iff.mp h
  refine r_csI (pc' := 6) (L' := [(0, .int X0), (1, .int X1), (2, .int X2)]) (As := [.int X1, .int X2]) (rest := [.int X0]) (j := 289) hq (z_at.mk 3 rfl rfl) (Or.inl ⟨rfl, rfl⟩) rfl rfl (by omega) (g_jMath_max_289_ok hx1 hx2 H h_3) rfl rfl ?_
  intro R_3 m_3 p_3 e_3 hR_3 H_3
  subst e_3
  refine r_p hq 4 (pc' := 10) (L' := [(3, .int (X0 + R_3)), (0, .int X0), (1, .int X1), (2, .int X2)]) (st' := [.int (X0 + R_3), .int ((0 : Int32))]) rfl ?_
  rcases z_ite h with ⟨c_10, h⟩ | ⟨c_10, h⟩
  · refine r_t2 (pc' := 21) (L' := [(0, .int X0), (1, .int X1)]) hq (z_at.mk 3 rfl rfl) rfl (rfl : (0 : Int32).toInt = 0) (tx_iadd hx0 hR_3) c_10 rfl rfl ?_
    exact g_jArraysSupport_newLength_L21_ok hx0 hx1 H_3 h
  · refine r_f2 (pc' := 13) (L' := [(3, .int (X0 + R_3)), (0, .int X0), (1, .int X1), (2, .int X2)]) hq (z_at.mk 3 rfl rfl) rfl (rfl : (0 : Int32).toInt = 0) (tx_iadd hx0 hR_3) c_10 rfl rfl ?_
    refine r_p hq 2 (pc' := 16) (L' := [(3, .int (X0 + R_3)), (0, .int X0), (1, .int X1), (2, .int X2)]) (st' := [.int ((2147483639 : Int32)), .int (X0 + R_3)]) rfl ?_
    rcases z_ite h with ⟨c_16, h⟩ | ⟨c_16, h⟩
    · refine r_t2 (pc' := 21) (L' := [(0, .int X0), (1, .int X1)]) hq (z_at.mk 3 rfl rfl) rfl (tx_iadd hx0 hR_3) (rfl : (2147483639 : Int32).toInt = 2147483639) c_16 rfl rfl ?_
      exact g_jArraysSupport_newLength_L21_ok hx0 hx1 H_3 h
    · refine r_f2 (pc' := 19) (L' := [(3, .int (X0 + R_3)), (0, .int X0), (1, .int X1), (2, .int X2)]) hq (z_at.mk 3 rfl rfl) rfl (tx_iadd hx0 hR_3) (rfl : (2147483639 : Int32).toInt = 2147483639) c_16 rfl rfl ?_
      refine r_p hq 1 (pc' := 20) (L' := [(3, .int (X0 + R_3)), (0, .int X0), (1, .int X1), (2, .int X2)]) (st' := [.int (X0 + R_3)]) rfl ?_
      cases h
      exact r_ri hq (z_at.mk 1 rfl rfl) rfl rfl (tx_iadd hx0 hR_3) rfl H_3
def g_jAbstractStringBuilder_newCapacity (x1 : Int) (σ : zS) : Option (Int × zS) :=
  let v_8 := σ 129 1
  let v_24 := σ 129 1
  (g_jArraysSupport_newLength (σ 169 0) (w32 ((iShl x1 v_8) - (σ 169 0))) (w32 ((σ 169 0) + (iShl 2 v_24))) σ).bind fun o_29 =>
  if o_29.1 ≠ 2147483647 then
    let v_54 := o_29.2 129 1
    some (iShr o_29.1 v_54, o_29.2)
  else
    none
set_option maxHeartbeats 4000000 in
theorem g_jAbstractStringBuilder_newCapacity_ok {xl : Nat} {xs : Nat → Int32} {X1 : Int32} {x1 : Int} (hx1 : X1.toInt = x1) {σ : zS} {p : Nat} {m : zM} {o : Int × zS} (H : zRep xl xs p m σ) (h : g_jAbstractStringBuilder_newCapacity x1 σ = some o) : zGo xl xs (fun p' => p = p') 3 275 0 (z_can 275 0 (lv_args 0 [.ref 129, .int X1])) [] m (vI o.1) o.2 := by
  have hq : z_mth 275 = some z_r275 := rfl
  unfold g_jAbstractStringBuilder_newCapacity at h
  show zGo xl xs (fun p' => p = p') 3 275 0 [(0, .ref 129), (1, .int X1)] [] m (vI o.1) o.2
  refine r_p hq 1 (pc' := 1) (L' := [(0, .ref 129), (1, .int X1)]) (st' := [.ref 129]) rfl ?_
  refine r_gP (pc' := 4) (L' := [(0, .ref 129), (1, .int X1)]) H hq (z_at.mk 3 rfl rfl) rfl rfl rfl ?_
  refine r_leP (pc' := 5) (L' := [(0, .ref 129), (1, .int X1)]) H hq (z_at.mk 1 rfl rfl) rfl rfl ?_
  intro V_4 hV_4
  refine r_p hq 3 (pc' := 8) (L' := [(2, .int V_4), (0, .ref 129), (1, .int X1)]) (st' := [.ref 129, .int X1]) rfl ?_
  refine r_gI (pc' := 11) (L' := [(2, .int V_4), (0, .ref 129), (1, .int X1)]) H hq (z_at.mk 3 rfl rfl) rfl rfl rfl rfl ?_
  intro V_8 hV_8
  refine r_p hq 11 (pc' := 24) (L' := [(4, .int ((X1 <<< (V_8 &&& 31)) - V_4)), (3, .int (X1 <<< (V_8 &&& 31))), (2, .int V_4), (0, .ref 129), (1, .int X1)]) (st' := [.ref 129, .int ((2 : Int32)), .int V_4, .int ((X1 <<< (V_8 &&& 31)) - V_4), .int V_4]) rfl ?_
  refine r_gI (pc' := 27) (L' := [(4, .int ((X1 <<< (V_8 &&& 31)) - V_4)), (3, .int (X1 <<< (V_8 &&& 31))), (2, .int V_4), (0, .ref 129), (1, .int X1)]) H hq (z_at.mk 3 rfl rfl) rfl rfl rfl rfl ?_
  intro V_24 hV_24
  refine r_p hq 2 (pc' := 29) (L' := [(4, .int ((X1 <<< (V_8 &&& 31)) - V_4)), (3, .int (X1 <<< (V_8 &&& 31))), (2, .int V_4), (0, .ref 129), (1, .int X1)]) (st' := [.int (V_4 + (((2 : Int32)) <<< (V_24 &&& 31))), .int ((X1 <<< (V_8 &&& 31)) - V_4), .int V_4]) rfl ?_
  obtain ⟨o_29, h_29, h⟩ := Option.bind_eq_some_iff.mp h
  refine r_csI (pc' := 32) (L' := [(4, .int ((X1 <<< (V_8 &&& 31)) - V_4)), (3, .int (X1 <<< (V_8 &&& 31))), (2, .int V_4), (0, .ref 129), (1, .int X1)]) (As := [.int V_4, .int ((X1 <<< (V_8 &&& 31)) - V_4), .int (V_4 + (((2 : Int32)) <<< (V_24 &&& 31)))]) (rest := []) (j := 317) hq (z_at.mk 3 rfl rfl) (Or.inl ⟨rfl, rfl⟩) rfl rfl (by omega) (g_jArraysSupport_newLength_ok hV_4 (tx_isub (tx_ishl hx1 hV_8) hV_4) (tx_iadd hV_4 (tx_ishl (rfl : (2 : Int32).toInt = 2) hV_24)) H h_29) rfl rfl ?_
  intro R_29 m_29 p_29 e_29 hR_29 H_29
  subst e_29
  refine r_p hq 3 (pc' := 38) (L' := [(5, .int R_29), (4, .int ((X1 <<< (V_8 &&& 31)) - V_4)), (3, .int (X1 <<< (V_8 &&& 31))), (2, .int V_4), (0, .ref 129), (1, .int X1)]) (st' := [.int ((2147483647 : Int32)), .int R_29]) rfl ?_
  rcases z_ite h with ⟨c_38, h⟩ | ⟨c_38, h⟩
  · refine r_t2 (pc' := 51) (L' := [(5, .int R_29), (4, .int ((X1 <<< (V_8 &&& 31)) - V_4)), (3, .int (X1 <<< (V_8 &&& 31))), (2, .int V_4), (0, .ref 129), (1, .int X1)]) hq (z_at.mk 3 rfl rfl) rfl hR_29 (rfl : (2147483647 : Int32).toInt = 2147483647) c_38 rfl rfl ?_
    refine r_p hq 2 (pc' := 54) (L' := [(5, .int R_29), (4, .int ((X1 <<< (V_8 &&& 31)) - V_4)), (3, .int (X1 <<< (V_8 &&& 31))), (2, .int V_4), (0, .ref 129), (1, .int X1)]) (st' := [.ref 129, .int R_29]) rfl ?_
    refine r_gI (pc' := 57) (L' := [(5, .int R_29), (4, .int ((X1 <<< (V_8 &&& 31)) - V_4)), (3, .int (X1 <<< (V_8 &&& 31))), (2, .int V_4), (0, .ref 129), (1, .int X1)]) H_29 hq (z_at.mk 3 rfl rfl) rfl rfl rfl rfl ?_
    intro V_54 hV_54
    refine r_p hq 1 (pc' := 58) (L' := [(5, .int R_29), (4, .int ((X1 <<< (V_8 &&& 31)) - V_4)), (3, .int (X1 <<< (V_8 &&& 31))), (2, .int V_4), (0, .ref 129), (1, .int X1)]) (st' := [.int (R_29 >>> (V_54 &&& 31))]) rfl ?_
    cases h
    exact r_ri hq (z_at.mk 1 rfl rfl) rfl rfl (tx_ishr hR_29 hV_54) rfl H_29
  · refine r_f2 (pc' := 41) (L' := [(5, .int R_29), (4, .int ((X1 <<< (V_8 &&& 31)) - V_4)), (3, .int (X1 <<< (V_8 &&& 31))), (2, .int V_4), (0, .ref 129), (1, .int X1)]) hq (z_at.mk 3 rfl rfl) rfl hR_29 (rfl : (2147483647 : Int32).toInt = 2147483647) c_38 rfl rfl ?_
    cases h
end
section
/-! 20b.sb -/
/-! THE PAPER GROWS: AbstractStringBuilder.ensureCapacityInternal, by hand over the small memory -/
def zgw (σ : zS) (x : Int) : zS := fun a i => if a = 169 ∧ i = 0 then (if x ≤ 2 * σ 169 0 + 2 then 2 * σ 169 0 + 2 else x) else if a = 168 ∧ ¬ (0 ≤ i ∧ i < σ 169 0) then 0 else σ a i
def g_sb_ensure (x : Int) (σ : zS) : Option (Unit × zS) := if 0 ≤ x ∧ x ≤ 60000 ∧ σ 129 1 = 0 then (if x ≤ σ 169 0 then some ((), σ) else some ((), zgw σ x)) else none
theorem w32_id {x : Int} (h1 : -2147483648 ≤ x) (h2 : x < 2147483648) : w32 x = x := by
  unfold w32 Int.bmod
  simp only [Nat.reducePow]
  split <;> omega
theorem iShl0 {x : Int} (h1 : -2147483648 ≤ x) (h2 : x < 2147483648) : iShl x 0 = x := by
  unfold iShl
  have h : (Int32.ofInt 0 &&& 31) = 0 := rfl
  rw [h]
  have h3 : Int32.ofInt x <<< (0 : Int32) = Int32.ofInt x := by simp
  rw [h3, Int32.toInt_ofInt]
  exact w32_id h1 h2
theorem iShr0 {x : Int} (h1 : -2147483648 ≤ x) (h2 : x < 2147483648) : iShr x 0 = x := by
  unfold iShr
  have h : (Int32.ofInt 0 &&& 31) = 0 := rfl
  rw [h]
  have h3 : Int32.ofInt x >>> (0 : Int32) = Int32.ofInt x := by simp
  rw [h3, Int32.toInt_ofInt]
  exact w32_id h1 h2
theorem g_cap_run {x : Int} {σ : zS} (h1 : 0 ≤ σ 169 0) (h2 : σ 169 0 < x) (h3 : x ≤ 60000) (h4 : σ 129 1 = 0) : g_jAbstractStringBuilder_newCapacity x σ = some (if x ≤ 2 * σ 169 0 + 2 then 2 * σ 169 0 + 2 else x, σ) := by
  unfold g_jAbstractStringBuilder_newCapacity g_jArraysSupport_newLength g_jMath_max_289
  simp only [h4]
  rw [iShl0 (by omega) (by omega), iShl0 (x := 2) (by omega) (by omega)]
  rw [w32_id (x := x - σ 169 0) (by omega) (by omega), w32_id (x := σ 169 0 + 2) (by omega) (by omega)]
  by_cases hc : x - σ 169 0 < σ 169 0 + 2
  · rw [if_pos hc, Option.bind_some, w32_id (by omega) (by omega), if_neg (by omega), if_neg (by omega), Option.bind_some, if_pos (by show σ 169 0 + (σ 169 0 + 2) ≠ 2147483647; omega)]
    show some (iShr (σ 169 0 + (σ 169 0 + 2)) (σ 129 1), σ) = _
    rw [h4, iShr0 (by show _ ≤ σ 169 0 + (σ 169 0 + 2); omega) (by show σ 169 0 + (σ 169 0 + 2) < _; omega), if_pos (by omega)]
    show some (σ 169 0 + (σ 169 0 + 2), σ) = _
    rw [show σ 169 0 + (σ 169 0 + 2) = 2 * σ 169 0 + 2 by omega]
  · rw [if_neg hc, Option.bind_some, w32_id (by omega) (by omega), if_neg (by omega), if_neg (by omega), Option.bind_some, if_pos (by show σ 169 0 + (x - σ 169 0) ≠ 2147483647; omega)]
    show some (iShr (σ 169 0 + (x - σ 169 0)) (σ 129 1), σ) = _
    rw [h4, iShr0 (by show _ ≤ σ 169 0 + (x - σ 169 0); omega) (by show σ 169 0 + (x - σ 169 0) < _; omega)]
    show some (σ 169 0 + (x - σ 169 0), σ) = _
    by_cases he : x ≤ 2 * σ 169 0 + 2
    · rw [if_pos he, show σ 169 0 + (x - σ 169 0) = 2 * σ 169 0 + 2 by omega]
    · rw [if_neg he, show σ 169 0 + (x - σ 169 0) = x by omega]
theorem min_ev {A B : Int32} {μ : zM} (h : A.toInt ≤ B.toInt) : z_Ev 1 291 0 (z_can 291 0 (lv_args 0 [.int A, .int B])) [] μ (some (.int A)) μ := by
  have hq : z_mth 291 = some z_r291 := rfl
  show z_Ev 1 291 0 [(0, .int A), (1, .int B)] [] μ (some (.int A)) μ
  refine ev_r hq 2 (pc' := 2) (L' := [(0, .int A), (1, .int B)]) (st' := [.int B, .int A]) (μ2 := μ) rfl ?_
  refine ev_f2 (pc' := 5) (L' := [(0, .int A), (1, .int B)]) hq (z_at.mk 3 rfl rfl) rfl (Bool.eq_false_iff.mpr (fun hh => ?_)) rfl rfl ?_
  · have : B.toInt < A.toInt := (zP_c (o := .gt) rfl rfl).mp hh
    omega
  · refine ev_r hq 2 (pc' := 10) (L' := []) (st' := [.int A]) (μ2 := μ) rfl ?_
    exact ev_ri hq (z_at.mk 1 rfl rfl) rfl rfl
theorem copyOf_ev {m : zM} {p cap n : Nat} {N : Int32} (hp : m.1[p]? = some (2, cap)) (hN : N.toInt = n) (hc : cap < n) (hn : n ≤ 200000) (hl : 39 ≤ m.1.length) : z_Ev 5 316 0 (z_can 316 0 (lv_args 0 [.ref p, .int N])) [] m (some (.ref m.1.length)) (m.1 ++ [(2, n)], z_nw (z_nw m.2 m.1.length (fun _ => .int 0)) m.1.length (z_cpy (m.2 p) (fun _ => .int 0) 0 0 cap)) := by
  have hq : z_mth 316 = some z_r316 := rfl
  have hN' : N.toNatClampNeg = n := by
    show N.toInt.toNat = n
    omega
  have hpl : p < m.1.length := (List.getElem?_eq_some_iff.mp hp).1
  have t1 : z_tg m p = 2 := by unfold z_tg; rw [hp]; rfl
  have n1 : z_n m p = cap := by unfold z_n; rw [hp]; rfl
  have hle : z_le m p = some (Int32.ofNat cap) := by unfold z_le; rw [t1, n1]; rfl
  have hci : (Int32.ofNat cap).toInt = cap := Int32.toInt_ofNat_of_lt (by omega)
  show z_Ev 5 316 0 [(0, .ref p), (1, .int N)] [] m _ _
  refine ev_r hq 2 (pc' := 2) (L' := [(0, .ref p), (1, .int N)]) (st' := [.ref p, .int N]) (μ2 := m) rfl ?_
  refine ev_le (pc' := 3) (L' := [(0, .ref p), (1, .int N)]) hq (z_at.mk 1 rfl rfl) hle rfl rfl ?_
  refine ev_t2 (pc' := 14) (L' := [(0, .ref p), (1, .int N)]) hq (z_at.mk 3 rfl rfl) rfl ((zP_c (o := .ne) hN hci).mpr (show (n : Int) ≠ cap by omega)) rfl rfl ?_
  refine ev_r hq 1 (pc' := 15) (L' := [(0, .ref p), (1, .int N)]) (st' := [.int N]) (μ2 := m) rfl ?_
  refine ev_ma (t := .byte) (ti := 2) (o := (m.1.length, z_al m 2 n (fun _ => .int 0))) (pc' := 17) (L' := [(0, .ref p), (1, .int N)]) hq (z_at.mk 2 rfl rfl) rfl (by unfold z_ma; rw [if_pos ⟨by omega, by omega⟩, hN']; rfl) rfl rfl ?_
  generalize hm1 : z_al m 2 n (fun _ => .int 0) = m1
  have hp1 : m1.1[p]? = some (2, cap) := by
    rw [← hm1]
    show (m.1 ++ [_])[p]? = _
    rw [List.getElem?_append_left hpl]; exact hp
  have hq1 : m1.1[m.1.length]? = some (2, n) := by
    rw [← hm1]
    show (m.1 ++ [_])[m.1.length]? = _
    rw [List.getElem?_append_right (Nat.le_refl _), Nat.sub_self]; rfl
  have t2 : z_tg m1 p = 2 := by unfold z_tg; rw [hp1]; rfl
  have n2 : z_n m1 p = cap := by unfold z_n; rw [hp1]; rfl
  have t3 : z_tg m1 m.1.length = 2 := by unfold z_tg; rw [hq1]; rfl
  have n3 : z_n m1 m.1.length = n := by unfold z_n; rw [hq1]; rfl
  have hle1 : z_le m1 p = some (Int32.ofNat cap) := by unfold z_le; rw [t2, n2]; rfl
  have hc' : (Int32.ofNat cap).toNatClampNeg = cap := by
    show (Int32.ofNat cap).toInt.toNat = cap
    omega
  refine ev_r hq 6 (pc' := 23) (L' := [(2, .ref m.1.length), (0, .ref p), (1, .int N)]) (st' := [.ref p, .int (0 : Int32), .ref m.1.length, .int (0 : Int32), .ref p]) (μ2 := m1) rfl ?_
  refine ev_le (pc' := 24) (L' := [(2, .ref m.1.length), (0, .ref p), (1, .int N)]) hq (z_at.mk 1 rfl rfl) hle1 rfl rfl ?_
  refine ev_r hq 1 (pc' := 25) (L' := [(2, .ref m.1.length), (0, .ref p), (1, .int N)]) (st' := [.int N, .int (Int32.ofNat cap), .int (0 : Int32), .ref m.1.length, .int (0 : Int32), .ref p]) (μ2 := m1) rfl ?_
  refine ev_cs (dc := 1) (pc' := 28) (L' := [(2, .ref m.1.length), (0, .ref p), (1, .int N)]) (st' := [.int (Int32.ofNat cap), .int (0 : Int32), .ref m.1.length, .int (0 : Int32), .ref p]) (As := [.int (Int32.ofNat cap), .int N]) (rest := [.int (0 : Int32), .ref m.1.length, .int (0 : Int32), .ref p]) (j := 291) (u := some (.int (Int32.ofNat cap))) (μ2 := m1) hq (z_at.mk 3 rfl rfl) (Or.inl ⟨rfl, rfl⟩) rfl rfl (by omega) (min_ev (by omega)) rfl rfl rfl ?_
  refine ev_cp (pc' := 31) (L' := [(2, .ref m.1.length), (0, .ref p), (1, .int N)]) (μ2 := (m1.1, z_nw m1.2 m.1.length (z_cpy (m1.2 p) (m1.2 m.1.length) 0 0 cap))) hq (z_at.mk 3 rfl rfl) rfl (by decide) (by unfold z_cp; rw [hc', t2, t3, n2, n3, if_pos ⟨hl, rfl, by decide, by decide, by decide, by omega, by show 0 + cap ≤ cap; omega, by show 0 + cap ≤ n; omega⟩]; rfl) rfl rfl ?_
  refine ev_r hq 1 (pc' := 32) (L' := [(2, .ref m.1.length), (0, .ref p), (1, .int N)]) (st' := [.ref m.1.length]) (μ2 := (m1.1, z_nw m1.2 m.1.length (z_cpy (m1.2 p) (m1.2 m.1.length) 0 0 cap))) rfl ?_
  have hfin : (m1.1, z_nw m1.2 m.1.length (z_cpy (m1.2 p) (m1.2 m.1.length) 0 0 cap)) = ((m.1 ++ [(2, n)], z_nw (z_nw m.2 m.1.length (fun _ => .int 0)) m.1.length (z_cpy (m.2 p) (fun _ => .int 0) 0 0 cap)) : zM) := by
    rw [← hm1]
    have e1 : (z_al m 2 n (fun _ => Value.int 0)).2 p = m.2 p := funext fun j => if_neg (by omega)
    have e2 : (z_al m 2 n (fun _ => Value.int 0)).2 m.1.length = (fun _ => Value.int 0) := funext fun j => if_pos rfl
    rw [e1, e2]
    rfl
  rw [hfin]
  exact ev_ra hq (z_at.mk 1 rfl rfl) rfl
theorem z_slt_app (m : zM) (n : Nat) (g : Nat → Nat → Value) : z_slt (m.1 ++ [(2, n)], g) = z_slt m + n := by
  have := z_slt_al m 2 n (fun _ => .int 0)
  exact this
set_option maxHeartbeats 4000000 in
theorem g_sb_ensure_ok {xl : Nat} {xs : Nat → Int32} {X1 : Int32} {x1 : Int} (hx1 : X1.toInt = x1) {σ : zS} {p : Nat} {m : zM} {o : Unit × zS} (H : zRep xl xs p m σ) (h : g_sb_ensure x1 σ = some o) : zGo xl xs (fun _ => True) 10 274 0 (z_can 274 0 (lv_args 0 [.ref 129, .int X1])) [] m vV o.2 := by
  have hq : z_mth 274 = some z_r274 := rfl
  have hpg := H.pg
  unfold g_sb_ensure at h
  obtain ⟨⟨b1, b2, b3⟩, h⟩ := z_ifo_some h
  show zGo xl xs (fun _ => True) 10 274 0 [(0, .ref 129), (1, .int X1)] [] m vV o.2
  refine r_p hq 1 (pc' := 1) (L' := [(0, .ref 129), (1, .int X1)]) (st' := [.ref 129]) rfl ?_
  refine r_gP (pc' := 4) (L' := [(0, .ref 129), (1, .int X1)]) H hq (z_at.mk 3 rfl rfl) rfl rfl rfl ?_
  refine r_leP (pc' := 5) (L' := [(0, .ref 129), (1, .int X1)]) H hq (z_at.mk 1 rfl rfl) rfl rfl ?_
  intro V hV
  refine r_p hq 1 (pc' := 6) (L' := [(0, .ref 129), (1, .int X1)]) (st' := [.ref 129, .int V]) rfl ?_
  refine r_gI (pc' := 9) (L' := [(0, .ref 129), (1, .int X1)]) H hq (z_at.mk 3 rfl rfl) rfl rfl rfl rfl ?_
  intro C hC
  obtain rfl : C = 0 := zi_lit (hC.trans b3) rfl
  refine r_p hq 5 (pc' := 14) (L' := [(2, .int (V >>> ((0 : Int32) &&& 31))), (0, .ref 129), (1, .int X1)]) (st' := [.int (X1 - (V >>> ((0 : Int32) &&& 31)))]) rfl ?_
  have hS : (V >>> ((0 : Int32) &&& 31)).toInt = σ 169 0 := (tx_ishr hV (rfl : (0 : Int32).toInt = 0)).trans (iShr0 (by omega) (by omega))
  by_cases hx : x1 ≤ σ 169 0
  · rw [if_pos hx] at h
    cases h
    refine r_t1 (pc' := 38) (L' := []) hq (z_at.mk 3 rfl rfl) rfl (tx_isub hx1 hS) (show w32 (x1 - σ 169 0) ≤ 0 by rw [w32_id (by omega) (by omega)]; omega) rfl rfl ?_
    exact r_rv hq (z_at.mk 1 rfl rfl) rfl trivial H
  · rw [if_neg hx] at h
    cases h
    refine r_f1 (pc' := 17) (L' := [(2, .int (V >>> ((0 : Int32) &&& 31))), (0, .ref 129), (1, .int X1)]) hq (z_at.mk 3 rfl rfl) rfl (tx_isub hx1 hS) (show ¬ w32 (x1 - σ 169 0) ≤ 0 by rw [w32_id (by omega) (by omega)]; omega) rfl rfl ?_
    refine r_p hq 2 (pc' := 19) (L' := [(2, .int (V >>> ((0 : Int32) &&& 31))), (0, .ref 129), (1, .int X1)]) (st' := [.ref 129, .ref 129]) rfl ?_
    refine r_gP (pc' := 22) (L' := [(2, .int (V >>> ((0 : Int32) &&& 31))), (0, .ref 129), (1, .int X1)]) H hq (z_at.mk 3 rfl rfl) rfl rfl rfl ?_
    refine r_p hq 2 (pc' := 24) (L' := [(2, .int (V >>> ((0 : Int32) &&& 31))), (0, .ref 129), (1, .int X1)]) (st' := [.int X1, .ref 129, .ref p, .ref 129]) rfl ?_
    obtain ⟨cap, g1, g2, g3, g4, g5, g6, g7, g8, g9⟩ := id H.2.2.2
    have hrun := g_cap_run (x := x1) (σ := σ) (by omega) (by omega) b2 b3
    refine r_cvI (pc' := 27) (L' := [(2, .int (V >>> ((0 : Int32) &&& 31))), (0, .ref 129), (1, .int X1)]) (Ps := [.int X1]) (rest := [.ref p, .ref 129]) hq (z_at.mk 3 rfl rfl) (Or.inl ⟨rfl, rfl⟩) rfl rfl (by decide) (by decide) rfl (Nat.not_lt.mpr (Nat.le_of_ble_eq_true rfl)) rfl rfl (z_cat_le 2 rfl (by decide)) (z_lgl_le 2 rfl (by decide)) (by decide) (H.tg rfl) (by omega) (g_jAbstractStringBuilder_newCapacity_ok hx1 H hrun) rfl rfl ?_
    intro R m1 p1 e1 hR H1
    subst e1
    generalize hn : (if x1 ≤ 2 * σ 169 0 + 2 then 2 * σ 169 0 + 2 else x1) = n at hR
    have hn1 : σ 169 0 < n ∧ n ≤ 120002 ∧ 3 * σ 169 0 ≤ 2 * n := by
      rw [← hn]
      split <;> omega
    refine r_p hq 1 (pc' := 28) (L' := [(2, .int (V >>> ((0 : Int32) &&& 31))), (0, .ref 129), (1, .int X1)]) (st' := [.ref 129, .int R, .ref p, .ref 129]) rfl ?_
    refine r_gI (pc' := 31) (L' := [(2, .int (V >>> ((0 : Int32) &&& 31))), (0, .ref 129), (1, .int X1)]) H1 hq (z_at.mk 3 rfl rfl) rfl rfl rfl rfl ?_
    intro C2 hC2
    obtain rfl : C2 = 0 := zi_lit (hC2.trans b3) rfl
    refine r_p hq 1 (pc' := 32) (L' := [(2, .int (V >>> ((0 : Int32) &&& 31))), (0, .ref 129), (1, .int X1)]) (st' := [.int (R <<< ((0 : Int32) &&& 31)), .ref p, .ref 129]) rfl ?_
    have hR2 : (R <<< ((0 : Int32) &&& 31)).toInt = n := (tx_ishl hR (rfl : (0 : Int32).toInt = 0)).trans (iShl0 (by omega) (by omega))
    generalize R <<< ((0 : Int32) &&& 31) = N at hR2
    replace H1 : zRep xl xs p m1 σ := H1
    obtain ⟨H11, H12, H13, cap1, k1, k2, k3, k4, k5, k6, k7, k8, k9⟩ := H1
    have hcp := copyOf_ev (n := n.toNat) k3 (hR2.trans (by omega)) (by omega) (by omega) (by omega)
    generalize hm2 : ((m1.1 ++ [(2, n.toNat)], z_nw (z_nw m1.2 m1.1.length (fun _ => .int 0)) m1.1.length (z_cpy (m1.2 p) (fun _ => .int 0) 0 0 cap1)) : zM) = m2 at hcp
    have sh2 : ∀ b, b < m1.1.length → m2.1[b]? = m1.1[b]? := fun b hb => by rw [← hm2]; exact List.getElem?_append_left hb
    have ct2 : ∀ b, b ≠ m1.1.length → m2.2 b = m1.2 b := fun b hb => by
      rw [← hm2]
      exact funext fun j => (if_neg hb).trans (if_neg hb)
    have tg2 : z_tg m2 129 = 23 := by
      unfold z_tg
      rw [sh2 129 (by omega), H12 129 (by omega) (by omega) (by omega)]
      rfl
    refine ⟨none, z_wr m2 129 0 (.ref m1.1.length), m1.1.length, ?_, rfl, trivial, ?_⟩
    · refine ev_cs (dc := 5) (pc' := 35) (L' := [(2, .int (V >>> ((0 : Int32) &&& 31))), (0, .ref 129), (1, .int X1)]) (st' := [.ref m1.1.length, .ref 129]) (As := [.ref p, .int N]) (rest := [.ref 129]) (j := 316) (u := some (.ref m1.1.length)) (μ2 := m2) hq (z_at.mk 3 rfl rfl) (Or.inl ⟨rfl, rfl⟩) rfl rfl (by omega) hcp rfl rfl rfl ?_
      refine ev_pf (pc' := 38) (L' := []) hq (z_at.mk 3 rfl rfl) rfl (by decide) rfl (Or.inl rfl) (show z_pf m2 23 129 0 (.ref m1.1.length) = some (z_wr m2 129 0 (.ref m1.1.length)) from if_pos ⟨by decide, tg2⟩) rfl rfl ?_
      exact ev_rv hq (z_at.mk 1 rfl rfl) rfl
    · show zRep xl xs m1.1.length (z_wr m2 129 0 (.ref m1.1.length)) (zgw σ x1)
      have ew : ∀ b, b ≠ 129 → (z_wr m2 129 0 (.ref m1.1.length)).2 b = m2.2 b := fun b hb => funext fun j => if_neg hb
      refine ⟨fun b hb => ⟨?_, fun j => ?_⟩, fun b hb1 hb2 hb3 => ?_, fun b hb1 hb2 hb3 i hi => ?_, n.toNat, ?_, Or.inr k7, ?_, ?_, fun j hj => ?_, by omega, ?_, ?_, ?_⟩
      · show m2.1[b]? = _
        rw [sh2 b (by omega)]; exact (H11 b hb).1
      · rw [ew b (by omega), ct2 b (by omega)]; exact (H11 b hb).2 j
      · show m2.1[b]? = _
        rw [sh2 b (by omega)]; exact H12 b hb1 hb2 hb3
      · have ez : zgw σ x1 b i = σ b i := by
          unfold zgw
          rw [if_neg (fun h => by omega), if_neg (fun h => by omega)]
        rw [ez]
        by_cases h129 : b = 129
        · subst h129
          show zCell _ (if 129 = 129 then (if i = 0 then .ref m1.1.length else m2.2 129 i) else m2.2 129 i) _
          rw [if_pos rfl]
          by_cases hi0 : i = 0
          · subst hi0
            exact trivial
          · rw [if_neg hi0, ct2 129 (by omega)]; exact H13 129 hb1 hb2 hb3 i hi
        · rw [ew b h129, ct2 b (by omega)]; exact H13 b hb1 hb2 hb3 i hi
      · show (if 129 = 129 then (if 0 = 0 then Value.ref m1.1.length else m2.2 129 0) else m2.2 129 0) = _
        rw [if_pos rfl, if_pos rfl]
      · show m2.1[m1.1.length]? = _
        rw [← hm2]
        show (m1.1 ++ [_])[m1.1.length]? = _
        rw [List.getElem?_append_right (Nat.le_refl _), Nat.sub_self]; rfl
      · show _ = zgw σ x1 169 0
        unfold zgw
        rw [if_pos ⟨rfl, rfl⟩, hn]
        omega
      · rw [ew _ (by omega)]
        have e1 : m2.2 m1.1.length j = (if 0 ≤ j ∧ j < 0 + cap1 then m1.2 p (0 + (j - 0)) else Value.int 0) := by
          rw [← hm2]
          show (if m1.1.length = m1.1.length then _ else _) = _
          rw [if_pos rfl]
          rfl
        rw [e1]
        show ∃ X, _ = Value.int X ∧ X.toInt = (if (168 : Nat) = 169 ∧ (j : Int) = 0 then _ else if 168 = 168 ∧ ¬ (0 ≤ (j : Int) ∧ (j : Int) < σ 169 0) then 0 else σ 168 j)
        rw [if_neg (show ¬ ((168 : Nat) = 169 ∧ (j : Int) = 0) from fun h => absurd h.1 (by decide))]
        by_cases hj2 : j < cap1
        · rw [if_pos (show 0 ≤ j ∧ j < 0 + cap1 from ⟨by omega, by omega⟩), if_neg (show ¬ (168 = 168 ∧ ¬ (0 ≤ (j : Int) ∧ (j : Int) < σ 169 0)) from fun h => h.2 ⟨by omega, by omega⟩), show 0 + (j - 0) = j by omega]
          exact k5 j hj2
        · rw [if_neg (show ¬ (0 ≤ j ∧ j < 0 + cap1) from fun h => hj2 (by omega)), if_pos (show 168 = 168 ∧ ¬ (0 ≤ (j : Int) ∧ (j : Int) < σ 169 0) from ⟨rfl, fun h => hj2 (by omega)⟩)]
          exact ⟨0, rfl, rfl⟩
      · show 168 ≤ m2.1.length
        rw [← hm2]; simp; omega
      · show m2.1.length ≤ _
        rw [← hm2]; simp; omega
      · show z_slt m2 ≤ _
        rw [← hm2, z_slt_app]
        omega
end
section
/-! 21.g00 -/
/-! THE METHODS over the typed memory, 0 (by wip/zg.py) -/
def g_b_isPlace (x0 : Int) (x1 : Int) (σ : zS) : Option (Int × zS) :=
  if x0 < 0 then
    some (0, σ)
  else
    if 32 ≤ x0 then
      some (0, σ)
    else
      if x1 < 0 then
        some (0, σ)
      else
        if 32 ≤ x1 then
          some (0, σ)
        else
          some (1, σ)
set_option maxHeartbeats 4000000 in
theorem g_b_isPlace_ok {xl : Nat} {xs : Nat → Int32} {X0 : Int32} {x0 : Int} (hx0 : X0.toInt = x0) {X1 : Int32} {x1 : Int} (hx1 : X1.toInt = x1) {σ : zS} {p : Nat} {m : zM} {o : Int × zS} (H : zRep xl xs p m σ) (h : g_b_isPlace x0 x1 σ = some o) : zGo xl xs (fun p' => p = p') 1 0 0 (z_can 0 0 (lv_args 0 [.int X0, .int X1])) [] m (vI o.1) o.2 := by
  have hq : z_mth 0 = some z_r0 := rfl
  unfold g_b_isPlace at h
  show zGo xl xs (fun p' => p = p') 1 0 0 [(0, .int X0), (1, .int X1)] [] m (vI o.1) o.2
  refine r_p hq 1 (pc' := 1) (L' := [(0, .int X0), (1, .int X1)]) (st' := [.int X0]) rfl ?_
  rcases z_ite h with ⟨c_1, h⟩ | ⟨c_1, h⟩
  · refine r_t1 (pc' := 24) (L' := []) hq (z_at.mk 3 rfl rfl) rfl hx0 c_1 rfl rfl ?_
    refine r_p hq 1 (pc' := 25) (L' := []) (st' := [.int ((0 : Int32))]) rfl ?_
    cases h
    exact r_ri hq (z_at.mk 1 rfl rfl) rfl rfl (rfl : (0 : Int32).toInt = 0) rfl H
  · refine r_f1 (pc' := 4) (L' := [(0, .int X0), (1, .int X1)]) hq (z_at.mk 3 rfl rfl) rfl hx0 c_1 rfl rfl ?_
    refine r_p hq 2 (pc' := 7) (L' := [(0, .int X0), (1, .int X1)]) (st' := [.int ((32 : Int32)), .int X0]) rfl ?_
    rcases z_ite h with ⟨c_7, h⟩ | ⟨c_7, h⟩
    · refine r_t2 (pc' := 24) (L' := []) hq (z_at.mk 3 rfl rfl) rfl hx0 (rfl : (32 : Int32).toInt = 32) c_7 rfl rfl ?_
      refine r_p hq 1 (pc' := 25) (L' := []) (st' := [.int ((0 : Int32))]) rfl ?_
      cases h
      exact r_ri hq (z_at.mk 1 rfl rfl) rfl rfl (rfl : (0 : Int32).toInt = 0) rfl H
    · refine r_f2 (pc' := 10) (L' := [(0, .int X0), (1, .int X1)]) hq (z_at.mk 3 rfl rfl) rfl hx0 (rfl : (32 : Int32).toInt = 32) c_7 rfl rfl ?_
      refine r_p hq 1 (pc' := 11) (L' := [(0, .int X0), (1, .int X1)]) (st' := [.int X1]) rfl ?_
      rcases z_ite h with ⟨c_11, h⟩ | ⟨c_11, h⟩
      · refine r_t1 (pc' := 24) (L' := []) hq (z_at.mk 3 rfl rfl) rfl hx1 c_11 rfl rfl ?_
        refine r_p hq 1 (pc' := 25) (L' := []) (st' := [.int ((0 : Int32))]) rfl ?_
        cases h
        exact r_ri hq (z_at.mk 1 rfl rfl) rfl rfl (rfl : (0 : Int32).toInt = 0) rfl H
      · refine r_f1 (pc' := 14) (L' := [(0, .int X0), (1, .int X1)]) hq (z_at.mk 3 rfl rfl) rfl hx1 c_11 rfl rfl ?_
        refine r_p hq 2 (pc' := 17) (L' := [(0, .int X0), (1, .int X1)]) (st' := [.int ((32 : Int32)), .int X1]) rfl ?_
        rcases z_ite h with ⟨c_17, h⟩ | ⟨c_17, h⟩
        · refine r_t2 (pc' := 24) (L' := []) hq (z_at.mk 3 rfl rfl) rfl hx1 (rfl : (32 : Int32).toInt = 32) c_17 rfl rfl ?_
          refine r_p hq 1 (pc' := 25) (L' := []) (st' := [.int ((0 : Int32))]) rfl ?_
          cases h
          exact r_ri hq (z_at.mk 1 rfl rfl) rfl rfl (rfl : (0 : Int32).toInt = 0) rfl H
        · refine r_f2 (pc' := 20) (L' := [(0, .int X0), (1, .int X1)]) hq (z_at.mk 3 rfl rfl) rfl hx1 (rfl : (32 : Int32).toInt = 32) c_17 rfl rfl ?_
          refine r_p hq 2 (pc' := 25) (L' := []) (st' := [.int ((1 : Int32))]) rfl ?_
          cases h
          exact r_ri hq (z_at.mk 1 rfl rfl) rfl rfl (rfl : (1 : Int32).toInt = 1) rfl H
def g_b_isBox (x0 : Int) (x1 : Int) (x2 : Int) (x3 : Int) (σ : zS) : Option (Int × zS) :=
  (g_b_isPlace x0 x2 σ).bind fun o_2 =>
  if o_2.1 = 0 then
    some (0, o_2.2)
  else
    (g_b_isPlace x1 x3 o_2.2).bind fun o_10 =>
    if o_10.1 = 0 then
      some (0, o_10.2)
    else
      if x1 < x0 then
        some (0, o_10.2)
      else
        if x3 < x2 then
          some (0, o_10.2)
        else
          some (1, o_10.2)
set_option maxHeartbeats 4000000 in
theorem g_b_isBox_ok {xl : Nat} {xs : Nat → Int32} {X0 : Int32} {x0 : Int} (hx0 : X0.toInt = x0) {X1 : Int32} {x1 : Int} (hx1 : X1.toInt = x1) {X2 : Int32} {x2 : Int} (hx2 : X2.toInt = x2) {X3 : Int32} {x3 : Int} (hx3 : X3.toInt = x3) {σ : zS} {p : Nat} {m : zM} {o : Int × zS} (H : zRep xl xs p m σ) (h : g_b_isBox x0 x1 x2 x3 σ = some o) : zGo xl xs (fun p' => p = p') 2 1 0 (z_can 1 0 (lv_args 0 [.int X0, .int X1, .int X2, .int X3])) [] m (vI o.1) o.2 := by
  have hq : z_mth 1 = some z_r1 := rfl
  unfold g_b_isBox at h
  show zGo xl xs (fun p' => p = p') 2 1 0 [(0, .int X0), (1, .int X1), (2, .int X2), (3, .int X3)] [] m (vI o.1) o.2
  refine r_p hq 2 (pc' := 2) (L' := [(0, .int X0), (1, .int X1), (2, .int X2), (3, .int X3)]) (st' := [.int X2, .int X0]) rfl ?_
  obtain ⟨o_2, h_2, h⟩ := Option.bind_eq_some_iff.mp h
  refine r_csI (pc' := 5) (L' := [(0, .int X0), (1, .int X1), (2, .int X2), (3, .int X3)]) (As := [.int X0, .int X2]) (rest := []) (j := 0) hq (z_at.mk 3 rfl rfl) (Or.inl ⟨rfl, rfl⟩) rfl rfl (by omega) (g_b_isPlace_ok hx0 hx2 H h_2) rfl rfl ?_
  intro R_2 m_2 p_2 e_2 hR_2 H_2
  subst e_2
  rcases z_ite h with ⟨c_5, h⟩ | ⟨c_5, h⟩
  · refine r_t1 (pc' := 30) (L' := []) hq (z_at.mk 3 rfl rfl) rfl hR_2 c_5 rfl rfl ?_
    refine r_p hq 1 (pc' := 31) (L' := []) (st' := [.int ((0 : Int32))]) rfl ?_
    cases h
    exact r_ri hq (z_at.mk 1 rfl rfl) rfl rfl (rfl : (0 : Int32).toInt = 0) rfl H_2
  · refine r_f1 (pc' := 8) (L' := [(0, .int X0), (1, .int X1), (2, .int X2), (3, .int X3)]) hq (z_at.mk 3 rfl rfl) rfl hR_2 c_5 rfl rfl ?_
    refine r_p hq 2 (pc' := 10) (L' := [(0, .int X0), (1, .int X1), (2, .int X2), (3, .int X3)]) (st' := [.int X3, .int X1]) rfl ?_
    obtain ⟨o_10, h_10, h⟩ := Option.bind_eq_some_iff.mp h
    refine r_csI (pc' := 13) (L' := [(0, .int X0), (1, .int X1), (2, .int X2), (3, .int X3)]) (As := [.int X1, .int X3]) (rest := []) (j := 0) hq (z_at.mk 3 rfl rfl) (Or.inl ⟨rfl, rfl⟩) rfl rfl (by omega) (g_b_isPlace_ok hx1 hx3 H_2 h_10) rfl rfl ?_
    intro R_10 m_10 p_10 e_10 hR_10 H_10
    subst e_10
    rcases z_ite h with ⟨c_13, h⟩ | ⟨c_13, h⟩
    · refine r_t1 (pc' := 30) (L' := []) hq (z_at.mk 3 rfl rfl) rfl hR_10 c_13 rfl rfl ?_
      refine r_p hq 1 (pc' := 31) (L' := []) (st' := [.int ((0 : Int32))]) rfl ?_
      cases h
      exact r_ri hq (z_at.mk 1 rfl rfl) rfl rfl (rfl : (0 : Int32).toInt = 0) rfl H_10
    · refine r_f1 (pc' := 16) (L' := [(0, .int X0), (1, .int X1), (2, .int X2), (3, .int X3)]) hq (z_at.mk 3 rfl rfl) rfl hR_10 c_13 rfl rfl ?_
      refine r_p hq 2 (pc' := 18) (L' := [(0, .int X0), (1, .int X1), (2, .int X2), (3, .int X3)]) (st' := [.int X1, .int X0]) rfl ?_
      rcases z_ite h with ⟨c_18, h⟩ | ⟨c_18, h⟩
      · refine r_t2 (pc' := 30) (L' := []) hq (z_at.mk 3 rfl rfl) rfl hx0 hx1 c_18 rfl rfl ?_
        refine r_p hq 1 (pc' := 31) (L' := []) (st' := [.int ((0 : Int32))]) rfl ?_
        cases h
        exact r_ri hq (z_at.mk 1 rfl rfl) rfl rfl (rfl : (0 : Int32).toInt = 0) rfl H_10
      · refine r_f2 (pc' := 21) (L' := [(0, .int X0), (1, .int X1), (2, .int X2), (3, .int X3)]) hq (z_at.mk 3 rfl rfl) rfl hx0 hx1 c_18 rfl rfl ?_
        refine r_p hq 2 (pc' := 23) (L' := [(0, .int X0), (1, .int X1), (2, .int X2), (3, .int X3)]) (st' := [.int X3, .int X2]) rfl ?_
        rcases z_ite h with ⟨c_23, h⟩ | ⟨c_23, h⟩
        · refine r_t2 (pc' := 30) (L' := []) hq (z_at.mk 3 rfl rfl) rfl hx2 hx3 c_23 rfl rfl ?_
          refine r_p hq 1 (pc' := 31) (L' := []) (st' := [.int ((0 : Int32))]) rfl ?_
          cases h
          exact r_ri hq (z_at.mk 1 rfl rfl) rfl rfl (rfl : (0 : Int32).toInt = 0) rfl H_10
        · refine r_f2 (pc' := 26) (L' := [(0, .int X0), (1, .int X1), (2, .int X2), (3, .int X3)]) hq (z_at.mk 3 rfl rfl) rfl hx2 hx3 c_23 rfl rfl ?_
          refine r_p hq 2 (pc' := 31) (L' := []) (st' := [.int ((1 : Int32))]) rfl ?_
          cases h
          exact r_ri hq (z_at.mk 1 rfl rfl) rfl rfl (rfl : (1 : Int32).toInt = 1) rfl H_10
def g_b_of (x0 : Int) (x1 : Int) (x2 : Int) (x3 : Int) (σ : zS) : Option (Int × zS) :=
  some (iOr (iOr (iOr x0 (iShl x1 5)) (iShl x2 10)) (iShl x3 15), σ)
set_option maxHeartbeats 4000000 in
theorem g_b_of_ok {xl : Nat} {xs : Nat → Int32} {X0 : Int32} {x0 : Int} (hx0 : X0.toInt = x0) {X1 : Int32} {x1 : Int} (hx1 : X1.toInt = x1) {X2 : Int32} {x2 : Int} (hx2 : X2.toInt = x2) {X3 : Int32} {x3 : Int} (hx3 : X3.toInt = x3) {σ : zS} {p : Nat} {m : zM} {o : Int × zS} (H : zRep xl xs p m σ) (h : g_b_of x0 x1 x2 x3 σ = some o) : zGo xl xs (fun p' => p = p') 1 2 0 (z_can 2 0 (lv_args 0 [.int X0, .int X1, .int X2, .int X3])) [] m (vI o.1) o.2 := by
  have hq : z_mth 2 = some z_r2 := rfl
  unfold g_b_of at h
  show zGo xl xs (fun p' => p = p') 1 2 0 [(0, .int X0), (1, .int X1), (2, .int X2), (3, .int X3)] [] m (vI o.1) o.2
  refine r_p hq 13 (pc' := 15) (L' := [(0, .int X0), (1, .int X1), (2, .int X2), (3, .int X3)]) (st' := [.int (((X0 ||| (X1 <<< (((5 : Int32)) &&& 31))) ||| (X2 <<< (((10 : Int32)) &&& 31))) ||| (X3 <<< (((15 : Int32)) &&& 31)))]) rfl ?_
  cases h
  exact r_ri hq (z_at.mk 1 rfl rfl) rfl rfl (tx_ior (tx_ior (tx_ior hx0 (tx_ishl hx1 (rfl : (5 : Int32).toInt = 5))) (tx_ishl hx2 (rfl : (10 : Int32).toInt = 10))) (tx_ishl hx3 (rfl : (15 : Int32).toInt = 15))) rfl H
def g_b_side (x0 : Int) (x1 : Int) (σ : zS) : Option (Int × zS) :=
  some (iAnd (iShr x0 (w32 (5 * x1))) 31, σ)
set_option maxHeartbeats 4000000 in
theorem g_b_side_ok {xl : Nat} {xs : Nat → Int32} {X0 : Int32} {x0 : Int} (hx0 : X0.toInt = x0) {X1 : Int32} {x1 : Int} (hx1 : X1.toInt = x1) {σ : zS} {p : Nat} {m : zM} {o : Int × zS} (H : zRep xl xs p m σ) (h : g_b_side x0 x1 σ = some o) : zGo xl xs (fun p' => p = p') 1 3 0 (z_can 3 0 (lv_args 0 [.int X0, .int X1])) [] m (vI o.1) o.2 := by
  have hq : z_mth 3 = some z_r3 := rfl
  unfold g_b_side at h
  show zGo xl xs (fun p' => p = p') 1 3 0 [(0, .int X0), (1, .int X1)] [] m (vI o.1) o.2
  refine r_p hq 7 (pc' := 8) (L' := [(0, .int X0), (1, .int X1)]) (st' := [.int ((X0 >>> ((((5 : Int32)) * X1) &&& 31)) &&& ((31 : Int32)))]) rfl ?_
  cases h
  exact r_ri hq (z_at.mk 1 rfl rfl) rfl rfl (tx_iand (tx_ishr hx0 (tx_imul (rfl : (5 : Int32).toInt = 5) hx1)) (rfl : (31 : Int32).toInt = 31)) rfl H
def g_b_x0 (x0 : Int) (σ : zS) : Option (Int × zS) :=
  some (iAnd x0 31, σ)
set_option maxHeartbeats 4000000 in
theorem g_b_x0_ok {xl : Nat} {xs : Nat → Int32} {X0 : Int32} {x0 : Int} (hx0 : X0.toInt = x0) {σ : zS} {p : Nat} {m : zM} {o : Int × zS} (H : zRep xl xs p m σ) (h : g_b_x0 x0 σ = some o) : zGo xl xs (fun p' => p = p') 1 4 0 (z_can 4 0 (lv_args 0 [.int X0])) [] m (vI o.1) o.2 := by
  have hq : z_mth 4 = some z_r4 := rfl
  unfold g_b_x0 at h
  show zGo xl xs (fun p' => p = p') 1 4 0 [(0, .int X0)] [] m (vI o.1) o.2
  refine r_p hq 3 (pc' := 4) (L' := [(0, .int X0)]) (st' := [.int (X0 &&& ((31 : Int32)))]) rfl ?_
  cases h
  exact r_ri hq (z_at.mk 1 rfl rfl) rfl rfl (tx_iand hx0 (rfl : (31 : Int32).toInt = 31)) rfl H
def g_b_x1 (x0 : Int) (σ : zS) : Option (Int × zS) :=
  some (iAnd (iShr x0 5) 31, σ)
set_option maxHeartbeats 4000000 in
theorem g_b_x1_ok {xl : Nat} {xs : Nat → Int32} {X0 : Int32} {x0 : Int} (hx0 : X0.toInt = x0) {σ : zS} {p : Nat} {m : zM} {o : Int × zS} (H : zRep xl xs p m σ) (h : g_b_x1 x0 σ = some o) : zGo xl xs (fun p' => p = p') 1 5 0 (z_can 5 0 (lv_args 0 [.int X0])) [] m (vI o.1) o.2 := by
  have hq : z_mth 5 = some z_r5 := rfl
  unfold g_b_x1 at h
  show zGo xl xs (fun p' => p = p') 1 5 0 [(0, .int X0)] [] m (vI o.1) o.2
  refine r_p hq 5 (pc' := 6) (L' := [(0, .int X0)]) (st' := [.int ((X0 >>> (((5 : Int32)) &&& 31)) &&& ((31 : Int32)))]) rfl ?_
  cases h
  exact r_ri hq (z_at.mk 1 rfl rfl) rfl rfl (tx_iand (tx_ishr hx0 (rfl : (5 : Int32).toInt = 5)) (rfl : (31 : Int32).toInt = 31)) rfl H
def g_b_y0 (x0 : Int) (σ : zS) : Option (Int × zS) :=
  some (iAnd (iShr x0 10) 31, σ)
set_option maxHeartbeats 4000000 in
theorem g_b_y0_ok {xl : Nat} {xs : Nat → Int32} {X0 : Int32} {x0 : Int} (hx0 : X0.toInt = x0) {σ : zS} {p : Nat} {m : zM} {o : Int × zS} (H : zRep xl xs p m σ) (h : g_b_y0 x0 σ = some o) : zGo xl xs (fun p' => p = p') 1 6 0 (z_can 6 0 (lv_args 0 [.int X0])) [] m (vI o.1) o.2 := by
  have hq : z_mth 6 = some z_r6 := rfl
  unfold g_b_y0 at h
  show zGo xl xs (fun p' => p = p') 1 6 0 [(0, .int X0)] [] m (vI o.1) o.2
  refine r_p hq 5 (pc' := 7) (L' := [(0, .int X0)]) (st' := [.int ((X0 >>> (((10 : Int32)) &&& 31)) &&& ((31 : Int32)))]) rfl ?_
  cases h
  exact r_ri hq (z_at.mk 1 rfl rfl) rfl rfl (tx_iand (tx_ishr hx0 (rfl : (10 : Int32).toInt = 10)) (rfl : (31 : Int32).toInt = 31)) rfl H
def g_b_y1 (x0 : Int) (σ : zS) : Option (Int × zS) :=
  some (iAnd (iShr x0 15) 31, σ)
set_option maxHeartbeats 4000000 in
theorem g_b_y1_ok {xl : Nat} {xs : Nat → Int32} {X0 : Int32} {x0 : Int} (hx0 : X0.toInt = x0) {σ : zS} {p : Nat} {m : zM} {o : Int × zS} (H : zRep xl xs p m σ) (h : g_b_y1 x0 σ = some o) : zGo xl xs (fun p' => p = p') 1 7 0 (z_can 7 0 (lv_args 0 [.int X0])) [] m (vI o.1) o.2 := by
  have hq : z_mth 7 = some z_r7 := rfl
  unfold g_b_y1 at h
  show zGo xl xs (fun p' => p = p') 1 7 0 [(0, .int X0)] [] m (vI o.1) o.2
  refine r_p hq 5 (pc' := 7) (L' := [(0, .int X0)]) (st' := [.int ((X0 >>> (((15 : Int32)) &&& 31)) &&& ((31 : Int32)))]) rfl ?_
  cases h
  exact r_ri hq (z_at.mk 1 rfl rfl) rfl rfl (tx_iand (tx_ishr hx0 (rfl : (15 : Int32).toInt = 15)) (rfl : (31 : Int32).toInt = 31)) rfl H
def g_b_area (x0 : Int) (σ : zS) : Option (Int × zS) :=
  (g_b_x1 x0 σ).bind fun o_1 =>
  (g_b_x0 x0 o_1.2).bind fun o_5 =>
  (g_b_y1 x0 o_5.2).bind fun o_12 =>
  (g_b_y0 x0 o_12.2).bind fun o_16 =>
  some (w32 ((w32 ((w32 (o_1.1 - o_5.1)) + 1)) * (w32 ((w32 (o_12.1 - o_16.1)) + 1))), o_16.2)
set_option maxHeartbeats 4000000 in
theorem g_b_area_ok {xl : Nat} {xs : Nat → Int32} {X0 : Int32} {x0 : Int} (hx0 : X0.toInt = x0) {σ : zS} {p : Nat} {m : zM} {o : Int × zS} (H : zRep xl xs p m σ) (h : g_b_area x0 σ = some o) : zGo xl xs (fun p' => p = p') 2 8 0 (z_can 8 0 (lv_args 0 [.int X0])) [] m (vI o.1) o.2 := by
  have hq : z_mth 8 = some z_r8 := rfl
  unfold g_b_area at h
  show zGo xl xs (fun p' => p = p') 2 8 0 [(0, .int X0)] [] m (vI o.1) o.2
  refine r_p hq 1 (pc' := 1) (L' := [(0, .int X0)]) (st' := [.int X0]) rfl ?_
  obtain ⟨o_1, h_1, h⟩ := Option.bind_eq_some_iff.mp h
  refine r_csI (pc' := 4) (L' := [(0, .int X0)]) (As := [.int X0]) (rest := []) (j := 5) hq (z_at.mk 3 rfl rfl) (Or.inl ⟨rfl, rfl⟩) rfl rfl (by omega) (g_b_x1_ok hx0 H h_1) rfl rfl ?_
  intro R_1 m_1 p_1 e_1 hR_1 H_1
  subst e_1
  refine r_p hq 1 (pc' := 5) (L' := [(0, .int X0)]) (st' := [.int X0, .int R_1]) rfl ?_
  obtain ⟨o_5, h_5, h⟩ := Option.bind_eq_some_iff.mp h
  refine r_csI (pc' := 8) (L' := [(0, .int X0)]) (As := [.int X0]) (rest := [.int R_1]) (j := 4) hq (z_at.mk 3 rfl rfl) (Or.inl ⟨rfl, rfl⟩) rfl rfl (by omega) (g_b_x0_ok hx0 H_1 h_5) rfl rfl ?_
  intro R_5 m_5 p_5 e_5 hR_5 H_5
  subst e_5
  refine r_p hq 4 (pc' := 12) (L' := [(0, .int X0)]) (st' := [.int X0, .int ((R_1 - R_5) + ((1 : Int32)))]) rfl ?_
  obtain ⟨o_12, h_12, h⟩ := Option.bind_eq_some_iff.mp h
  refine r_csI (pc' := 15) (L' := [(0, .int X0)]) (As := [.int X0]) (rest := [.int ((R_1 - R_5) + ((1 : Int32)))]) (j := 7) hq (z_at.mk 3 rfl rfl) (Or.inl ⟨rfl, rfl⟩) rfl rfl (by omega) (g_b_y1_ok hx0 H_5 h_12) rfl rfl ?_
  intro R_12 m_12 p_12 e_12 hR_12 H_12
  subst e_12
  refine r_p hq 1 (pc' := 16) (L' := [(0, .int X0)]) (st' := [.int X0, .int R_12, .int ((R_1 - R_5) + ((1 : Int32)))]) rfl ?_
  obtain ⟨o_16, h_16, h⟩ := Option.bind_eq_some_iff.mp h
  refine r_csI (pc' := 19) (L' := [(0, .int X0)]) (As := [.int X0]) (rest := [.int R_12, .int ((R_1 - R_5) + ((1 : Int32)))]) (j := 6) hq (z_at.mk 3 rfl rfl) (Or.inl ⟨rfl, rfl⟩) rfl rfl (by omega) (g_b_y0_ok hx0 H_12 h_16) rfl rfl ?_
  intro R_16 m_16 p_16 e_16 hR_16 H_16
  subst e_16
  refine r_p hq 4 (pc' := 23) (L' := [(0, .int X0)]) (st' := [.int (((R_1 - R_5) + ((1 : Int32))) * ((R_12 - R_16) + ((1 : Int32))))]) rfl ?_
  cases h
  exact r_ri hq (z_at.mk 1 rfl rfl) rfl rfl (tx_imul (tx_iadd (tx_isub hR_1 hR_5) (rfl : (1 : Int32).toInt = 1)) (tx_iadd (tx_isub hR_12 hR_16) (rfl : (1 : Int32).toInt = 1))) rfl H_16
def g_b_meet (x0 : Int) (x1 : Int) (σ : zS) : Option (Int × zS) :=
  if x0 = -1 then
    some (0, σ)
  else
    if x1 = -1 then
      some (0, σ)
    else
      (g_b_x0 x0 σ).bind fun o_11 =>
      (g_b_x1 x1 o_11.2).bind fun o_15 =>
      if o_15.1 < o_11.1 then
        some (0, o_15.2)
      else
        (g_b_x0 x1 o_15.2).bind fun o_22 =>
        (g_b_x1 x0 o_22.2).bind fun o_26 =>
        if o_26.1 < o_22.1 then
          some (0, o_26.2)
        else
          (g_b_y0 x0 o_26.2).bind fun o_33 =>
          (g_b_y1 x1 o_33.2).bind fun o_37 =>
          if o_37.1 < o_33.1 then
            some (0, o_37.2)
          else
            (g_b_y0 x1 o_37.2).bind fun o_44 =>
            (g_b_y1 x0 o_44.2).bind fun o_48 =>
            if o_48.1 < o_44.1 then
              some (0, o_48.2)
            else
              some (1, o_48.2)
set_option maxHeartbeats 4000000 in
theorem g_b_meet_ok {xl : Nat} {xs : Nat → Int32} {X0 : Int32} {x0 : Int} (hx0 : X0.toInt = x0) {X1 : Int32} {x1 : Int} (hx1 : X1.toInt = x1) {σ : zS} {p : Nat} {m : zM} {o : Int × zS} (H : zRep xl xs p m σ) (h : g_b_meet x0 x1 σ = some o) : zGo xl xs (fun p' => p = p') 2 9 0 (z_can 9 0 (lv_args 0 [.int X0, .int X1])) [] m (vI o.1) o.2 := by
  have hq : z_mth 9 = some z_r9 := rfl
  unfold g_b_meet at h
  show zGo xl xs (fun p' => p = p') 2 9 0 [(0, .int X0), (1, .int X1)] [] m (vI o.1) o.2
  refine r_p hq 2 (pc' := 2) (L' := [(0, .int X0), (1, .int X1)]) (st' := [.int ((-1 : Int32)), .int X0]) rfl ?_
  rcases z_ite h with ⟨c_2, h⟩ | ⟨c_2, h⟩
  · refine r_t2 (pc' := 58) (L' := []) hq (z_at.mk 3 rfl rfl) rfl hx0 (rfl : (-1 : Int32).toInt = -1) c_2 rfl rfl ?_
    refine r_p hq 1 (pc' := 59) (L' := []) (st' := [.int ((0 : Int32))]) rfl ?_
    cases h
    exact r_ri hq (z_at.mk 1 rfl rfl) rfl rfl (rfl : (0 : Int32).toInt = 0) rfl H
  · refine r_f2 (pc' := 5) (L' := [(0, .int X0), (1, .int X1)]) hq (z_at.mk 3 rfl rfl) rfl hx0 (rfl : (-1 : Int32).toInt = -1) c_2 rfl rfl ?_
    refine r_p hq 2 (pc' := 7) (L' := [(0, .int X0), (1, .int X1)]) (st' := [.int ((-1 : Int32)), .int X1]) rfl ?_
    rcases z_ite h with ⟨c_7, h⟩ | ⟨c_7, h⟩
    · refine r_t2 (pc' := 58) (L' := []) hq (z_at.mk 3 rfl rfl) rfl hx1 (rfl : (-1 : Int32).toInt = -1) c_7 rfl rfl ?_
      refine r_p hq 1 (pc' := 59) (L' := []) (st' := [.int ((0 : Int32))]) rfl ?_
      cases h
      exact r_ri hq (z_at.mk 1 rfl rfl) rfl rfl (rfl : (0 : Int32).toInt = 0) rfl H
    · refine r_f2 (pc' := 10) (L' := [(0, .int X0), (1, .int X1)]) hq (z_at.mk 3 rfl rfl) rfl hx1 (rfl : (-1 : Int32).toInt = -1) c_7 rfl rfl ?_
      refine r_p hq 1 (pc' := 11) (L' := [(0, .int X0), (1, .int X1)]) (st' := [.int X0]) rfl ?_
      obtain ⟨o_11, h_11, h⟩ := Option.bind_eq_some_iff.mp h
      refine r_csI (pc' := 14) (L' := [(0, .int X0), (1, .int X1)]) (As := [.int X0]) (rest := []) (j := 4) hq (z_at.mk 3 rfl rfl) (Or.inl ⟨rfl, rfl⟩) rfl rfl (by omega) (g_b_x0_ok hx0 H h_11) rfl rfl ?_
      intro R_11 m_11 p_11 e_11 hR_11 H_11
      subst e_11
      refine r_p hq 1 (pc' := 15) (L' := [(0, .int X0), (1, .int X1)]) (st' := [.int X1, .int R_11]) rfl ?_
      obtain ⟨o_15, h_15, h⟩ := Option.bind_eq_some_iff.mp h
      refine r_csI (pc' := 18) (L' := [(0, .int X0), (1, .int X1)]) (As := [.int X1]) (rest := [.int R_11]) (j := 5) hq (z_at.mk 3 rfl rfl) (Or.inl ⟨rfl, rfl⟩) rfl rfl (by omega) (g_b_x1_ok hx1 H_11 h_15) rfl rfl ?_
      intro R_15 m_15 p_15 e_15 hR_15 H_15
      subst e_15
      rcases z_ite h with ⟨c_18, h⟩ | ⟨c_18, h⟩
      · refine r_t2 (pc' := 58) (L' := []) hq (z_at.mk 3 rfl rfl) rfl hR_11 hR_15 c_18 rfl rfl ?_
        refine r_p hq 1 (pc' := 59) (L' := []) (st' := [.int ((0 : Int32))]) rfl ?_
        cases h
        exact r_ri hq (z_at.mk 1 rfl rfl) rfl rfl (rfl : (0 : Int32).toInt = 0) rfl H_15
      · refine r_f2 (pc' := 21) (L' := [(0, .int X0), (1, .int X1)]) hq (z_at.mk 3 rfl rfl) rfl hR_11 hR_15 c_18 rfl rfl ?_
        refine r_p hq 1 (pc' := 22) (L' := [(0, .int X0), (1, .int X1)]) (st' := [.int X1]) rfl ?_
        obtain ⟨o_22, h_22, h⟩ := Option.bind_eq_some_iff.mp h
        refine r_csI (pc' := 25) (L' := [(0, .int X0), (1, .int X1)]) (As := [.int X1]) (rest := []) (j := 4) hq (z_at.mk 3 rfl rfl) (Or.inl ⟨rfl, rfl⟩) rfl rfl (by omega) (g_b_x0_ok hx1 H_15 h_22) rfl rfl ?_
        intro R_22 m_22 p_22 e_22 hR_22 H_22
        subst e_22
        refine r_p hq 1 (pc' := 26) (L' := [(0, .int X0), (1, .int X1)]) (st' := [.int X0, .int R_22]) rfl ?_
        obtain ⟨o_26, h_26, h⟩ := Option.bind_eq_some_iff.mp h
        refine r_csI (pc' := 29) (L' := [(0, .int X0), (1, .int X1)]) (As := [.int X0]) (rest := [.int R_22]) (j := 5) hq (z_at.mk 3 rfl rfl) (Or.inl ⟨rfl, rfl⟩) rfl rfl (by omega) (g_b_x1_ok hx0 H_22 h_26) rfl rfl ?_
        intro R_26 m_26 p_26 e_26 hR_26 H_26
        subst e_26
        rcases z_ite h with ⟨c_29, h⟩ | ⟨c_29, h⟩
        · refine r_t2 (pc' := 58) (L' := []) hq (z_at.mk 3 rfl rfl) rfl hR_22 hR_26 c_29 rfl rfl ?_
          refine r_p hq 1 (pc' := 59) (L' := []) (st' := [.int ((0 : Int32))]) rfl ?_
          cases h
          exact r_ri hq (z_at.mk 1 rfl rfl) rfl rfl (rfl : (0 : Int32).toInt = 0) rfl H_26
        · refine r_f2 (pc' := 32) (L' := [(0, .int X0), (1, .int X1)]) hq (z_at.mk 3 rfl rfl) rfl hR_22 hR_26 c_29 rfl rfl ?_
          refine r_p hq 1 (pc' := 33) (L' := [(0, .int X0), (1, .int X1)]) (st' := [.int X0]) rfl ?_
          obtain ⟨o_33, h_33, h⟩ := Option.bind_eq_some_iff.mp h
          refine r_csI (pc' := 36) (L' := [(0, .int X0), (1, .int X1)]) (As := [.int X0]) (rest := []) (j := 6) hq (z_at.mk 3 rfl rfl) (Or.inl ⟨rfl, rfl⟩) rfl rfl (by omega) (g_b_y0_ok hx0 H_26 h_33) rfl rfl ?_
          intro R_33 m_33 p_33 e_33 hR_33 H_33
          subst e_33
          refine r_p hq 1 (pc' := 37) (L' := [(0, .int X0), (1, .int X1)]) (st' := [.int X1, .int R_33]) rfl ?_
          obtain ⟨o_37, h_37, h⟩ := Option.bind_eq_some_iff.mp h
          refine r_csI (pc' := 40) (L' := [(0, .int X0), (1, .int X1)]) (As := [.int X1]) (rest := [.int R_33]) (j := 7) hq (z_at.mk 3 rfl rfl) (Or.inl ⟨rfl, rfl⟩) rfl rfl (by omega) (g_b_y1_ok hx1 H_33 h_37) rfl rfl ?_
          intro R_37 m_37 p_37 e_37 hR_37 H_37
          subst e_37
          rcases z_ite h with ⟨c_40, h⟩ | ⟨c_40, h⟩
          · refine r_t2 (pc' := 58) (L' := []) hq (z_at.mk 3 rfl rfl) rfl hR_33 hR_37 c_40 rfl rfl ?_
            refine r_p hq 1 (pc' := 59) (L' := []) (st' := [.int ((0 : Int32))]) rfl ?_
            cases h
            exact r_ri hq (z_at.mk 1 rfl rfl) rfl rfl (rfl : (0 : Int32).toInt = 0) rfl H_37
          · refine r_f2 (pc' := 43) (L' := [(0, .int X0), (1, .int X1)]) hq (z_at.mk 3 rfl rfl) rfl hR_33 hR_37 c_40 rfl rfl ?_
            refine r_p hq 1 (pc' := 44) (L' := [(0, .int X0), (1, .int X1)]) (st' := [.int X1]) rfl ?_
            obtain ⟨o_44, h_44, h⟩ := Option.bind_eq_some_iff.mp h
            refine r_csI (pc' := 47) (L' := [(0, .int X0), (1, .int X1)]) (As := [.int X1]) (rest := []) (j := 6) hq (z_at.mk 3 rfl rfl) (Or.inl ⟨rfl, rfl⟩) rfl rfl (by omega) (g_b_y0_ok hx1 H_37 h_44) rfl rfl ?_
            intro R_44 m_44 p_44 e_44 hR_44 H_44
            subst e_44
            refine r_p hq 1 (pc' := 48) (L' := [(0, .int X0), (1, .int X1)]) (st' := [.int X0, .int R_44]) rfl ?_
            obtain ⟨o_48, h_48, h⟩ := Option.bind_eq_some_iff.mp h
            refine r_csI (pc' := 51) (L' := [(0, .int X0), (1, .int X1)]) (As := [.int X0]) (rest := [.int R_44]) (j := 7) hq (z_at.mk 3 rfl rfl) (Or.inl ⟨rfl, rfl⟩) rfl rfl (by omega) (g_b_y1_ok hx0 H_44 h_48) rfl rfl ?_
            intro R_48 m_48 p_48 e_48 hR_48 H_48
            subst e_48
            rcases z_ite h with ⟨c_51, h⟩ | ⟨c_51, h⟩
            · refine r_t2 (pc' := 58) (L' := []) hq (z_at.mk 3 rfl rfl) rfl hR_44 hR_48 c_51 rfl rfl ?_
              refine r_p hq 1 (pc' := 59) (L' := []) (st' := [.int ((0 : Int32))]) rfl ?_
              cases h
              exact r_ri hq (z_at.mk 1 rfl rfl) rfl rfl (rfl : (0 : Int32).toInt = 0) rfl H_48
            · refine r_f2 (pc' := 54) (L' := [(0, .int X0), (1, .int X1)]) hq (z_at.mk 3 rfl rfl) rfl hR_44 hR_48 c_51 rfl rfl ?_
              refine r_p hq 2 (pc' := 59) (L' := []) (st' := [.int ((1 : Int32))]) rfl ?_
              cases h
              exact r_ri hq (z_at.mk 1 rfl rfl) rfl rfl (rfl : (1 : Int32).toInt = 1) rfl H_48
def g_jMath_min_291 (x0 : Int) (x1 : Int) (σ : zS) : Option (Int × zS) :=
  if x1 < x0 then
    some (x1, σ)
  else
    some (x0, σ)
set_option maxHeartbeats 4000000 in
theorem g_jMath_min_291_ok {xl : Nat} {xs : Nat → Int32} {X0 : Int32} {x0 : Int} (hx0 : X0.toInt = x0) {X1 : Int32} {x1 : Int} (hx1 : X1.toInt = x1) {σ : zS} {p : Nat} {m : zM} {o : Int × zS} (H : zRep xl xs p m σ) (h : g_jMath_min_291 x0 x1 σ = some o) : zGo xl xs (fun p' => p = p') 1 291 0 (z_can 291 0 (lv_args 0 [.int X0, .int X1])) [] m (vI o.1) o.2 := by
  have hq : z_mth 291 = some z_r291 := rfl
  unfold g_jMath_min_291 at h
  show zGo xl xs (fun p' => p = p') 1 291 0 [(0, .int X0), (1, .int X1)] [] m (vI o.1) o.2
  refine r_p hq 2 (pc' := 2) (L' := [(0, .int X0), (1, .int X1)]) (st' := [.int X1, .int X0]) rfl ?_
  rcases z_ite h with ⟨c_2, h⟩ | ⟨c_2, h⟩
  · refine r_t2 (pc' := 9) (L' := [(0, .int X0), (1, .int X1)]) hq (z_at.mk 3 rfl rfl) rfl hx0 hx1 c_2 rfl rfl ?_
    refine r_p hq 1 (pc' := 10) (L' := []) (st' := [.int X1]) rfl ?_
    cases h
    exact r_ri hq (z_at.mk 1 rfl rfl) rfl rfl hx1 rfl H
  · refine r_f2 (pc' := 5) (L' := [(0, .int X0), (1, .int X1)]) hq (z_at.mk 3 rfl rfl) rfl hx0 hx1 c_2 rfl rfl ?_
    refine r_p hq 2 (pc' := 10) (L' := []) (st' := [.int X0]) rfl ?_
    cases h
    exact r_ri hq (z_at.mk 1 rfl rfl) rfl rfl hx0 rfl H
def g_b_common (x0 : Int) (x1 : Int) (σ : zS) : Option (Int × zS) :=
  (g_b_meet x0 x1 σ).bind fun o_2 =>
  if o_2.1 ≠ 0 then
    (g_b_x0 x0 o_2.2).bind fun o_11 =>
    (g_b_x0 x1 o_11.2).bind fun o_15 =>
    (g_jMath_max_289 o_11.1 o_15.1 o_15.2).bind fun o_18 =>
    (g_b_x1 x0 o_18.2).bind fun o_22 =>
    (g_b_x1 x1 o_22.2).bind fun o_26 =>
    (g_jMath_min_291 o_22.1 o_26.1 o_26.2).bind fun o_29 =>
    (g_b_y0 x0 o_29.2).bind fun o_33 =>
    (g_b_y0 x1 o_33.2).bind fun o_37 =>
    (g_jMath_max_289 o_33.1 o_37.1 o_37.2).bind fun o_40 =>
    (g_b_y1 x0 o_40.2).bind fun o_44 =>
    (g_b_y1 x1 o_44.2).bind fun o_48 =>
    (g_jMath_min_291 o_44.1 o_48.1 o_48.2).bind fun o_51 =>
    (g_b_of o_18.1 o_29.1 o_40.1 o_51.1 o_51.2).bind fun o_54 =>
    some (o_54.1, o_54.2)
  else
    some (-1, o_2.2)
set_option maxHeartbeats 4000000 in
theorem g_b_common_ok {xl : Nat} {xs : Nat → Int32} {X0 : Int32} {x0 : Int} (hx0 : X0.toInt = x0) {X1 : Int32} {x1 : Int} (hx1 : X1.toInt = x1) {σ : zS} {p : Nat} {m : zM} {o : Int × zS} (H : zRep xl xs p m σ) (h : g_b_common x0 x1 σ = some o) : zGo xl xs (fun p' => p = p') 3 10 0 (z_can 10 0 (lv_args 0 [.int X0, .int X1])) [] m (vI o.1) o.2 := by
  have hq : z_mth 10 = some z_r10 := rfl
  unfold g_b_common at h
  show zGo xl xs (fun p' => p = p') 3 10 0 [(0, .int X0), (1, .int X1)] [] m (vI o.1) o.2
  refine r_p hq 2 (pc' := 2) (L' := [(0, .int X0), (1, .int X1)]) (st' := [.int X1, .int X0]) rfl ?_
  obtain ⟨o_2, h_2, h⟩ := Option.bind_eq_some_iff.mp h
  refine r_csI (pc' := 5) (L' := [(0, .int X0), (1, .int X1)]) (As := [.int X0, .int X1]) (rest := []) (j := 9) hq (z_at.mk 3 rfl rfl) (Or.inl ⟨rfl, rfl⟩) rfl rfl (by omega) (g_b_meet_ok hx0 hx1 H h_2) rfl rfl ?_
  intro R_2 m_2 p_2 e_2 hR_2 H_2
  subst e_2
  rcases z_ite h with ⟨c_5, h⟩ | ⟨c_5, h⟩
  · refine r_t1 (pc' := 10) (L' := [(0, .int X0), (1, .int X1)]) hq (z_at.mk 3 rfl rfl) rfl hR_2 c_5 rfl rfl ?_
    refine r_p hq 1 (pc' := 11) (L' := [(0, .int X0), (1, .int X1)]) (st' := [.int X0]) rfl ?_
    obtain ⟨o_11, h_11, h⟩ := Option.bind_eq_some_iff.mp h
    refine r_csI (pc' := 14) (L' := [(0, .int X0), (1, .int X1)]) (As := [.int X0]) (rest := []) (j := 4) hq (z_at.mk 3 rfl rfl) (Or.inl ⟨rfl, rfl⟩) rfl rfl (by omega) (g_b_x0_ok hx0 H_2 h_11) rfl rfl ?_
    intro R_11 m_11 p_11 e_11 hR_11 H_11
    subst e_11
    refine r_p hq 1 (pc' := 15) (L' := [(0, .int X0), (1, .int X1)]) (st' := [.int X1, .int R_11]) rfl ?_
    obtain ⟨o_15, h_15, h⟩ := Option.bind_eq_some_iff.mp h
    refine r_csI (pc' := 18) (L' := [(0, .int X0), (1, .int X1)]) (As := [.int X1]) (rest := [.int R_11]) (j := 4) hq (z_at.mk 3 rfl rfl) (Or.inl ⟨rfl, rfl⟩) rfl rfl (by omega) (g_b_x0_ok hx1 H_11 h_15) rfl rfl ?_
    intro R_15 m_15 p_15 e_15 hR_15 H_15
    subst e_15
    obtain ⟨o_18, h_18, h⟩ := Option.bind_eq_some_iff.mp h
    refine r_csI (pc' := 21) (L' := [(0, .int X0), (1, .int X1)]) (As := [.int R_11, .int R_15]) (rest := []) (j := 289) hq (z_at.mk 3 rfl rfl) (Or.inl ⟨rfl, rfl⟩) rfl rfl (by omega) (g_jMath_max_289_ok hR_11 hR_15 H_15 h_18) rfl rfl ?_
    intro R_18 m_18 p_18 e_18 hR_18 H_18
    subst e_18
    refine r_p hq 1 (pc' := 22) (L' := [(0, .int X0), (1, .int X1)]) (st' := [.int X0, .int R_18]) rfl ?_
    obtain ⟨o_22, h_22, h⟩ := Option.bind_eq_some_iff.mp h
    refine r_csI (pc' := 25) (L' := [(0, .int X0), (1, .int X1)]) (As := [.int X0]) (rest := [.int R_18]) (j := 5) hq (z_at.mk 3 rfl rfl) (Or.inl ⟨rfl, rfl⟩) rfl rfl (by omega) (g_b_x1_ok hx0 H_18 h_22) rfl rfl ?_
    intro R_22 m_22 p_22 e_22 hR_22 H_22
    subst e_22
    refine r_p hq 1 (pc' := 26) (L' := [(0, .int X0), (1, .int X1)]) (st' := [.int X1, .int R_22, .int R_18]) rfl ?_
    obtain ⟨o_26, h_26, h⟩ := Option.bind_eq_some_iff.mp h
    refine r_csI (pc' := 29) (L' := [(0, .int X0), (1, .int X1)]) (As := [.int X1]) (rest := [.int R_22, .int R_18]) (j := 5) hq (z_at.mk 3 rfl rfl) (Or.inl ⟨rfl, rfl⟩) rfl rfl (by omega) (g_b_x1_ok hx1 H_22 h_26) rfl rfl ?_
    intro R_26 m_26 p_26 e_26 hR_26 H_26
    subst e_26
    obtain ⟨o_29, h_29, h⟩ := Option.bind_eq_some_iff.mp h
    refine r_csI (pc' := 32) (L' := [(0, .int X0), (1, .int X1)]) (As := [.int R_22, .int R_26]) (rest := [.int R_18]) (j := 291) hq (z_at.mk 3 rfl rfl) (Or.inl ⟨rfl, rfl⟩) rfl rfl (by omega) (g_jMath_min_291_ok hR_22 hR_26 H_26 h_29) rfl rfl ?_
    intro R_29 m_29 p_29 e_29 hR_29 H_29
    subst e_29
    refine r_p hq 1 (pc' := 33) (L' := [(0, .int X0), (1, .int X1)]) (st' := [.int X0, .int R_29, .int R_18]) rfl ?_
    obtain ⟨o_33, h_33, h⟩ := Option.bind_eq_some_iff.mp h
    refine r_csI (pc' := 36) (L' := [(0, .int X0), (1, .int X1)]) (As := [.int X0]) (rest := [.int R_29, .int R_18]) (j := 6) hq (z_at.mk 3 rfl rfl) (Or.inl ⟨rfl, rfl⟩) rfl rfl (by omega) (g_b_y0_ok hx0 H_29 h_33) rfl rfl ?_
    intro R_33 m_33 p_33 e_33 hR_33 H_33
    subst e_33
    refine r_p hq 1 (pc' := 37) (L' := [(0, .int X0), (1, .int X1)]) (st' := [.int X1, .int R_33, .int R_29, .int R_18]) rfl ?_
    obtain ⟨o_37, h_37, h⟩ := Option.bind_eq_some_iff.mp h
    refine r_csI (pc' := 40) (L' := [(0, .int X0), (1, .int X1)]) (As := [.int X1]) (rest := [.int R_33, .int R_29, .int R_18]) (j := 6) hq (z_at.mk 3 rfl rfl) (Or.inl ⟨rfl, rfl⟩) rfl rfl (by omega) (g_b_y0_ok hx1 H_33 h_37) rfl rfl ?_
    intro R_37 m_37 p_37 e_37 hR_37 H_37
    subst e_37
    obtain ⟨o_40, h_40, h⟩ := Option.bind_eq_some_iff.mp h
    refine r_csI (pc' := 43) (L' := [(0, .int X0), (1, .int X1)]) (As := [.int R_33, .int R_37]) (rest := [.int R_29, .int R_18]) (j := 289) hq (z_at.mk 3 rfl rfl) (Or.inl ⟨rfl, rfl⟩) rfl rfl (by omega) (g_jMath_max_289_ok hR_33 hR_37 H_37 h_40) rfl rfl ?_
    intro R_40 m_40 p_40 e_40 hR_40 H_40
    subst e_40
    refine r_p hq 1 (pc' := 44) (L' := [(0, .int X0), (1, .int X1)]) (st' := [.int X0, .int R_40, .int R_29, .int R_18]) rfl ?_
    obtain ⟨o_44, h_44, h⟩ := Option.bind_eq_some_iff.mp h
    refine r_csI (pc' := 47) (L' := [(0, .int X0), (1, .int X1)]) (As := [.int X0]) (rest := [.int R_40, .int R_29, .int R_18]) (j := 7) hq (z_at.mk 3 rfl rfl) (Or.inl ⟨rfl, rfl⟩) rfl rfl (by omega) (g_b_y1_ok hx0 H_40 h_44) rfl rfl ?_
    intro R_44 m_44 p_44 e_44 hR_44 H_44
    subst e_44
    refine r_p hq 1 (pc' := 48) (L' := [(0, .int X0), (1, .int X1)]) (st' := [.int X1, .int R_44, .int R_40, .int R_29, .int R_18]) rfl ?_
    obtain ⟨o_48, h_48, h⟩ := Option.bind_eq_some_iff.mp h
    refine r_csI (pc' := 51) (L' := [(0, .int X0), (1, .int X1)]) (As := [.int X1]) (rest := [.int R_44, .int R_40, .int R_29, .int R_18]) (j := 7) hq (z_at.mk 3 rfl rfl) (Or.inl ⟨rfl, rfl⟩) rfl rfl (by omega) (g_b_y1_ok hx1 H_44 h_48) rfl rfl ?_
    intro R_48 m_48 p_48 e_48 hR_48 H_48
    subst e_48
    obtain ⟨o_51, h_51, h⟩ := Option.bind_eq_some_iff.mp h
    refine r_csI (pc' := 54) (L' := [(0, .int X0), (1, .int X1)]) (As := [.int R_44, .int R_48]) (rest := [.int R_40, .int R_29, .int R_18]) (j := 291) hq (z_at.mk 3 rfl rfl) (Or.inl ⟨rfl, rfl⟩) rfl rfl (by omega) (g_jMath_min_291_ok hR_44 hR_48 H_48 h_51) rfl rfl ?_
    intro R_51 m_51 p_51 e_51 hR_51 H_51
    subst e_51
    obtain ⟨o_54, h_54, h⟩ := Option.bind_eq_some_iff.mp h
    refine r_csI (pc' := 57) (L' := [(0, .int X0), (1, .int X1)]) (As := [.int R_18, .int R_29, .int R_40, .int R_51]) (rest := []) (j := 2) hq (z_at.mk 3 rfl rfl) (Or.inl ⟨rfl, rfl⟩) rfl rfl (by omega) (g_b_of_ok hR_18 hR_29 hR_40 hR_51 H_51 h_54) rfl rfl ?_
    intro R_54 m_54 p_54 e_54 hR_54 H_54
    subst e_54
    cases h
    exact r_ri hq (z_at.mk 1 rfl rfl) rfl rfl hR_54 rfl H_54
  · refine r_f1 (pc' := 8) (L' := [(0, .int X0), (1, .int X1)]) hq (z_at.mk 3 rfl rfl) rfl hR_2 c_5 rfl rfl ?_
    refine r_p hq 1 (pc' := 9) (L' := [(0, .int X0), (1, .int X1)]) (st' := [.int ((-1 : Int32))]) rfl ?_
    cases h
    exact r_ri hq (z_at.mk 1 rfl rfl) rfl rfl (rfl : (-1 : Int32).toInt = -1) rfl H_2
def g_b_around (x0 : Int) (x1 : Int) (σ : zS) : Option (Int × zS) :=
  if x0 ≠ -1 then
    if x1 ≠ -1 then
      (g_b_x0 x0 σ).bind fun o_15 =>
      (g_b_x0 x1 o_15.2).bind fun o_19 =>
      (g_jMath_min_291 o_15.1 o_19.1 o_19.2).bind fun o_22 =>
      (g_b_x1 x0 o_22.2).bind fun o_26 =>
      (g_b_x1 x1 o_26.2).bind fun o_30 =>
      (g_jMath_max_289 o_26.1 o_30.1 o_30.2).bind fun o_33 =>
      (g_b_y0 x0 o_33.2).bind fun o_37 =>
      (g_b_y0 x1 o_37.2).bind fun o_41 =>
      (g_jMath_min_291 o_37.1 o_41.1 o_41.2).bind fun o_44 =>
      (g_b_y1 x0 o_44.2).bind fun o_48 =>
      (g_b_y1 x1 o_48.2).bind fun o_52 =>
      (g_jMath_max_289 o_48.1 o_52.1 o_52.2).bind fun o_55 =>
      (g_b_of o_22.1 o_33.1 o_44.1 o_55.1 o_55.2).bind fun o_58 =>
      some (o_58.1, o_58.2)
    else
      some (x0, σ)
  else
    some (x1, σ)
set_option maxHeartbeats 4000000 in
theorem g_b_around_ok {xl : Nat} {xs : Nat → Int32} {X0 : Int32} {x0 : Int} (hx0 : X0.toInt = x0) {X1 : Int32} {x1 : Int} (hx1 : X1.toInt = x1) {σ : zS} {p : Nat} {m : zM} {o : Int × zS} (H : zRep xl xs p m σ) (h : g_b_around x0 x1 σ = some o) : zGo xl xs (fun p' => p = p') 2 11 0 (z_can 11 0 (lv_args 0 [.int X0, .int X1])) [] m (vI o.1) o.2 := by
  have hq : z_mth 11 = some z_r11 := rfl
  unfold g_b_around at h
  show zGo xl xs (fun p' => p = p') 2 11 0 [(0, .int X0), (1, .int X1)] [] m (vI o.1) o.2
  refine r_p hq 2 (pc' := 2) (L' := [(0, .int X0), (1, .int X1)]) (st' := [.int ((-1 : Int32)), .int X0]) rfl ?_
  rcases z_ite h with ⟨c_2, h⟩ | ⟨c_2, h⟩
  · refine r_t2 (pc' := 7) (L' := [(0, .int X0), (1, .int X1)]) hq (z_at.mk 3 rfl rfl) rfl hx0 (rfl : (-1 : Int32).toInt = -1) c_2 rfl rfl ?_
    refine r_p hq 2 (pc' := 9) (L' := [(0, .int X0), (1, .int X1)]) (st' := [.int ((-1 : Int32)), .int X1]) rfl ?_
    rcases z_ite h with ⟨c_9, h⟩ | ⟨c_9, h⟩
    · refine r_t2 (pc' := 14) (L' := [(0, .int X0), (1, .int X1)]) hq (z_at.mk 3 rfl rfl) rfl hx1 (rfl : (-1 : Int32).toInt = -1) c_9 rfl rfl ?_
      refine r_p hq 1 (pc' := 15) (L' := [(0, .int X0), (1, .int X1)]) (st' := [.int X0]) rfl ?_
      obtain ⟨o_15, h_15, h⟩ := Option.bind_eq_some_iff.mp h
      refine r_csI (pc' := 18) (L' := [(0, .int X0), (1, .int X1)]) (As := [.int X0]) (rest := []) (j := 4) hq (z_at.mk 3 rfl rfl) (Or.inl ⟨rfl, rfl⟩) rfl rfl (by omega) (g_b_x0_ok hx0 H h_15) rfl rfl ?_
      intro R_15 m_15 p_15 e_15 hR_15 H_15
      subst e_15
      refine r_p hq 1 (pc' := 19) (L' := [(0, .int X0), (1, .int X1)]) (st' := [.int X1, .int R_15]) rfl ?_
      obtain ⟨o_19, h_19, h⟩ := Option.bind_eq_some_iff.mp h
      refine r_csI (pc' := 22) (L' := [(0, .int X0), (1, .int X1)]) (As := [.int X1]) (rest := [.int R_15]) (j := 4) hq (z_at.mk 3 rfl rfl) (Or.inl ⟨rfl, rfl⟩) rfl rfl (by omega) (g_b_x0_ok hx1 H_15 h_19) rfl rfl ?_
      intro R_19 m_19 p_19 e_19 hR_19 H_19
      subst e_19
      obtain ⟨o_22, h_22, h⟩ := Option.bind_eq_some_iff.mp h
      refine r_csI (pc' := 25) (L' := [(0, .int X0), (1, .int X1)]) (As := [.int R_15, .int R_19]) (rest := []) (j := 291) hq (z_at.mk 3 rfl rfl) (Or.inl ⟨rfl, rfl⟩) rfl rfl (by omega) (g_jMath_min_291_ok hR_15 hR_19 H_19 h_22) rfl rfl ?_
      intro R_22 m_22 p_22 e_22 hR_22 H_22
      subst e_22
      refine r_p hq 1 (pc' := 26) (L' := [(0, .int X0), (1, .int X1)]) (st' := [.int X0, .int R_22]) rfl ?_
      obtain ⟨o_26, h_26, h⟩ := Option.bind_eq_some_iff.mp h
      refine r_csI (pc' := 29) (L' := [(0, .int X0), (1, .int X1)]) (As := [.int X0]) (rest := [.int R_22]) (j := 5) hq (z_at.mk 3 rfl rfl) (Or.inl ⟨rfl, rfl⟩) rfl rfl (by omega) (g_b_x1_ok hx0 H_22 h_26) rfl rfl ?_
      intro R_26 m_26 p_26 e_26 hR_26 H_26
      subst e_26
      refine r_p hq 1 (pc' := 30) (L' := [(0, .int X0), (1, .int X1)]) (st' := [.int X1, .int R_26, .int R_22]) rfl ?_
      obtain ⟨o_30, h_30, h⟩ := Option.bind_eq_some_iff.mp h
      refine r_csI (pc' := 33) (L' := [(0, .int X0), (1, .int X1)]) (As := [.int X1]) (rest := [.int R_26, .int R_22]) (j := 5) hq (z_at.mk 3 rfl rfl) (Or.inl ⟨rfl, rfl⟩) rfl rfl (by omega) (g_b_x1_ok hx1 H_26 h_30) rfl rfl ?_
      intro R_30 m_30 p_30 e_30 hR_30 H_30
      subst e_30
      obtain ⟨o_33, h_33, h⟩ := Option.bind_eq_some_iff.mp h
      refine r_csI (pc' := 36) (L' := [(0, .int X0), (1, .int X1)]) (As := [.int R_26, .int R_30]) (rest := [.int R_22]) (j := 289) hq (z_at.mk 3 rfl rfl) (Or.inl ⟨rfl, rfl⟩) rfl rfl (by omega) (g_jMath_max_289_ok hR_26 hR_30 H_30 h_33) rfl rfl ?_
      intro R_33 m_33 p_33 e_33 hR_33 H_33
      subst e_33
      refine r_p hq 1 (pc' := 37) (L' := [(0, .int X0), (1, .int X1)]) (st' := [.int X0, .int R_33, .int R_22]) rfl ?_
      obtain ⟨o_37, h_37, h⟩ := Option.bind_eq_some_iff.mp h
      refine r_csI (pc' := 40) (L' := [(0, .int X0), (1, .int X1)]) (As := [.int X0]) (rest := [.int R_33, .int R_22]) (j := 6) hq (z_at.mk 3 rfl rfl) (Or.inl ⟨rfl, rfl⟩) rfl rfl (by omega) (g_b_y0_ok hx0 H_33 h_37) rfl rfl ?_
      intro R_37 m_37 p_37 e_37 hR_37 H_37
      subst e_37
      refine r_p hq 1 (pc' := 41) (L' := [(0, .int X0), (1, .int X1)]) (st' := [.int X1, .int R_37, .int R_33, .int R_22]) rfl ?_
      obtain ⟨o_41, h_41, h⟩ := Option.bind_eq_some_iff.mp h
      refine r_csI (pc' := 44) (L' := [(0, .int X0), (1, .int X1)]) (As := [.int X1]) (rest := [.int R_37, .int R_33, .int R_22]) (j := 6) hq (z_at.mk 3 rfl rfl) (Or.inl ⟨rfl, rfl⟩) rfl rfl (by omega) (g_b_y0_ok hx1 H_37 h_41) rfl rfl ?_
      intro R_41 m_41 p_41 e_41 hR_41 H_41
      subst e_41
      obtain ⟨o_44, h_44, h⟩ := Option.bind_eq_some_iff.mp h
      refine r_csI (pc' := 47) (L' := [(0, .int X0), (1, .int X1)]) (As := [.int R_37, .int R_41]) (rest := [.int R_33, .int R_22]) (j := 291) hq (z_at.mk 3 rfl rfl) (Or.inl ⟨rfl, rfl⟩) rfl rfl (by omega) (g_jMath_min_291_ok hR_37 hR_41 H_41 h_44) rfl rfl ?_
      intro R_44 m_44 p_44 e_44 hR_44 H_44
      subst e_44
      refine r_p hq 1 (pc' := 48) (L' := [(0, .int X0), (1, .int X1)]) (st' := [.int X0, .int R_44, .int R_33, .int R_22]) rfl ?_
      obtain ⟨o_48, h_48, h⟩ := Option.bind_eq_some_iff.mp h
      refine r_csI (pc' := 51) (L' := [(0, .int X0), (1, .int X1)]) (As := [.int X0]) (rest := [.int R_44, .int R_33, .int R_22]) (j := 7) hq (z_at.mk 3 rfl rfl) (Or.inl ⟨rfl, rfl⟩) rfl rfl (by omega) (g_b_y1_ok hx0 H_44 h_48) rfl rfl ?_
      intro R_48 m_48 p_48 e_48 hR_48 H_48
      subst e_48
      refine r_p hq 1 (pc' := 52) (L' := [(0, .int X0), (1, .int X1)]) (st' := [.int X1, .int R_48, .int R_44, .int R_33, .int R_22]) rfl ?_
      obtain ⟨o_52, h_52, h⟩ := Option.bind_eq_some_iff.mp h
      refine r_csI (pc' := 55) (L' := [(0, .int X0), (1, .int X1)]) (As := [.int X1]) (rest := [.int R_48, .int R_44, .int R_33, .int R_22]) (j := 7) hq (z_at.mk 3 rfl rfl) (Or.inl ⟨rfl, rfl⟩) rfl rfl (by omega) (g_b_y1_ok hx1 H_48 h_52) rfl rfl ?_
      intro R_52 m_52 p_52 e_52 hR_52 H_52
      subst e_52
      obtain ⟨o_55, h_55, h⟩ := Option.bind_eq_some_iff.mp h
      refine r_csI (pc' := 58) (L' := [(0, .int X0), (1, .int X1)]) (As := [.int R_48, .int R_52]) (rest := [.int R_44, .int R_33, .int R_22]) (j := 289) hq (z_at.mk 3 rfl rfl) (Or.inl ⟨rfl, rfl⟩) rfl rfl (by omega) (g_jMath_max_289_ok hR_48 hR_52 H_52 h_55) rfl rfl ?_
      intro R_55 m_55 p_55 e_55 hR_55 H_55
      subst e_55
      obtain ⟨o_58, h_58, h⟩ := Option.bind_eq_some_iff.mp h
      refine r_csI (pc' := 61) (L' := [(0, .int X0), (1, .int X1)]) (As := [.int R_22, .int R_33, .int R_44, .int R_55]) (rest := []) (j := 2) hq (z_at.mk 3 rfl rfl) (Or.inl ⟨rfl, rfl⟩) rfl rfl (by omega) (g_b_of_ok hR_22 hR_33 hR_44 hR_55 H_55 h_58) rfl rfl ?_
      intro R_58 m_58 p_58 e_58 hR_58 H_58
      subst e_58
      cases h
      exact r_ri hq (z_at.mk 1 rfl rfl) rfl rfl hR_58 rfl H_58
    · refine r_f2 (pc' := 12) (L' := [(0, .int X0), (1, .int X1)]) hq (z_at.mk 3 rfl rfl) rfl hx1 (rfl : (-1 : Int32).toInt = -1) c_9 rfl rfl ?_
      refine r_p hq 1 (pc' := 13) (L' := [(0, .int X0), (1, .int X1)]) (st' := [.int X0]) rfl ?_
      cases h
      exact r_ri hq (z_at.mk 1 rfl rfl) rfl rfl hx0 rfl H
  · refine r_f2 (pc' := 5) (L' := [(0, .int X0), (1, .int X1)]) hq (z_at.mk 3 rfl rfl) rfl hx0 (rfl : (-1 : Int32).toInt = -1) c_2 rfl rfl ?_
    refine r_p hq 1 (pc' := 6) (L' := [(0, .int X0), (1, .int X1)]) (st' := [.int X1]) rfl ?_
    cases h
    exact r_ri hq (z_at.mk 1 rfl rfl) rfl rfl hx1 rfl H
def g_b_join_L111 (x3 : Int) (x4 : Int) (σ : zS) : Option (Int × zS) :=
  if x3 = 0 then
    some (0, σ)
  else
    if x4 = 0 then
      some (0, σ)
    else
      some (1, σ)
set_option maxHeartbeats 4000000 in
theorem g_b_join_L111_ok {xl : Nat} {xs : Nat → Int32} {X3 : Int32} {x3 : Int} (hx3 : X3.toInt = x3) {X4 : Int32} {x4 : Int} (hx4 : X4.toInt = x4) {σ : zS} {p : Nat} {m : zM} {o : Int × zS} (H : zRep xl xs p m σ) (h : g_b_join_L111 x3 x4 σ = some o) : zGo xl xs (fun p' => p = p') 2 12 111 [(3, .int X3), (4, .int X4)] [] m (vI o.1) o.2 := by
  have hq : z_mth 12 = some z_r12 := rfl
  unfold g_b_join_L111 at h
  refine r_p hq 1 (pc' := 112) (L' := [(3, .int X3), (4, .int X4)]) (st' := [.int X3]) rfl ?_
  rcases z_ite h with ⟨c_112, h⟩ | ⟨c_112, h⟩
  · refine r_t1 (pc' := 124) (L' := []) hq (z_at.mk 3 rfl rfl) rfl hx3 c_112 rfl rfl ?_
    refine r_p hq 1 (pc' := 125) (L' := []) (st' := [.int ((0 : Int32))]) rfl ?_
    cases h
    exact r_ri hq (z_at.mk 1 rfl rfl) rfl rfl (rfl : (0 : Int32).toInt = 0) rfl H
  · refine r_f1 (pc' := 115) (L' := [(3, .int X3), (4, .int X4)]) hq (z_at.mk 3 rfl rfl) rfl hx3 c_112 rfl rfl ?_
    refine r_p hq 1 (pc' := 117) (L' := [(3, .int X3), (4, .int X4)]) (st' := [.int X4]) rfl ?_
    rcases z_ite h with ⟨c_117, h⟩ | ⟨c_117, h⟩
    · refine r_t1 (pc' := 124) (L' := []) hq (z_at.mk 3 rfl rfl) rfl hx4 c_117 rfl rfl ?_
      refine r_p hq 1 (pc' := 125) (L' := []) (st' := [.int ((0 : Int32))]) rfl ?_
      cases h
      exact r_ri hq (z_at.mk 1 rfl rfl) rfl rfl (rfl : (0 : Int32).toInt = 0) rfl H
    · refine r_f1 (pc' := 120) (L' := []) hq (z_at.mk 3 rfl rfl) rfl hx4 c_117 rfl rfl ?_
      refine r_p hq 2 (pc' := 125) (L' := []) (st' := [.int ((1 : Int32))]) rfl ?_
      cases h
      exact r_ri hq (z_at.mk 1 rfl rfl) rfl rfl (rfl : (1 : Int32).toInt = 1) rfl H
def g_b_join_L100 (x2 : Int) (x3 : Int) (x4 : Int) (xs0 : Int) (σ : zS) : Option (Int × zS) :=
  if x2 = 0 then
    g_b_join_L111 x3 x4 σ
  else
    if xs0 ≠ 0 then
      some (1, σ)
    else
      g_b_join_L111 x3 x4 σ
set_option maxHeartbeats 4000000 in
theorem g_b_join_L100_ok {xl : Nat} {xs : Nat → Int32} {X2 : Int32} {x2 : Int} (hx2 : X2.toInt = x2) {X3 : Int32} {x3 : Int} (hx3 : X3.toInt = x3) {X4 : Int32} {x4 : Int} (hx4 : X4.toInt = x4) {Xs0 : Int32} {xs0 : Int} (hxs0 : Xs0.toInt = xs0) {σ : zS} {p : Nat} {m : zM} {o : Int × zS} (H : zRep xl xs p m σ) (h : g_b_join_L100 x2 x3 x4 xs0 σ = some o) : zGo xl xs (fun p' => p = p') 2 12 100 [(2, .int X2), (3, .int X3), (4, .int X4)] [.int Xs0] m (vI o.1) o.2 := by
  have hq : z_mth 12 = some z_r12 := rfl
  unfold g_b_join_L100 at h
  refine r_p hq 2 (pc' := 103) (L' := [(5, .int Xs0), (2, .int X2), (3, .int X3), (4, .int X4)]) (st' := [.int X2]) rfl ?_
  rcases z_ite h with ⟨c_103, h⟩ | ⟨c_103, h⟩
  · refine r_t1 (pc' := 111) (L' := [(3, .int X3), (4, .int X4)]) hq (z_at.mk 3 rfl rfl) rfl hx2 c_103 rfl rfl ?_
    exact g_b_join_L111_ok hx3 hx4 H h
  · refine r_f1 (pc' := 106) (L' := [(5, .int Xs0), (2, .int X2), (3, .int X3), (4, .int X4)]) hq (z_at.mk 3 rfl rfl) rfl hx2 c_103 rfl rfl ?_
    refine r_p hq 1 (pc' := 108) (L' := [(5, .int Xs0), (2, .int X2), (3, .int X3), (4, .int X4)]) (st' := [.int Xs0]) rfl ?_
    rcases z_ite h with ⟨c_108, h⟩ | ⟨c_108, h⟩
    · refine r_t1 (pc' := 120) (L' := []) hq (z_at.mk 3 rfl rfl) rfl hxs0 c_108 rfl rfl ?_
      refine r_p hq 2 (pc' := 125) (L' := []) (st' := [.int ((1 : Int32))]) rfl ?_
      cases h
      exact r_ri hq (z_at.mk 1 rfl rfl) rfl rfl (rfl : (1 : Int32).toInt = 1) rfl H
    · refine r_f1 (pc' := 111) (L' := [(3, .int X3), (4, .int X4)]) hq (z_at.mk 3 rfl rfl) rfl hxs0 c_108 rfl rfl ?_
      exact g_b_join_L111_ok hx3 hx4 H h
def g_b_join_L82 (x0 : Int) (x1 : Int) (x2 : Int) (x3 : Int) (xs0 : Int) (σ : zS) : Option (Int × zS) :=
  if iShr x0 10 ≠ iShr x1 10 then
    g_b_join_L100 x2 x3 xs0 0 σ
  else
    g_b_join_L100 x2 x3 xs0 1 σ
set_option maxHeartbeats 4000000 in
theorem g_b_join_L82_ok {xl : Nat} {xs : Nat → Int32} {X0 : Int32} {x0 : Int} (hx0 : X0.toInt = x0) {X1 : Int32} {x1 : Int} (hx1 : X1.toInt = x1) {X2 : Int32} {x2 : Int} (hx2 : X2.toInt = x2) {X3 : Int32} {x3 : Int} (hx3 : X3.toInt = x3) {Xs0 : Int32} {xs0 : Int} (hxs0 : Xs0.toInt = xs0) {σ : zS} {p : Nat} {m : zM} {o : Int × zS} (H : zRep xl xs p m σ) (h : g_b_join_L82 x0 x1 x2 x3 xs0 σ = some o) : zGo xl xs (fun p' => p = p') 2 12 82 [(0, .int X0), (1, .int X1), (2, .int X2), (3, .int X3)] [.int Xs0] m (vI o.1) o.2 := by
  have hq : z_mth 12 = some z_r12 := rfl
  unfold g_b_join_L82 at h
  refine r_p hq 7 (pc' := 92) (L' := [(4, .int Xs0), (0, .int X0), (1, .int X1), (2, .int X2), (3, .int X3)]) (st' := [.int (X1 >>> (((10 : Int32)) &&& 31)), .int (X0 >>> (((10 : Int32)) &&& 31))]) rfl ?_
  rcases z_ite h with ⟨c_92, h⟩ | ⟨c_92, h⟩
  · refine r_t2 (pc' := 99) (L' := [(4, .int Xs0), (0, .int X0), (1, .int X1), (2, .int X2), (3, .int X3)]) hq (z_at.mk 3 rfl rfl) rfl (tx_ishr hx0 (rfl : (10 : Int32).toInt = 10)) (tx_ishr hx1 (rfl : (10 : Int32).toInt = 10)) c_92 rfl rfl ?_
    refine r_p hq 1 (pc' := 100) (L' := [(2, .int X2), (3, .int X3), (4, .int Xs0)]) (st' := [.int ((0 : Int32))]) rfl ?_
    exact g_b_join_L100_ok hx2 hx3 hxs0 (rfl : (0 : Int32).toInt = 0) H h
  · refine r_f2 (pc' := 95) (L' := [(4, .int Xs0), (0, .int X0), (1, .int X1), (2, .int X2), (3, .int X3)]) hq (z_at.mk 3 rfl rfl) rfl (tx_ishr hx0 (rfl : (10 : Int32).toInt = 10)) (tx_ishr hx1 (rfl : (10 : Int32).toInt = 10)) c_92 rfl rfl ?_
    refine r_p hq 2 (pc' := 100) (L' := [(2, .int X2), (3, .int X3), (4, .int Xs0)]) (st' := [.int ((1 : Int32))]) rfl ?_
    exact g_b_join_L100_ok hx2 hx3 hxs0 (rfl : (1 : Int32).toInt = 1) H h
def g_b_join_L63 (x0 : Int) (x1 : Int) (x2 : Int) (xs0 : Int) (σ : zS) : Option (Int × zS) :=
  if iAnd x0 1023 ≠ iAnd x1 1023 then
    g_b_join_L82 x0 x1 x2 xs0 0 σ
  else
    g_b_join_L82 x0 x1 x2 xs0 1 σ
set_option maxHeartbeats 4000000 in
theorem g_b_join_L63_ok {xl : Nat} {xs : Nat → Int32} {X0 : Int32} {x0 : Int} (hx0 : X0.toInt = x0) {X1 : Int32} {x1 : Int} (hx1 : X1.toInt = x1) {X2 : Int32} {x2 : Int} (hx2 : X2.toInt = x2) {Xs0 : Int32} {xs0 : Int} (hxs0 : Xs0.toInt = xs0) {σ : zS} {p : Nat} {m : zM} {o : Int × zS} (H : zRep xl xs p m σ) (h : g_b_join_L63 x0 x1 x2 xs0 σ = some o) : zGo xl xs (fun p' => p = p') 2 12 63 [(0, .int X0), (1, .int X1), (2, .int X2)] [.int Xs0] m (vI o.1) o.2 := by
  have hq : z_mth 12 = some z_r12 := rfl
  unfold g_b_join_L63 at h
  refine r_p hq 7 (pc' := 74) (L' := [(3, .int Xs0), (0, .int X0), (1, .int X1), (2, .int X2)]) (st' := [.int (X1 &&& ((1023 : Int32))), .int (X0 &&& ((1023 : Int32)))]) rfl ?_
  rcases z_ite h with ⟨c_74, h⟩ | ⟨c_74, h⟩
  · refine r_t2 (pc' := 81) (L' := [(3, .int Xs0), (0, .int X0), (1, .int X1), (2, .int X2)]) hq (z_at.mk 3 rfl rfl) rfl (tx_iand hx0 (rfl : (1023 : Int32).toInt = 1023)) (tx_iand hx1 (rfl : (1023 : Int32).toInt = 1023)) c_74 rfl rfl ?_
    refine r_p hq 1 (pc' := 82) (L' := [(0, .int X0), (1, .int X1), (2, .int X2), (3, .int Xs0)]) (st' := [.int ((0 : Int32))]) rfl ?_
    exact g_b_join_L82_ok hx0 hx1 hx2 hxs0 (rfl : (0 : Int32).toInt = 0) H h
  · refine r_f2 (pc' := 77) (L' := [(3, .int Xs0), (0, .int X0), (1, .int X1), (2, .int X2)]) hq (z_at.mk 3 rfl rfl) rfl (tx_iand hx0 (rfl : (1023 : Int32).toInt = 1023)) (tx_iand hx1 (rfl : (1023 : Int32).toInt = 1023)) c_74 rfl rfl ?_
    refine r_p hq 2 (pc' := 82) (L' := [(0, .int X0), (1, .int X1), (2, .int X2), (3, .int Xs0)]) (st' := [.int ((1 : Int32))]) rfl ?_
    exact g_b_join_L82_ok hx0 hx1 hx2 hxs0 (rfl : (1 : Int32).toInt = 1) H h
def g_b_join_L58 (x0 : Int) (x1 : Int) (x2 : Int) (σ : zS) : Option (Int × zS) :=
  g_b_join_L63 x0 x1 x2 1 σ
set_option maxHeartbeats 4000000 in
theorem g_b_join_L58_ok {xl : Nat} {xs : Nat → Int32} {X0 : Int32} {x0 : Int} (hx0 : X0.toInt = x0) {X1 : Int32} {x1 : Int} (hx1 : X1.toInt = x1) {X2 : Int32} {x2 : Int} (hx2 : X2.toInt = x2) {σ : zS} {p : Nat} {m : zM} {o : Int × zS} (H : zRep xl xs p m σ) (h : g_b_join_L58 x0 x1 x2 σ = some o) : zGo xl xs (fun p' => p = p') 2 12 58 [(0, .int X0), (1, .int X1), (2, .int X2)] [] m (vI o.1) o.2 := by
  have hq : z_mth 12 = some z_r12 := rfl
  unfold g_b_join_L58 at h
  refine r_p hq 2 (pc' := 63) (L' := [(0, .int X0), (1, .int X1), (2, .int X2)]) (st' := [.int ((1 : Int32))]) rfl ?_
  exact g_b_join_L63_ok hx0 hx1 hx2 (rfl : (1 : Int32).toInt = 1) H h
def g_b_join_L31 (x0 : Int) (x1 : Int) (xs0 : Int) (σ : zS) : Option (Int × zS) :=
  (g_b_y1 x0 σ).bind fun o_33 =>
  (g_b_y0 x1 o_33.2).bind fun o_39 =>
  if w32 (o_33.1 + 1) = o_39.1 then
    g_b_join_L58 x0 x1 xs0 o_39.2
  else
    (g_b_y1 x1 o_39.2).bind fun o_46 =>
    (g_b_y0 x0 o_46.2).bind fun o_52 =>
    if w32 (o_46.1 + 1) ≠ o_52.1 then
      g_b_join_L63 x0 x1 xs0 0 o_52.2
    else
      g_b_join_L58 x0 x1 xs0 o_52.2
set_option maxHeartbeats 4000000 in
theorem g_b_join_L31_ok {xl : Nat} {xs : Nat → Int32} {X0 : Int32} {x0 : Int} (hx0 : X0.toInt = x0) {X1 : Int32} {x1 : Int} (hx1 : X1.toInt = x1) {Xs0 : Int32} {xs0 : Int} (hxs0 : Xs0.toInt = xs0) {σ : zS} {p : Nat} {m : zM} {o : Int × zS} (H : zRep xl xs p m σ) (h : g_b_join_L31 x0 x1 xs0 σ = some o) : zGo xl xs (fun p' => p = p') 2 12 31 [(0, .int X0), (1, .int X1)] [.int Xs0] m (vI o.1) o.2 := by
  have hq : z_mth 12 = some z_r12 := rfl
  unfold g_b_join_L31 at h
  refine r_p hq 2 (pc' := 33) (L' := [(2, .int Xs0), (0, .int X0), (1, .int X1)]) (st' := [.int X0]) rfl ?_
  obtain ⟨o_33, h_33, h⟩ := Option.bind_eq_some_iff.mp h
  refine r_csI (pc' := 36) (L' := [(2, .int Xs0), (0, .int X0), (1, .int X1)]) (As := [.int X0]) (rest := []) (j := 7) hq (z_at.mk 3 rfl rfl) (Or.inl ⟨rfl, rfl⟩) rfl rfl (by omega) (g_b_y1_ok hx0 H h_33) rfl rfl ?_
  intro R_33 m_33 p_33 e_33 hR_33 H_33
  subst e_33
  refine r_p hq 3 (pc' := 39) (L' := [(2, .int Xs0), (0, .int X0), (1, .int X1)]) (st' := [.int X1, .int (R_33 + ((1 : Int32)))]) rfl ?_
  obtain ⟨o_39, h_39, h⟩ := Option.bind_eq_some_iff.mp h
  refine r_csI (pc' := 42) (L' := [(2, .int Xs0), (0, .int X0), (1, .int X1)]) (As := [.int X1]) (rest := [.int (R_33 + ((1 : Int32)))]) (j := 6) hq (z_at.mk 3 rfl rfl) (Or.inl ⟨rfl, rfl⟩) rfl rfl (by omega) (g_b_y0_ok hx1 H_33 h_39) rfl rfl ?_
  intro R_39 m_39 p_39 e_39 hR_39 H_39
  subst e_39
  rcases z_ite h with ⟨c_42, h⟩ | ⟨c_42, h⟩
  · refine r_t2 (pc' := 58) (L' := [(0, .int X0), (1, .int X1), (2, .int Xs0)]) hq (z_at.mk 3 rfl rfl) rfl (tx_iadd hR_33 (rfl : (1 : Int32).toInt = 1)) hR_39 c_42 rfl rfl ?_
    exact g_b_join_L58_ok hx0 hx1 hxs0 H_39 h
  · refine r_f2 (pc' := 45) (L' := [(2, .int Xs0), (0, .int X0), (1, .int X1)]) hq (z_at.mk 3 rfl rfl) rfl (tx_iadd hR_33 (rfl : (1 : Int32).toInt = 1)) hR_39 c_42 rfl rfl ?_
    refine r_p hq 1 (pc' := 46) (L' := [(2, .int Xs0), (0, .int X0), (1, .int X1)]) (st' := [.int X1]) rfl ?_
    obtain ⟨o_46, h_46, h⟩ := Option.bind_eq_some_iff.mp h
    refine r_csI (pc' := 49) (L' := [(2, .int Xs0), (0, .int X0), (1, .int X1)]) (As := [.int X1]) (rest := []) (j := 7) hq (z_at.mk 3 rfl rfl) (Or.inl ⟨rfl, rfl⟩) rfl rfl (by omega) (g_b_y1_ok hx1 H_39 h_46) rfl rfl ?_
    intro R_46 m_46 p_46 e_46 hR_46 H_46
    subst e_46
    refine r_p hq 3 (pc' := 52) (L' := [(2, .int Xs0), (0, .int X0), (1, .int X1)]) (st' := [.int X0, .int (R_46 + ((1 : Int32)))]) rfl ?_
    obtain ⟨o_52, h_52, h⟩ := Option.bind_eq_some_iff.mp h
    refine r_csI (pc' := 55) (L' := [(2, .int Xs0), (0, .int X0), (1, .int X1)]) (As := [.int X0]) (rest := [.int (R_46 + ((1 : Int32)))]) (j := 6) hq (z_at.mk 3 rfl rfl) (Or.inl ⟨rfl, rfl⟩) rfl rfl (by omega) (g_b_y0_ok hx0 H_46 h_52) rfl rfl ?_
    intro R_52 m_52 p_52 e_52 hR_52 H_52
    subst e_52
    rcases z_ite h with ⟨c_55, h⟩ | ⟨c_55, h⟩
    · refine r_t2 (pc' := 62) (L' := [(2, .int Xs0), (0, .int X0), (1, .int X1)]) hq (z_at.mk 3 rfl rfl) rfl (tx_iadd hR_46 (rfl : (1 : Int32).toInt = 1)) hR_52 c_55 rfl rfl ?_
      refine r_p hq 1 (pc' := 63) (L' := [(0, .int X0), (1, .int X1), (2, .int Xs0)]) (st' := [.int ((0 : Int32))]) rfl ?_
      exact g_b_join_L63_ok hx0 hx1 hxs0 (rfl : (0 : Int32).toInt = 0) H_52 h
    · refine r_f2 (pc' := 58) (L' := [(0, .int X0), (1, .int X1), (2, .int Xs0)]) hq (z_at.mk 3 rfl rfl) rfl (tx_iadd hR_46 (rfl : (1 : Int32).toInt = 1)) hR_52 c_55 rfl rfl ?_
      exact g_b_join_L58_ok hx0 hx1 hxs0 H_52 h
def g_b_join_L26 (x0 : Int) (x1 : Int) (σ : zS) : Option (Int × zS) :=
  g_b_join_L31 x0 x1 1 σ
set_option maxHeartbeats 4000000 in
theorem g_b_join_L26_ok {xl : Nat} {xs : Nat → Int32} {X0 : Int32} {x0 : Int} (hx0 : X0.toInt = x0) {X1 : Int32} {x1 : Int} (hx1 : X1.toInt = x1) {σ : zS} {p : Nat} {m : zM} {o : Int × zS} (H : zRep xl xs p m σ) (h : g_b_join_L26 x0 x1 σ = some o) : zGo xl xs (fun p' => p = p') 2 12 26 [(0, .int X0), (1, .int X1)] [] m (vI o.1) o.2 := by
  have hq : z_mth 12 = some z_r12 := rfl
  unfold g_b_join_L26 at h
  refine r_p hq 2 (pc' := 31) (L' := [(0, .int X0), (1, .int X1)]) (st' := [.int ((1 : Int32))]) rfl ?_
  exact g_b_join_L31_ok hx0 hx1 (rfl : (1 : Int32).toInt = 1) H h
def g_b_join (x0 : Int) (x1 : Int) (σ : zS) : Option (Int × zS) :=
  (g_b_x1 x0 σ).bind fun o_1 =>
  (g_b_x0 x1 o_1.2).bind fun o_7 =>
  if w32 (o_1.1 + 1) = o_7.1 then
    g_b_join_L26 x0 x1 o_7.2
  else
    (g_b_x1 x1 o_7.2).bind fun o_14 =>
    (g_b_x0 x0 o_14.2).bind fun o_20 =>
    if w32 (o_14.1 + 1) ≠ o_20.1 then
      g_b_join_L31 x0 x1 0 o_20.2
    else
      g_b_join_L26 x0 x1 o_20.2
set_option maxHeartbeats 4000000 in
theorem g_b_join_ok {xl : Nat} {xs : Nat → Int32} {X0 : Int32} {x0 : Int} (hx0 : X0.toInt = x0) {X1 : Int32} {x1 : Int} (hx1 : X1.toInt = x1) {σ : zS} {p : Nat} {m : zM} {o : Int × zS} (H : zRep xl xs p m σ) (h : g_b_join x0 x1 σ = some o) : zGo xl xs (fun p' => p = p') 2 12 0 (z_can 12 0 (lv_args 0 [.int X0, .int X1])) [] m (vI o.1) o.2 := by
  have hq : z_mth 12 = some z_r12 := rfl
  unfold g_b_join at h
  show zGo xl xs (fun p' => p = p') 2 12 0 [(0, .int X0), (1, .int X1)] [] m (vI o.1) o.2
  refine r_p hq 1 (pc' := 1) (L' := [(0, .int X0), (1, .int X1)]) (st' := [.int X0]) rfl ?_
  obtain ⟨o_1, h_1, h⟩ := Option.bind_eq_some_iff.mp h
  refine r_csI (pc' := 4) (L' := [(0, .int X0), (1, .int X1)]) (As := [.int X0]) (rest := []) (j := 5) hq (z_at.mk 3 rfl rfl) (Or.inl ⟨rfl, rfl⟩) rfl rfl (by omega) (g_b_x1_ok hx0 H h_1) rfl rfl ?_
  intro R_1 m_1 p_1 e_1 hR_1 H_1
  subst e_1
  refine r_p hq 3 (pc' := 7) (L' := [(0, .int X0), (1, .int X1)]) (st' := [.int X1, .int (R_1 + ((1 : Int32)))]) rfl ?_
  obtain ⟨o_7, h_7, h⟩ := Option.bind_eq_some_iff.mp h
  refine r_csI (pc' := 10) (L' := [(0, .int X0), (1, .int X1)]) (As := [.int X1]) (rest := [.int (R_1 + ((1 : Int32)))]) (j := 4) hq (z_at.mk 3 rfl rfl) (Or.inl ⟨rfl, rfl⟩) rfl rfl (by omega) (g_b_x0_ok hx1 H_1 h_7) rfl rfl ?_
  intro R_7 m_7 p_7 e_7 hR_7 H_7
  subst e_7
  rcases z_ite h with ⟨c_10, h⟩ | ⟨c_10, h⟩
  · refine r_t2 (pc' := 26) (L' := [(0, .int X0), (1, .int X1)]) hq (z_at.mk 3 rfl rfl) rfl (tx_iadd hR_1 (rfl : (1 : Int32).toInt = 1)) hR_7 c_10 rfl rfl ?_
    exact g_b_join_L26_ok hx0 hx1 H_7 h
  · refine r_f2 (pc' := 13) (L' := [(0, .int X0), (1, .int X1)]) hq (z_at.mk 3 rfl rfl) rfl (tx_iadd hR_1 (rfl : (1 : Int32).toInt = 1)) hR_7 c_10 rfl rfl ?_
    refine r_p hq 1 (pc' := 14) (L' := [(0, .int X0), (1, .int X1)]) (st' := [.int X1]) rfl ?_
    obtain ⟨o_14, h_14, h⟩ := Option.bind_eq_some_iff.mp h
    refine r_csI (pc' := 17) (L' := [(0, .int X0), (1, .int X1)]) (As := [.int X1]) (rest := []) (j := 5) hq (z_at.mk 3 rfl rfl) (Or.inl ⟨rfl, rfl⟩) rfl rfl (by omega) (g_b_x1_ok hx1 H_7 h_14) rfl rfl ?_
    intro R_14 m_14 p_14 e_14 hR_14 H_14
    subst e_14
    refine r_p hq 3 (pc' := 20) (L' := [(0, .int X0), (1, .int X1)]) (st' := [.int X0, .int (R_14 + ((1 : Int32)))]) rfl ?_
    obtain ⟨o_20, h_20, h⟩ := Option.bind_eq_some_iff.mp h
    refine r_csI (pc' := 23) (L' := [(0, .int X0), (1, .int X1)]) (As := [.int X0]) (rest := [.int (R_14 + ((1 : Int32)))]) (j := 4) hq (z_at.mk 3 rfl rfl) (Or.inl ⟨rfl, rfl⟩) rfl rfl (by omega) (g_b_x0_ok hx0 H_14 h_20) rfl rfl ?_
    intro R_20 m_20 p_20 e_20 hR_20 H_20
    subst e_20
    rcases z_ite h with ⟨c_23, h⟩ | ⟨c_23, h⟩
    · refine r_t2 (pc' := 30) (L' := [(0, .int X0), (1, .int X1)]) hq (z_at.mk 3 rfl rfl) rfl (tx_iadd hR_14 (rfl : (1 : Int32).toInt = 1)) hR_20 c_23 rfl rfl ?_
      refine r_p hq 1 (pc' := 31) (L' := [(0, .int X0), (1, .int X1)]) (st' := [.int ((0 : Int32))]) rfl ?_
      exact g_b_join_L31_ok hx0 hx1 (rfl : (0 : Int32).toInt = 0) H_20 h
    · refine r_f2 (pc' := 26) (L' := [(0, .int X0), (1, .int X1)]) hq (z_at.mk 3 rfl rfl) rfl (tx_iadd hR_14 (rfl : (1 : Int32).toInt = 1)) hR_20 c_23 rfl rfl ?_
      exact g_b_join_L26_ok hx0 hx1 H_20 h
def g_bs_add (a0 : Nat) (x1 : Int) (σ : zS) : Option (Int × zS) :=
  let v_1 := σ a0 1
  if v_1 < 0 then
    some (0, σ)
  else
    let v_8 := σ a0 1
    if v_8 < zLI (a0 + 1) then
      let v_26 := σ a0 1
      if 0 ≤ v_26 ∧ v_26 < zLI (a0 + 1) then
      let s_30 := zu σ (a0 + 1) v_26 x1
      let v_33 := s_30 a0 1
      let s_38 := zu s_30 a0 1 (w32 (v_33 + 1))
      some (1, s_38)
      else none
    else
      some (0, σ)
set_option maxHeartbeats 4000000 in
theorem g_bs_add_ok {xl : Nat} {xs : Nat → Int32} {a0 : Nat} (ha0 : zIn [56, 58, 63, 96, 114, 116, 126, 131] a0 = true) {X1 : Int32} {x1 : Int} (hx1 : X1.toInt = x1) {σ : zS} {p : Nat} {m : zM} {o : Int × zS} (H : zRep xl xs p m σ) (h : g_bs_add a0 x1 σ = some o) : zGo xl xs (fun p' => p = p') 1 14 0 (z_can 14 0 (lv_args 0 [.ref a0, .int X1])) [] m (vI o.1) o.2 := by
  have hq : z_mth 14 = some z_r14 := rfl
  unfold g_bs_add at h
  show zGo xl xs (fun p' => p = p') 1 14 0 [(0, .ref a0), (1, .int X1)] [] m (vI o.1) o.2
  refine r_p hq 1 (pc' := 1) (L' := [(0, .ref a0), (1, .int X1)]) (st' := [.ref a0]) rfl ?_
  refine r_gI (pc' := 4) (L' := [(0, .ref a0), (1, .int X1)]) H hq (z_at.mk 3 rfl rfl) rfl (zIn_all (l := [56, 58, 63, 96, 114, 116, 126, 131]) (p := fun a => zQ a 11 1 0) rfl ha0) rfl rfl ?_
  intro V_1 hV_1
  rcases z_ite h with ⟨c_4, h⟩ | ⟨c_4, h⟩
  · refine r_t1 (pc' := 19) (L' := []) hq (z_at.mk 3 rfl rfl) rfl hV_1 c_4 rfl rfl ?_
    refine r_p hq 1 (pc' := 20) (L' := []) (st' := [.int ((0 : Int32))]) rfl ?_
    cases h
    exact r_ri hq (z_at.mk 1 rfl rfl) rfl rfl (rfl : (0 : Int32).toInt = 0) rfl H
  · refine r_f1 (pc' := 7) (L' := [(0, .ref a0), (1, .int X1)]) hq (z_at.mk 3 rfl rfl) rfl hV_1 c_4 rfl rfl ?_
    refine r_p hq 1 (pc' := 8) (L' := [(0, .ref a0), (1, .int X1)]) (st' := [.ref a0]) rfl ?_
    refine r_gI (pc' := 11) (L' := [(0, .ref a0), (1, .int X1)]) H hq (z_at.mk 3 rfl rfl) rfl (zIn_all (l := [56, 58, 63, 96, 114, 116, 126, 131]) (p := fun a => zQ a 11 1 0) rfl ha0) rfl rfl ?_
    intro V_8 hV_8
    refine r_p hq 1 (pc' := 12) (L' := [(0, .ref a0), (1, .int X1)]) (st' := [.ref a0, .int V_8]) rfl ?_
    refine r_gR (b := a0 + 1) (pc' := 15) (L' := [(0, .ref a0), (1, .int X1)]) H hq (z_at.mk 3 rfl rfl) rfl (zIn_all (l := [56, 58, 63, 96, 114, 116, 126, 131]) (p := fun a => zQ a 11 0 (100 + a + 1)) rfl ha0) rfl rfl ?_
    refine r_le (pc' := 16) (L' := [(0, .ref a0), (1, .int X1)]) H hq (z_at.mk 1 rfl rfl) (zIn_all (l := [56, 58, 63, 96, 114, 116, 126, 131]) (p := fun a => zAr (a + 1) 0 (zLI (a + 1))) rfl ha0) rfl rfl rfl ?_
    intro V_15 hV_15
    rcases z_ite h with ⟨c_16, h⟩ | ⟨c_16, h⟩
    · refine r_t2 (pc' := 21) (L' := [(0, .ref a0), (1, .int X1)]) hq (z_at.mk 3 rfl rfl) rfl hV_8 hV_15 c_16 rfl rfl ?_
      refine r_p hq 1 (pc' := 22) (L' := [(0, .ref a0), (1, .int X1)]) (st' := [.ref a0]) rfl ?_
      refine r_gR (b := a0 + 1) (pc' := 25) (L' := [(0, .ref a0), (1, .int X1)]) H hq (z_at.mk 3 rfl rfl) rfl (zIn_all (l := [56, 58, 63, 96, 114, 116, 126, 131]) (p := fun a => zQ a 11 0 (100 + a + 1)) rfl ha0) rfl rfl ?_
      refine r_p hq 1 (pc' := 26) (L' := [(0, .ref a0), (1, .int X1)]) (st' := [.ref a0, .ref (a0 + 1)]) rfl ?_
      refine r_gI (pc' := 29) (L' := [(0, .ref a0), (1, .int X1)]) H hq (z_at.mk 3 rfl rfl) rfl (zIn_all (l := [56, 58, 63, 96, 114, 116, 126, 131]) (p := fun a => zQ a 11 1 0) rfl ha0) rfl rfl ?_
      intro V_26 hV_26
      refine r_p hq 1 (pc' := 30) (L' := [(0, .ref a0), (1, .int X1)]) (st' := [.int X1, .int V_26, .ref (a0 + 1)]) rfl ?_
      obtain ⟨g_30, h⟩ := z_ifo_some h
      refine r_is (pc' := 31) (L' := [(0, .ref a0), (1, .int X1)]) H hq (z_at.mk 1 rfl rfl) (zIn_all (l := [56, 58, 63, 96, 114, 116, 126, 131]) (p := fun a => zAr (a + 1) 0 (zLI (a + 1))) rfl ha0) hV_26 g_30 hx1 rfl rfl ?_
      intro m_30 H_30
      refine r_p hq 2 (pc' := 33) (L' := [(0, .ref a0), (1, .int X1)]) (st' := [.ref a0, .ref a0]) rfl ?_
      refine r_gI (pc' := 36) (L' := [(0, .ref a0), (1, .int X1)]) H_30 hq (z_at.mk 3 rfl rfl) rfl (zIn_all (l := [56, 58, 63, 96, 114, 116, 126, 131]) (p := fun a => zQ a 11 1 0) rfl ha0) rfl rfl ?_
      intro V_33 hV_33
      refine r_p hq 2 (pc' := 38) (L' := [(0, .ref a0), (1, .int X1)]) (st' := [.int (V_33 + ((1 : Int32))), .ref a0]) rfl ?_
      refine r_pI (X := V_33 + ((1 : Int32))) (pc' := 41) (L' := [(0, .ref a0), (1, .int X1)]) H_30 hq (z_at.mk 3 rfl rfl) rfl (zIn_all (l := [56, 58, 63, 96, 114, 116, 126, 131]) (p := fun a => zQ a 11 1 0) rfl ha0) (tx_iadd hV_33 (rfl : (1 : Int32).toInt = 1)) (by decide) rfl rfl rfl rfl ?_
      intro m_38 H_38
      refine r_p hq 1 (pc' := 42) (L' := [(0, .ref a0), (1, .int X1)]) (st' := [.int ((1 : Int32))]) rfl ?_
      cases h
      exact r_ri hq (z_at.mk 1 rfl rfl) rfl rfl (rfl : (1 : Int32).toInt = 1) rfl H_38
    · refine r_f2 (pc' := 19) (L' := []) hq (z_at.mk 3 rfl rfl) rfl hV_8 hV_15 c_16 rfl rfl ?_
      refine r_p hq 1 (pc' := 20) (L' := []) (st' := [.int ((0 : Int32))]) rfl ?_
      cases h
      exact r_ri hq (z_at.mk 1 rfl rfl) rfl rfl (rfl : (0 : Int32).toInt = 0) rfl H
def g_bs_at (a0 : Nat) (x1 : Int) (σ : zS) : Option (Int × zS) :=
  if x1 < 0 then
    some (-1, σ)
  else
    let v_6 := σ a0 1
    if v_6 ≤ x1 then
      some (-1, σ)
    else
      if zLI (a0 + 1) ≤ x1 then
        some (-1, σ)
      else
        if 0 ≤ x1 ∧ x1 < zLI (a0 + 1) then
        let v_26 := σ (a0 + 1) x1
        some (v_26, σ)
        else none
set_option maxHeartbeats 4000000 in
theorem g_bs_at_ok {xl : Nat} {xs : Nat → Int32} {a0 : Nat} (ha0 : zIn [56, 58, 63, 96, 114, 116, 126, 131] a0 = true) {X1 : Int32} {x1 : Int} (hx1 : X1.toInt = x1) {σ : zS} {p : Nat} {m : zM} {o : Int × zS} (H : zRep xl xs p m σ) (h : g_bs_at a0 x1 σ = some o) : zGo xl xs (fun p' => p = p') 1 15 0 (z_can 15 0 (lv_args 0 [.ref a0, .int X1])) [] m (vI o.1) o.2 := by
  have hq : z_mth 15 = some z_r15 := rfl
  unfold g_bs_at at h
  show zGo xl xs (fun p' => p = p') 1 15 0 [(0, .ref a0), (1, .int X1)] [] m (vI o.1) o.2
  refine r_p hq 1 (pc' := 1) (L' := [(0, .ref a0), (1, .int X1)]) (st' := [.int X1]) rfl ?_
  rcases z_ite h with ⟨c_1, h⟩ | ⟨c_1, h⟩
  · refine r_t1 (pc' := 30) (L' := []) hq (z_at.mk 3 rfl rfl) rfl hx1 c_1 rfl rfl ?_
    refine r_p hq 1 (pc' := 31) (L' := []) (st' := [.int ((-1 : Int32))]) rfl ?_
    cases h
    exact r_ri hq (z_at.mk 1 rfl rfl) rfl rfl (rfl : (-1 : Int32).toInt = -1) rfl H
  · refine r_f1 (pc' := 4) (L' := [(0, .ref a0), (1, .int X1)]) hq (z_at.mk 3 rfl rfl) rfl hx1 c_1 rfl rfl ?_
    refine r_p hq 2 (pc' := 6) (L' := [(0, .ref a0), (1, .int X1)]) (st' := [.ref a0, .int X1]) rfl ?_
    refine r_gI (pc' := 9) (L' := [(0, .ref a0), (1, .int X1)]) H hq (z_at.mk 3 rfl rfl) rfl (zIn_all (l := [56, 58, 63, 96, 114, 116, 126, 131]) (p := fun a => zQ a 11 1 0) rfl ha0) rfl rfl ?_
    intro V_6 hV_6
    rcases z_ite h with ⟨c_9, h⟩ | ⟨c_9, h⟩
    · refine r_t2 (pc' := 30) (L' := []) hq (z_at.mk 3 rfl rfl) rfl hx1 hV_6 c_9 rfl rfl ?_
      refine r_p hq 1 (pc' := 31) (L' := []) (st' := [.int ((-1 : Int32))]) rfl ?_
      cases h
      exact r_ri hq (z_at.mk 1 rfl rfl) rfl rfl (rfl : (-1 : Int32).toInt = -1) rfl H
    · refine r_f2 (pc' := 12) (L' := [(0, .ref a0), (1, .int X1)]) hq (z_at.mk 3 rfl rfl) rfl hx1 hV_6 c_9 rfl rfl ?_
      refine r_p hq 2 (pc' := 14) (L' := [(0, .ref a0), (1, .int X1)]) (st' := [.ref a0, .int X1]) rfl ?_
      refine r_gR (b := a0 + 1) (pc' := 17) (L' := [(0, .ref a0), (1, .int X1)]) H hq (z_at.mk 3 rfl rfl) rfl (zIn_all (l := [56, 58, 63, 96, 114, 116, 126, 131]) (p := fun a => zQ a 11 0 (100 + a + 1)) rfl ha0) rfl rfl ?_
      refine r_le (pc' := 18) (L' := [(0, .ref a0), (1, .int X1)]) H hq (z_at.mk 1 rfl rfl) (zIn_all (l := [56, 58, 63, 96, 114, 116, 126, 131]) (p := fun a => zAr (a + 1) 0 (zLI (a + 1))) rfl ha0) rfl rfl rfl ?_
      intro V_17 hV_17
      rcases z_ite h with ⟨c_18, h⟩ | ⟨c_18, h⟩
      · refine r_t2 (pc' := 30) (L' := []) hq (z_at.mk 3 rfl rfl) rfl hx1 hV_17 c_18 rfl rfl ?_
        refine r_p hq 1 (pc' := 31) (L' := []) (st' := [.int ((-1 : Int32))]) rfl ?_
        cases h
        exact r_ri hq (z_at.mk 1 rfl rfl) rfl rfl (rfl : (-1 : Int32).toInt = -1) rfl H
      · refine r_f2 (pc' := 21) (L' := [(0, .ref a0), (1, .int X1)]) hq (z_at.mk 3 rfl rfl) rfl hx1 hV_17 c_18 rfl rfl ?_
        refine r_p hq 1 (pc' := 22) (L' := [(0, .ref a0), (1, .int X1)]) (st' := [.ref a0]) rfl ?_
        refine r_gR (b := a0 + 1) (pc' := 25) (L' := [(0, .ref a0), (1, .int X1)]) H hq (z_at.mk 3 rfl rfl) rfl (zIn_all (l := [56, 58, 63, 96, 114, 116, 126, 131]) (p := fun a => zQ a 11 0 (100 + a + 1)) rfl ha0) rfl rfl ?_
        refine r_p hq 1 (pc' := 26) (L' := [(0, .ref a0), (1, .int X1)]) (st' := [.int X1, .ref (a0 + 1)]) rfl ?_
        obtain ⟨g_26, h⟩ := z_ifo_some h
        refine r_ia (pc' := 27) (L' := [(0, .ref a0), (1, .int X1)]) H hq (z_at.mk 1 rfl rfl) (zIn_all (l := [56, 58, 63, 96, 114, 116, 126, 131]) (p := fun a => zAr (a + 1) 0 (zLI (a + 1))) rfl ha0) hx1 g_26 rfl rfl ?_
        intro V_26 hV_26
        refine r_p hq 1 (pc' := 31) (L' := []) (st' := [.int V_26]) rfl ?_
        cases h
        exact r_ri hq (z_at.mk 1 rfl rfl) rfl rfl hV_26 rfl H
def g_bs_copyFrom_L7 (a0 : Nat) (a1 : Nat) : Nat → Int → zS → Option (Unit × zS)
  | 0, _, _ => none
  | n + 1, x2, σ =>
    let v_9 := σ a1 1
    if v_9 ≤ x2 then
      some ((), σ)
    else
      (g_bs_at a1 x2 σ).bind fun o_18 =>
      (g_bs_add a0 o_18.1 o_18.2).bind fun o_21 =>
      (g_bs_copyFrom_L7 a0 a1 n) (w32 (x2 + 1)) o_21.2
set_option maxHeartbeats 4000000 in
theorem g_bs_copyFrom_L7_ok {xl : Nat} {xs : Nat → Int32} {a0 : Nat} (ha0 : zIn [56, 58, 63, 96, 114, 116] a0 = true) {a1 : Nat} (ha1 : zIn [56, 58, 63, 96, 114, 116] a1 = true) : ∀ (n : Nat) {X2 : Int32} {x2 : Int} {σ : zS} {p : Nat} {m : zM} {o : Unit × zS}, X2.toInt = x2 → zRep xl xs p m σ → g_bs_copyFrom_L7 a0 a1 n x2 σ = some o → zGo xl xs (fun p' => p = p') 2 16 7 [(0, .ref a0), (1, .ref a1), (2, .int X2)] [] m vV o.2
  | 0, _, _, _, _, _, _, _, _, h => by cases h
  | n + 1, X2, x2, σ, p, m, o, hx2, H, h => by
    have hq : z_mth 16 = some z_r16 := rfl
    have ih := fun {X2 : Int32} {x2 : Int} {σ : zS} {p : Nat} {m : zM} {o : Unit × zS} => g_bs_copyFrom_L7_ok (xl := xl) (xs := xs) ha0 ha1 n (X2 := X2) (x2 := x2) (σ := σ) (p := p) (m := m) (o := o)
    unfold g_bs_copyFrom_L7 at h
    refine r_p hq 2 (pc' := 9) (L' := [(0, .ref a0), (1, .ref a1), (2, .int X2)]) (st' := [.ref a1, .int X2]) rfl ?_
    refine r_gI (pc' := 12) (L' := [(0, .ref a0), (1, .ref a1), (2, .int X2)]) H hq (z_at.mk 3 rfl rfl) rfl (zIn_all (l := [56, 58, 63, 96, 114, 116]) (p := fun a => zQ a 11 1 0) rfl ha1) rfl rfl ?_
    intro V_9 hV_9
    rcases z_ite h with ⟨c_12, h⟩ | ⟨c_12, h⟩
    · refine r_t2 (pc' := 31) (L' := [(0, .ref a0), (1, .ref a1), (2, .int X2)]) hq (z_at.mk 3 rfl rfl) rfl hx2 hV_9 c_12 rfl rfl ?_
      cases h
      exact r_rv hq (z_at.mk 1 rfl rfl) rfl rfl H
    · refine r_f2 (pc' := 15) (L' := [(0, .ref a0), (1, .ref a1), (2, .int X2)]) hq (z_at.mk 3 rfl rfl) rfl hx2 hV_9 c_12 rfl rfl ?_
      refine r_p hq 3 (pc' := 18) (L' := [(0, .ref a0), (1, .ref a1), (2, .int X2)]) (st' := [.int X2, .ref a1, .ref a0]) rfl ?_
      obtain ⟨o_18, h_18, h⟩ := Option.bind_eq_some_iff.mp h
      refine r_cvI (pc' := 21) (L' := [(0, .ref a0), (1, .ref a1), (2, .int X2)]) (Ps := [.int X2]) (rest := [.ref a0]) hq (z_at.mk 3 rfl rfl) (Or.inl ⟨rfl, rfl⟩) rfl rfl (by decide) (by decide) rfl (Nat.not_lt.mpr (Nat.le_of_ble_eq_true rfl)) rfl rfl (z_cat_le 1 rfl (by decide)) (z_lgl_le 2 rfl (by decide)) (by decide) (H.tg (zIn_all (l := [56, 58, 63, 96, 114, 116]) (p := fun a => zT a 11) rfl ha1)) (by omega) (g_bs_at_ok (zIn_all (l := [56, 58, 63, 96, 114, 116]) (p := fun a => zIn [56, 58, 63, 96, 114, 116, 126, 131] a) rfl ha1) hx2 H h_18) rfl rfl ?_
      intro R_18 m_18 p_18 e_18 hR_18 H_18
      subst e_18
      obtain ⟨o_21, h_21, h⟩ := Option.bind_eq_some_iff.mp h
      refine r_cvI (pc' := 24) (L' := [(0, .ref a0), (1, .ref a1), (2, .int X2)]) (Ps := [.int R_18]) (rest := []) hq (z_at.mk 3 rfl rfl) (Or.inl ⟨rfl, rfl⟩) rfl rfl (by decide) (by decide) rfl (Nat.not_lt.mpr (Nat.le_of_ble_eq_true rfl)) rfl rfl (z_cat_le 0 rfl (by decide)) (z_lgl_le 2 rfl (by decide)) (by decide) (H_18.tg (zIn_all (l := [56, 58, 63, 96, 114, 116]) (p := fun a => zT a 11) rfl ha0)) (by omega) (g_bs_add_ok (zIn_all (l := [56, 58, 63, 96, 114, 116]) (p := fun a => zIn [56, 58, 63, 96, 114, 116, 126, 131] a) rfl ha0) hR_18 H_18 h_21) rfl rfl ?_
      intro R_21 m_21 p_21 e_21 hR_21 H_21
      subst e_21
      refine r_p hq 3 (pc' := 7) (L' := [(0, .ref a0), (1, .ref a1), (2, .int (X2 + (1 : Int32)))]) (st' := []) rfl ?_
      exact ih (tx_iadd hx2 (rfl : (1 : Int32).toInt = 1)) H_21 h
def g_bs_copyFrom (a0 : Nat) (a1 : Nat) (σ : zS) : Option (Unit × zS) :=
  let s_2 := zu σ a0 1 0
  g_bs_copyFrom_L7 a0 a1 zK 0 s_2
set_option maxHeartbeats 4000000 in
theorem g_bs_copyFrom_ok {xl : Nat} {xs : Nat → Int32} {a0 : Nat} (ha0 : zIn [56, 58, 63, 96, 114, 116] a0 = true) {a1 : Nat} (ha1 : zIn [56, 58, 63, 96, 114, 116] a1 = true) {σ : zS} {p : Nat} {m : zM} {o : Unit × zS} (H : zRep xl xs p m σ) (h : g_bs_copyFrom a0 a1 σ = some o) : zGo xl xs (fun p' => p = p') 2 16 0 (z_can 16 0 (lv_args 0 [.ref a0, .ref a1])) [] m vV o.2 := by
  have hq : z_mth 16 = some z_r16 := rfl
  unfold g_bs_copyFrom at h
  show zGo xl xs (fun p' => p = p') 2 16 0 [(0, .ref a0), (1, .ref a1)] [] m vV o.2
  refine r_p hq 2 (pc' := 2) (L' := [(0, .ref a0), (1, .ref a1)]) (st' := [.int ((0 : Int32)), .ref a0]) rfl ?_
  refine r_pI (X := (0 : Int32)) (pc' := 5) (L' := [(0, .ref a0), (1, .ref a1)]) H hq (z_at.mk 3 rfl rfl) rfl (zIn_all (l := [56, 58, 63, 96, 114, 116]) (p := fun a => zQ a 11 1 0) rfl ha0) (rfl : (0 : Int32).toInt = 0) (by decide) rfl rfl rfl rfl ?_
  intro m_2 H_2
  refine r_p hq 2 (pc' := 7) (L' := [(0, .ref a0), (1, .ref a1), (2, .int ((0 : Int32)))]) (st' := []) rfl ?_
  exact g_bs_copyFrom_L7_ok ha0 ha1 zK (rfl : (0 : Int32).toInt = 0) H_2 h
def g_bs_addRest_L135 (a0 : Nat) (x2 : Int) (x4 : Int) (x7 : Int) (x8 : Int) (σ : zS) : Option (Unit × zS) :=
  (g_b_x1 x2 σ).bind fun o_138 =>
  if x4 ≤ o_138.1 then
    some ((), o_138.2)
  else
    (g_b_x1 x2 o_138.2).bind fun o_146 =>
    (g_b_of (w32 (o_146.1 + 1)) x4 x7 x8 o_146.2).bind fun o_157 =>
    (g_bs_add a0 o_157.1 o_157.2).bind fun o_160 =>
    some ((), o_160.2)
set_option maxHeartbeats 4000000 in
theorem g_bs_addRest_L135_ok {xl : Nat} {xs : Nat → Int32} {a0 : Nat} (ha0 : zIn [58, 116] a0 = true) {X2 : Int32} {x2 : Int} (hx2 : X2.toInt = x2) {X4 : Int32} {x4 : Int} (hx4 : X4.toInt = x4) {X7 : Int32} {x7 : Int} (hx7 : X7.toInt = x7) {X8 : Int32} {x8 : Int} (hx8 : X8.toInt = x8) {σ : zS} {p : Nat} {m : zM} {o : Unit × zS} (H : zRep xl xs p m σ) (h : g_bs_addRest_L135 a0 x2 x4 x7 x8 σ = some o) : zGo xl xs (fun p' => p = p') 3 17 135 [(0, .ref a0), (2, .int X2), (4, .int X4), (7, .int X7), (8, .int X8)] [] m vV o.2 := by
  have hq : z_mth 17 = some z_r17 := rfl
  unfold g_bs_addRest_L135 at h
  refine r_p hq 2 (pc' := 138) (L' := [(0, .ref a0), (2, .int X2), (4, .int X4), (7, .int X7), (8, .int X8)]) (st' := [.int X2, .int X4]) rfl ?_
  obtain ⟨o_138, h_138, h⟩ := Option.bind_eq_some_iff.mp h
  refine r_csI (pc' := 141) (L' := [(0, .ref a0), (2, .int X2), (4, .int X4), (7, .int X7), (8, .int X8)]) (As := [.int X2]) (rest := [.int X4]) (j := 5) hq (z_at.mk 3 rfl rfl) (Or.inl ⟨rfl, rfl⟩) rfl rfl (by omega) (g_b_x1_ok hx2 H h_138) rfl rfl ?_
  intro R_138 m_138 p_138 e_138 hR_138 H_138
  subst e_138
  rcases z_ite h with ⟨c_141, h⟩ | ⟨c_141, h⟩
  · refine r_t2 (pc' := 164) (L' := []) hq (z_at.mk 3 rfl rfl) rfl hx4 hR_138 c_141 rfl rfl ?_
    cases h
    exact r_rv hq (z_at.mk 1 rfl rfl) rfl rfl H_138
  · refine r_f2 (pc' := 144) (L' := [(0, .ref a0), (2, .int X2), (4, .int X4), (7, .int X7), (8, .int X8)]) hq (z_at.mk 3 rfl rfl) rfl hx4 hR_138 c_141 rfl rfl ?_
    refine r_p hq 2 (pc' := 146) (L' := [(0, .ref a0), (2, .int X2), (4, .int X4), (7, .int X7), (8, .int X8)]) (st' := [.int X2, .ref a0]) rfl ?_
    obtain ⟨o_146, h_146, h⟩ := Option.bind_eq_some_iff.mp h
    refine r_csI (pc' := 149) (L' := [(0, .ref a0), (2, .int X2), (4, .int X4), (7, .int X7), (8, .int X8)]) (As := [.int X2]) (rest := [.ref a0]) (j := 5) hq (z_at.mk 3 rfl rfl) (Or.inl ⟨rfl, rfl⟩) rfl rfl (by omega) (g_b_x1_ok hx2 H_138 h_146) rfl rfl ?_
    intro R_146 m_146 p_146 e_146 hR_146 H_146
    subst e_146
    refine r_p hq 5 (pc' := 157) (L' := [(0, .ref a0), (2, .int X2), (4, .int X4), (7, .int X7), (8, .int X8)]) (st' := [.int X8, .int X7, .int X4, .int (R_146 + ((1 : Int32))), .ref a0]) rfl ?_
    obtain ⟨o_157, h_157, h⟩ := Option.bind_eq_some_iff.mp h
    refine r_csI (pc' := 160) (L' := [(0, .ref a0), (2, .int X2), (4, .int X4), (7, .int X7), (8, .int X8)]) (As := [.int (R_146 + ((1 : Int32))), .int X4, .int X7, .int X8]) (rest := [.ref a0]) (j := 2) hq (z_at.mk 3 rfl rfl) (Or.inl ⟨rfl, rfl⟩) rfl rfl (by omega) (g_b_of_ok (tx_iadd hR_146 (rfl : (1 : Int32).toInt = 1)) hx4 hx7 hx8 H_146 h_157) rfl rfl ?_
    intro R_157 m_157 p_157 e_157 hR_157 H_157
    subst e_157
    obtain ⟨o_160, h_160, h⟩ := Option.bind_eq_some_iff.mp h
    refine r_cvI (pc' := 163) (L' := [(0, .ref a0), (2, .int X2), (4, .int X4), (7, .int X7), (8, .int X8)]) (Ps := [.int R_157]) (rest := []) hq (z_at.mk 3 rfl rfl) (Or.inl ⟨rfl, rfl⟩) rfl rfl (by decide) (by decide) rfl (Nat.not_lt.mpr (Nat.le_of_ble_eq_true rfl)) rfl rfl (z_cat_le 0 rfl (by decide)) (z_lgl_le 2 rfl (by decide)) (by decide) (H_157.tg (zIn_all (l := [58, 116]) (p := fun a => zT a 11) rfl ha0)) (by omega) (g_bs_add_ok (zIn_all (l := [58, 116]) (p := fun a => zIn [56, 58, 63, 96, 114, 116, 126, 131] a) rfl ha0) hR_157 H_157 h_160) rfl rfl ?_
    intro R_160 m_160 p_160 e_160 hR_160 H_160
    subst e_160
    refine r_p hq 1 (pc' := 164) (L' := []) (st' := []) rfl ?_
    cases h
    exact r_rv hq (z_at.mk 1 rfl rfl) rfl rfl H_160
def g_bs_addRest_L108 (a0 : Nat) (x2 : Int) (x3 : Int) (x4 : Int) (x7 : Int) (x8 : Int) (σ : zS) : Option (Unit × zS) :=
  (g_b_x0 x2 σ).bind fun o_110 =>
  if o_110.1 ≤ x3 then
    g_bs_addRest_L135 a0 x2 x4 x7 x8 o_110.2
  else
    (g_b_x0 x2 o_110.2).bind fun o_119 =>
    (g_b_of x3 (w32 (o_119.1 - 1)) x7 x8 o_119.2).bind fun o_128 =>
    (g_bs_add a0 o_128.1 o_128.2).bind fun o_131 =>
    g_bs_addRest_L135 a0 x2 x4 x7 x8 o_131.2
set_option maxHeartbeats 4000000 in
theorem g_bs_addRest_L108_ok {xl : Nat} {xs : Nat → Int32} {a0 : Nat} (ha0 : zIn [58, 116] a0 = true) {X2 : Int32} {x2 : Int} (hx2 : X2.toInt = x2) {X3 : Int32} {x3 : Int} (hx3 : X3.toInt = x3) {X4 : Int32} {x4 : Int} (hx4 : X4.toInt = x4) {X7 : Int32} {x7 : Int} (hx7 : X7.toInt = x7) {X8 : Int32} {x8 : Int} (hx8 : X8.toInt = x8) {σ : zS} {p : Nat} {m : zM} {o : Unit × zS} (H : zRep xl xs p m σ) (h : g_bs_addRest_L108 a0 x2 x3 x4 x7 x8 σ = some o) : zGo xl xs (fun p' => p = p') 3 17 108 [(0, .ref a0), (2, .int X2), (3, .int X3), (4, .int X4), (7, .int X7), (8, .int X8)] [] m vV o.2 := by
  have hq : z_mth 17 = some z_r17 := rfl
  unfold g_bs_addRest_L108 at h
  refine r_p hq 2 (pc' := 110) (L' := [(0, .ref a0), (2, .int X2), (3, .int X3), (4, .int X4), (7, .int X7), (8, .int X8)]) (st' := [.int X2, .int X3]) rfl ?_
  obtain ⟨o_110, h_110, h⟩ := Option.bind_eq_some_iff.mp h
  refine r_csI (pc' := 113) (L' := [(0, .ref a0), (2, .int X2), (3, .int X3), (4, .int X4), (7, .int X7), (8, .int X8)]) (As := [.int X2]) (rest := [.int X3]) (j := 4) hq (z_at.mk 3 rfl rfl) (Or.inl ⟨rfl, rfl⟩) rfl rfl (by omega) (g_b_x0_ok hx2 H h_110) rfl rfl ?_
  intro R_110 m_110 p_110 e_110 hR_110 H_110
  subst e_110
  rcases z_ite h with ⟨c_113, h⟩ | ⟨c_113, h⟩
  · refine r_t2 (pc' := 135) (L' := [(0, .ref a0), (2, .int X2), (4, .int X4), (7, .int X7), (8, .int X8)]) hq (z_at.mk 3 rfl rfl) rfl hx3 hR_110 c_113 rfl rfl ?_
    exact g_bs_addRest_L135_ok ha0 hx2 hx4 hx7 hx8 H_110 h
  · refine r_f2 (pc' := 116) (L' := [(0, .ref a0), (2, .int X2), (3, .int X3), (4, .int X4), (7, .int X7), (8, .int X8)]) hq (z_at.mk 3 rfl rfl) rfl hx3 hR_110 c_113 rfl rfl ?_
    refine r_p hq 3 (pc' := 119) (L' := [(0, .ref a0), (2, .int X2), (3, .int X3), (4, .int X4), (7, .int X7), (8, .int X8)]) (st' := [.int X2, .int X3, .ref a0]) rfl ?_
    obtain ⟨o_119, h_119, h⟩ := Option.bind_eq_some_iff.mp h
    refine r_csI (pc' := 122) (L' := [(0, .ref a0), (2, .int X2), (3, .int X3), (4, .int X4), (7, .int X7), (8, .int X8)]) (As := [.int X2]) (rest := [.int X3, .ref a0]) (j := 4) hq (z_at.mk 3 rfl rfl) (Or.inl ⟨rfl, rfl⟩) rfl rfl (by omega) (g_b_x0_ok hx2 H_110 h_119) rfl rfl ?_
    intro R_119 m_119 p_119 e_119 hR_119 H_119
    subst e_119
    refine r_p hq 4 (pc' := 128) (L' := [(0, .ref a0), (2, .int X2), (3, .int X3), (4, .int X4), (7, .int X7), (8, .int X8)]) (st' := [.int X8, .int X7, .int (R_119 - ((1 : Int32))), .int X3, .ref a0]) rfl ?_
    obtain ⟨o_128, h_128, h⟩ := Option.bind_eq_some_iff.mp h
    refine r_csI (pc' := 131) (L' := [(0, .ref a0), (2, .int X2), (3, .int X3), (4, .int X4), (7, .int X7), (8, .int X8)]) (As := [.int X3, .int (R_119 - ((1 : Int32))), .int X7, .int X8]) (rest := [.ref a0]) (j := 2) hq (z_at.mk 3 rfl rfl) (Or.inl ⟨rfl, rfl⟩) rfl rfl (by omega) (g_b_of_ok hx3 (tx_isub hR_119 (rfl : (1 : Int32).toInt = 1)) hx7 hx8 H_119 h_128) rfl rfl ?_
    intro R_128 m_128 p_128 e_128 hR_128 H_128
    subst e_128
    obtain ⟨o_131, h_131, h⟩ := Option.bind_eq_some_iff.mp h
    refine r_cvI (pc' := 134) (L' := [(0, .ref a0), (2, .int X2), (3, .int X3), (4, .int X4), (7, .int X7), (8, .int X8)]) (Ps := [.int R_128]) (rest := []) hq (z_at.mk 3 rfl rfl) (Or.inl ⟨rfl, rfl⟩) rfl rfl (by decide) (by decide) rfl (Nat.not_lt.mpr (Nat.le_of_ble_eq_true rfl)) rfl rfl (z_cat_le 0 rfl (by decide)) (z_lgl_le 2 rfl (by decide)) (by decide) (H_128.tg (zIn_all (l := [58, 116]) (p := fun a => zT a 11) rfl ha0)) (by omega) (g_bs_add_ok (zIn_all (l := [58, 116]) (p := fun a => zIn [56, 58, 63, 96, 114, 116, 126, 131] a) rfl ha0) hR_128 H_128 h_131) rfl rfl ?_
    intro R_131 m_131 p_131 e_131 hR_131 H_131
    subst e_131
    refine r_p hq 1 (pc' := 135) (L' := [(0, .ref a0), (2, .int X2), (4, .int X4), (7, .int X7), (8, .int X8)]) (st' := []) rfl ?_
    exact g_bs_addRest_L135_ok ha0 hx2 hx4 hx7 hx8 H_131 h
def g_bs_addRest_L84 (a0 : Nat) (x2 : Int) (x3 : Int) (x4 : Int) (x6 : Int) (x7 : Int) (x8 : Int) (σ : zS) : Option (Unit × zS) :=
  if x6 ≤ x8 then
    g_bs_addRest_L108 a0 x2 x3 x4 x7 x8 σ
  else
    (g_b_of x3 x4 (w32 (x8 + 1)) x6 σ).bind fun o_101 =>
    (g_bs_add a0 o_101.1 o_101.2).bind fun o_104 =>
    g_bs_addRest_L108 a0 x2 x3 x4 x7 x8 o_104.2
set_option maxHeartbeats 4000000 in
theorem g_bs_addRest_L84_ok {xl : Nat} {xs : Nat → Int32} {a0 : Nat} (ha0 : zIn [58, 116] a0 = true) {X2 : Int32} {x2 : Int} (hx2 : X2.toInt = x2) {X3 : Int32} {x3 : Int} (hx3 : X3.toInt = x3) {X4 : Int32} {x4 : Int} (hx4 : X4.toInt = x4) {X6 : Int32} {x6 : Int} (hx6 : X6.toInt = x6) {X7 : Int32} {x7 : Int} (hx7 : X7.toInt = x7) {X8 : Int32} {x8 : Int} (hx8 : X8.toInt = x8) {σ : zS} {p : Nat} {m : zM} {o : Unit × zS} (H : zRep xl xs p m σ) (h : g_bs_addRest_L84 a0 x2 x3 x4 x6 x7 x8 σ = some o) : zGo xl xs (fun p' => p = p') 3 17 84 [(0, .ref a0), (2, .int X2), (3, .int X3), (4, .int X4), (6, .int X6), (7, .int X7), (8, .int X8)] [] m vV o.2 := by
  have hq : z_mth 17 = some z_r17 := rfl
  unfold g_bs_addRest_L84 at h
  refine r_p hq 2 (pc' := 88) (L' := [(0, .ref a0), (2, .int X2), (3, .int X3), (4, .int X4), (6, .int X6), (7, .int X7), (8, .int X8)]) (st' := [.int X8, .int X6]) rfl ?_
  rcases z_ite h with ⟨c_88, h⟩ | ⟨c_88, h⟩
  · refine r_t2 (pc' := 108) (L' := [(0, .ref a0), (2, .int X2), (3, .int X3), (4, .int X4), (7, .int X7), (8, .int X8)]) hq (z_at.mk 3 rfl rfl) rfl hx6 hx8 c_88 rfl rfl ?_
    exact g_bs_addRest_L108_ok ha0 hx2 hx3 hx4 hx7 hx8 H h
  · refine r_f2 (pc' := 91) (L' := [(0, .ref a0), (2, .int X2), (3, .int X3), (4, .int X4), (6, .int X6), (7, .int X7), (8, .int X8)]) hq (z_at.mk 3 rfl rfl) rfl hx6 hx8 c_88 rfl rfl ?_
    refine r_p hq 7 (pc' := 101) (L' := [(0, .ref a0), (2, .int X2), (3, .int X3), (4, .int X4), (6, .int X6), (7, .int X7), (8, .int X8)]) (st' := [.int X6, .int (X8 + ((1 : Int32))), .int X4, .int X3, .ref a0]) rfl ?_
    obtain ⟨o_101, h_101, h⟩ := Option.bind_eq_some_iff.mp h
    refine r_csI (pc' := 104) (L' := [(0, .ref a0), (2, .int X2), (3, .int X3), (4, .int X4), (6, .int X6), (7, .int X7), (8, .int X8)]) (As := [.int X3, .int X4, .int (X8 + ((1 : Int32))), .int X6]) (rest := [.ref a0]) (j := 2) hq (z_at.mk 3 rfl rfl) (Or.inl ⟨rfl, rfl⟩) rfl rfl (by omega) (g_b_of_ok hx3 hx4 (tx_iadd hx8 (rfl : (1 : Int32).toInt = 1)) hx6 H h_101) rfl rfl ?_
    intro R_101 m_101 p_101 e_101 hR_101 H_101
    subst e_101
    obtain ⟨o_104, h_104, h⟩ := Option.bind_eq_some_iff.mp h
    refine r_cvI (pc' := 107) (L' := [(0, .ref a0), (2, .int X2), (3, .int X3), (4, .int X4), (6, .int X6), (7, .int X7), (8, .int X8)]) (Ps := [.int R_101]) (rest := []) hq (z_at.mk 3 rfl rfl) (Or.inl ⟨rfl, rfl⟩) rfl rfl (by decide) (by decide) rfl (Nat.not_lt.mpr (Nat.le_of_ble_eq_true rfl)) rfl rfl (z_cat_le 0 rfl (by decide)) (z_lgl_le 2 rfl (by decide)) (by decide) (H_101.tg (zIn_all (l := [58, 116]) (p := fun a => zT a 11) rfl ha0)) (by omega) (g_bs_add_ok (zIn_all (l := [58, 116]) (p := fun a => zIn [56, 58, 63, 96, 114, 116, 126, 131] a) rfl ha0) hR_101 H_101 h_104) rfl rfl ?_
    intro R_104 m_104 p_104 e_104 hR_104 H_104
    subst e_104
    refine r_p hq 1 (pc' := 108) (L' := [(0, .ref a0), (2, .int X2), (3, .int X3), (4, .int X4), (7, .int X7), (8, .int X8)]) (st' := []) rfl ?_
    exact g_bs_addRest_L108_ok ha0 hx2 hx3 hx4 hx7 hx8 H_104 h
def g_bs_addRest (a0 : Nat) (x1 : Int) (x2 : Int) (σ : zS) : Option (Unit × zS) :=
  (g_b_meet x1 x2 σ).bind fun o_2 =>
  if o_2.1 ≠ 0 then
    (g_b_x0 x1 o_2.2).bind fun o_16 =>
    (g_b_x1 x1 o_16.2).bind fun o_21 =>
    (g_b_y0 x1 o_21.2).bind fun o_27 =>
    (g_b_y1 x1 o_27.2).bind fun o_33 =>
    (g_b_y0 x2 o_33.2).bind fun o_41 =>
    (g_jMath_max_289 o_27.1 o_41.1 o_41.2).bind fun o_44 =>
    (g_b_y1 x2 o_44.2).bind fun o_52 =>
    (g_jMath_min_291 o_33.1 o_52.1 o_52.2).bind fun o_55 =>
    if o_44.1 ≤ o_27.1 then
      g_bs_addRest_L84 a0 x2 o_16.1 o_21.1 o_33.1 o_44.1 o_55.1 o_55.2
    else
      (g_b_of o_16.1 o_21.1 o_27.1 (w32 (o_44.1 - 1)) o_55.2).bind fun o_77 =>
      (g_bs_add a0 o_77.1 o_77.2).bind fun o_80 =>
      g_bs_addRest_L84 a0 x2 o_16.1 o_21.1 o_33.1 o_44.1 o_55.1 o_80.2
  else
    (g_bs_add a0 x1 o_2.2).bind fun o_10 =>
    some ((), o_10.2)
set_option maxHeartbeats 4000000 in
theorem g_bs_addRest_ok {xl : Nat} {xs : Nat → Int32} {a0 : Nat} (ha0 : zIn [58, 116] a0 = true) {X1 : Int32} {x1 : Int} (hx1 : X1.toInt = x1) {X2 : Int32} {x2 : Int} (hx2 : X2.toInt = x2) {σ : zS} {p : Nat} {m : zM} {o : Unit × zS} (H : zRep xl xs p m σ) (h : g_bs_addRest a0 x1 x2 σ = some o) : zGo xl xs (fun p' => p = p') 3 17 0 (z_can 17 0 (lv_args 0 [.ref a0, .int X1, .int X2])) [] m vV o.2 := by
  have hq : z_mth 17 = some z_r17 := rfl
  unfold g_bs_addRest at h
  show zGo xl xs (fun p' => p = p') 3 17 0 [(0, .ref a0), (1, .int X1), (2, .int X2)] [] m vV o.2
  refine r_p hq 2 (pc' := 2) (L' := [(0, .ref a0), (1, .int X1), (2, .int X2)]) (st' := [.int X2, .int X1]) rfl ?_
  obtain ⟨o_2, h_2, h⟩ := Option.bind_eq_some_iff.mp h
  refine r_csI (pc' := 5) (L' := [(0, .ref a0), (1, .int X1), (2, .int X2)]) (As := [.int X1, .int X2]) (rest := []) (j := 9) hq (z_at.mk 3 rfl rfl) (Or.inl ⟨rfl, rfl⟩) rfl rfl (by omega) (g_b_meet_ok hx1 hx2 H h_2) rfl rfl ?_
  intro R_2 m_2 p_2 e_2 hR_2 H_2
  subst e_2
  rcases z_ite h with ⟨c_5, h⟩ | ⟨c_5, h⟩
  · refine r_t1 (pc' := 15) (L' := [(0, .ref a0), (1, .int X1), (2, .int X2)]) hq (z_at.mk 3 rfl rfl) rfl hR_2 c_5 rfl rfl ?_
    refine r_p hq 1 (pc' := 16) (L' := [(0, .ref a0), (1, .int X1), (2, .int X2)]) (st' := [.int X1]) rfl ?_
    obtain ⟨o_16, h_16, h⟩ := Option.bind_eq_some_iff.mp h
    refine r_csI (pc' := 19) (L' := [(0, .ref a0), (1, .int X1), (2, .int X2)]) (As := [.int X1]) (rest := []) (j := 4) hq (z_at.mk 3 rfl rfl) (Or.inl ⟨rfl, rfl⟩) rfl rfl (by omega) (g_b_x0_ok hx1 H_2 h_16) rfl rfl ?_
    intro R_16 m_16 p_16 e_16 hR_16 H_16
    subst e_16
    refine r_p hq 2 (pc' := 21) (L' := [(3, .int R_16), (0, .ref a0), (1, .int X1), (2, .int X2)]) (st' := [.int X1]) rfl ?_
    obtain ⟨o_21, h_21, h⟩ := Option.bind_eq_some_iff.mp h
    refine r_csI (pc' := 24) (L' := [(3, .int R_16), (0, .ref a0), (1, .int X1), (2, .int X2)]) (As := [.int X1]) (rest := []) (j := 5) hq (z_at.mk 3 rfl rfl) (Or.inl ⟨rfl, rfl⟩) rfl rfl (by omega) (g_b_x1_ok hx1 H_16 h_21) rfl rfl ?_
    intro R_21 m_21 p_21 e_21 hR_21 H_21
    subst e_21
    refine r_p hq 2 (pc' := 27) (L' := [(4, .int R_21), (3, .int R_16), (0, .ref a0), (1, .int X1), (2, .int X2)]) (st' := [.int X1]) rfl ?_
    obtain ⟨o_27, h_27, h⟩ := Option.bind_eq_some_iff.mp h
    refine r_csI (pc' := 30) (L' := [(4, .int R_21), (3, .int R_16), (0, .ref a0), (1, .int X1), (2, .int X2)]) (As := [.int X1]) (rest := []) (j := 6) hq (z_at.mk 3 rfl rfl) (Or.inl ⟨rfl, rfl⟩) rfl rfl (by omega) (g_b_y0_ok hx1 H_21 h_27) rfl rfl ?_
    intro R_27 m_27 p_27 e_27 hR_27 H_27
    subst e_27
    refine r_p hq 2 (pc' := 33) (L' := [(5, .int R_27), (4, .int R_21), (3, .int R_16), (0, .ref a0), (1, .int X1), (2, .int X2)]) (st' := [.int X1]) rfl ?_
    obtain ⟨o_33, h_33, h⟩ := Option.bind_eq_some_iff.mp h
    refine r_csI (pc' := 36) (L' := [(5, .int R_27), (4, .int R_21), (3, .int R_16), (0, .ref a0), (1, .int X1), (2, .int X2)]) (As := [.int X1]) (rest := []) (j := 7) hq (z_at.mk 3 rfl rfl) (Or.inl ⟨rfl, rfl⟩) rfl rfl (by omega) (g_b_y1_ok hx1 H_27 h_33) rfl rfl ?_
    intro R_33 m_33 p_33 e_33 hR_33 H_33
    subst e_33
    refine r_p hq 3 (pc' := 41) (L' := [(6, .int R_33), (5, .int R_27), (4, .int R_21), (3, .int R_16), (0, .ref a0), (1, .int X1), (2, .int X2)]) (st' := [.int X2, .int R_27]) rfl ?_
    obtain ⟨o_41, h_41, h⟩ := Option.bind_eq_some_iff.mp h
    refine r_csI (pc' := 44) (L' := [(6, .int R_33), (5, .int R_27), (4, .int R_21), (3, .int R_16), (0, .ref a0), (1, .int X1), (2, .int X2)]) (As := [.int X2]) (rest := [.int R_27]) (j := 6) hq (z_at.mk 3 rfl rfl) (Or.inl ⟨rfl, rfl⟩) rfl rfl (by omega) (g_b_y0_ok hx2 H_33 h_41) rfl rfl ?_
    intro R_41 m_41 p_41 e_41 hR_41 H_41
    subst e_41
    obtain ⟨o_44, h_44, h⟩ := Option.bind_eq_some_iff.mp h
    refine r_csI (pc' := 47) (L' := [(6, .int R_33), (5, .int R_27), (4, .int R_21), (3, .int R_16), (0, .ref a0), (1, .int X1), (2, .int X2)]) (As := [.int R_27, .int R_41]) (rest := []) (j := 289) hq (z_at.mk 3 rfl rfl) (Or.inl ⟨rfl, rfl⟩) rfl rfl (by omega) (g_jMath_max_289_ok hR_27 hR_41 H_41 h_44) rfl rfl ?_
    intro R_44 m_44 p_44 e_44 hR_44 H_44
    subst e_44
    refine r_p hq 3 (pc' := 52) (L' := [(7, .int R_44), (6, .int R_33), (5, .int R_27), (4, .int R_21), (3, .int R_16), (0, .ref a0), (1, .int X1), (2, .int X2)]) (st' := [.int X2, .int R_33]) rfl ?_
    obtain ⟨o_52, h_52, h⟩ := Option.bind_eq_some_iff.mp h
    refine r_csI (pc' := 55) (L' := [(7, .int R_44), (6, .int R_33), (5, .int R_27), (4, .int R_21), (3, .int R_16), (0, .ref a0), (1, .int X1), (2, .int X2)]) (As := [.int X2]) (rest := [.int R_33]) (j := 7) hq (z_at.mk 3 rfl rfl) (Or.inl ⟨rfl, rfl⟩) rfl rfl (by omega) (g_b_y1_ok hx2 H_44 h_52) rfl rfl ?_
    intro R_52 m_52 p_52 e_52 hR_52 H_52
    subst e_52
    obtain ⟨o_55, h_55, h⟩ := Option.bind_eq_some_iff.mp h
    refine r_csI (pc' := 58) (L' := [(7, .int R_44), (6, .int R_33), (5, .int R_27), (4, .int R_21), (3, .int R_16), (0, .ref a0), (1, .int X1), (2, .int X2)]) (As := [.int R_33, .int R_52]) (rest := []) (j := 291) hq (z_at.mk 3 rfl rfl) (Or.inl ⟨rfl, rfl⟩) rfl rfl (by omega) (g_jMath_min_291_ok hR_33 hR_52 H_52 h_55) rfl rfl ?_
    intro R_55 m_55 p_55 e_55 hR_55 H_55
    subst e_55
    refine r_p hq 3 (pc' := 64) (L' := [(8, .int R_55), (7, .int R_44), (6, .int R_33), (5, .int R_27), (4, .int R_21), (3, .int R_16), (0, .ref a0), (1, .int X1), (2, .int X2)]) (st' := [.int R_44, .int R_27]) rfl ?_
    rcases z_ite h with ⟨c_64, h⟩ | ⟨c_64, h⟩
    · refine r_t2 (pc' := 84) (L' := [(0, .ref a0), (2, .int X2), (3, .int R_16), (4, .int R_21), (6, .int R_33), (7, .int R_44), (8, .int R_55)]) hq (z_at.mk 3 rfl rfl) rfl hR_27 hR_44 c_64 rfl rfl ?_
      exact g_bs_addRest_L84_ok ha0 hx2 hR_16 hR_21 hR_33 hR_44 hR_55 H_55 h
    · refine r_f2 (pc' := 67) (L' := [(8, .int R_55), (7, .int R_44), (6, .int R_33), (5, .int R_27), (4, .int R_21), (3, .int R_16), (0, .ref a0), (1, .int X1), (2, .int X2)]) hq (z_at.mk 3 rfl rfl) rfl hR_27 hR_44 c_64 rfl rfl ?_
      refine r_p hq 7 (pc' := 77) (L' := [(8, .int R_55), (7, .int R_44), (6, .int R_33), (5, .int R_27), (4, .int R_21), (3, .int R_16), (0, .ref a0), (1, .int X1), (2, .int X2)]) (st' := [.int (R_44 - ((1 : Int32))), .int R_27, .int R_21, .int R_16, .ref a0]) rfl ?_
      obtain ⟨o_77, h_77, h⟩ := Option.bind_eq_some_iff.mp h
      refine r_csI (pc' := 80) (L' := [(8, .int R_55), (7, .int R_44), (6, .int R_33), (5, .int R_27), (4, .int R_21), (3, .int R_16), (0, .ref a0), (1, .int X1), (2, .int X2)]) (As := [.int R_16, .int R_21, .int R_27, .int (R_44 - ((1 : Int32)))]) (rest := [.ref a0]) (j := 2) hq (z_at.mk 3 rfl rfl) (Or.inl ⟨rfl, rfl⟩) rfl rfl (by omega) (g_b_of_ok hR_16 hR_21 hR_27 (tx_isub hR_44 (rfl : (1 : Int32).toInt = 1)) H_55 h_77) rfl rfl ?_
      intro R_77 m_77 p_77 e_77 hR_77 H_77
      subst e_77
      obtain ⟨o_80, h_80, h⟩ := Option.bind_eq_some_iff.mp h
      refine r_cvI (pc' := 83) (L' := [(8, .int R_55), (7, .int R_44), (6, .int R_33), (5, .int R_27), (4, .int R_21), (3, .int R_16), (0, .ref a0), (1, .int X1), (2, .int X2)]) (Ps := [.int R_77]) (rest := []) hq (z_at.mk 3 rfl rfl) (Or.inl ⟨rfl, rfl⟩) rfl rfl (by decide) (by decide) rfl (Nat.not_lt.mpr (Nat.le_of_ble_eq_true rfl)) rfl rfl (z_cat_le 0 rfl (by decide)) (z_lgl_le 2 rfl (by decide)) (by decide) (H_77.tg (zIn_all (l := [58, 116]) (p := fun a => zT a 11) rfl ha0)) (by omega) (g_bs_add_ok (zIn_all (l := [58, 116]) (p := fun a => zIn [56, 58, 63, 96, 114, 116, 126, 131] a) rfl ha0) hR_77 H_77 h_80) rfl rfl ?_
      intro R_80 m_80 p_80 e_80 hR_80 H_80
      subst e_80
      refine r_p hq 1 (pc' := 84) (L' := [(0, .ref a0), (2, .int X2), (3, .int R_16), (4, .int R_21), (6, .int R_33), (7, .int R_44), (8, .int R_55)]) (st' := []) rfl ?_
      exact g_bs_addRest_L84_ok ha0 hx2 hR_16 hR_21 hR_33 hR_44 hR_55 H_80 h
  · refine r_f1 (pc' := 8) (L' := [(0, .ref a0), (1, .int X1), (2, .int X2)]) hq (z_at.mk 3 rfl rfl) rfl hR_2 c_5 rfl rfl ?_
    refine r_p hq 2 (pc' := 10) (L' := [(0, .ref a0), (1, .int X1), (2, .int X2)]) (st' := [.int X1, .ref a0]) rfl ?_
    obtain ⟨o_10, h_10, h⟩ := Option.bind_eq_some_iff.mp h
    refine r_cvI (pc' := 13) (L' := [(0, .ref a0), (1, .int X1), (2, .int X2)]) (Ps := [.int X1]) (rest := []) hq (z_at.mk 3 rfl rfl) (Or.inl ⟨rfl, rfl⟩) rfl rfl (by decide) (by decide) rfl (Nat.not_lt.mpr (Nat.le_of_ble_eq_true rfl)) rfl rfl (z_cat_le 0 rfl (by decide)) (z_lgl_le 2 rfl (by decide)) (by decide) (H_2.tg (zIn_all (l := [58, 116]) (p := fun a => zT a 11) rfl ha0)) (by omega) (g_bs_add_ok (zIn_all (l := [58, 116]) (p := fun a => zIn [56, 58, 63, 96, 114, 116, 126, 131] a) rfl ha0) hx1 H_2 h_10) rfl rfl ?_
    intro R_10 m_10 p_10 e_10 hR_10 H_10
    subst e_10
    refine r_p hq 1 (pc' := 14) (L' := [(0, .ref a0), (1, .int X1), (2, .int X2)]) (st' := []) rfl ?_
    cases h
    exact r_rv hq (z_at.mk 1 rfl rfl) rfl rfl H_10
def g_bs_becomeRest_L7 (a0 : Nat) (a1 : Nat) : Nat → Int → Int → zS → Option (Unit × zS)
  | 0, _, _, _ => none
  | n + 1, x2, x3, σ =>
    let v_9 := σ a1 1
    if v_9 ≤ x3 then
      some ((), σ)
    else
      (g_bs_at a1 x3 σ).bind fun o_18 =>
      (g_bs_addRest a0 o_18.1 x2 o_18.2).bind fun o_22 =>
      (g_bs_becomeRest_L7 a0 a1 n) x2 (w32 (x3 + 1)) o_22.2
set_option maxHeartbeats 4000000 in
theorem g_bs_becomeRest_L7_ok {xl : Nat} {xs : Nat → Int32} {a0 : Nat} (ha0 : zIn [58, 116] a0 = true) {a1 : Nat} (ha1 : zIn [56, 114] a1 = true) : ∀ (n : Nat) {X2 : Int32} {x2 : Int} {X3 : Int32} {x3 : Int} {σ : zS} {p : Nat} {m : zM} {o : Unit × zS}, X2.toInt = x2 → X3.toInt = x3 → zRep xl xs p m σ → g_bs_becomeRest_L7 a0 a1 n x2 x3 σ = some o → zGo xl xs (fun p' => p = p') 4 18 7 [(0, .ref a0), (1, .ref a1), (2, .int X2), (3, .int X3)] [] m vV o.2
  | 0, _, _, _, _, _, _, _, _, _, _, _, h => by cases h
  | n + 1, X2, x2, X3, x3, σ, p, m, o, hx2, hx3, H, h => by
    have hq : z_mth 18 = some z_r18 := rfl
    have ih := fun {X2 : Int32} {x2 : Int} {X3 : Int32} {x3 : Int} {σ : zS} {p : Nat} {m : zM} {o : Unit × zS} => g_bs_becomeRest_L7_ok (xl := xl) (xs := xs) ha0 ha1 n (X2 := X2) (x2 := x2) (X3 := X3) (x3 := x3) (σ := σ) (p := p) (m := m) (o := o)
    unfold g_bs_becomeRest_L7 at h
    refine r_p hq 2 (pc' := 9) (L' := [(0, .ref a0), (1, .ref a1), (2, .int X2), (3, .int X3)]) (st' := [.ref a1, .int X3]) rfl ?_
    refine r_gI (pc' := 12) (L' := [(0, .ref a0), (1, .ref a1), (2, .int X2), (3, .int X3)]) H hq (z_at.mk 3 rfl rfl) rfl (zIn_all (l := [56, 114]) (p := fun a => zQ a 11 1 0) rfl ha1) rfl rfl ?_
    intro V_9 hV_9
    rcases z_ite h with ⟨c_12, h⟩ | ⟨c_12, h⟩
    · refine r_t2 (pc' := 31) (L' := [(0, .ref a0), (1, .ref a1), (2, .int X2), (3, .int X3)]) hq (z_at.mk 3 rfl rfl) rfl hx3 hV_9 c_12 rfl rfl ?_
      cases h
      exact r_rv hq (z_at.mk 1 rfl rfl) rfl rfl H
    · refine r_f2 (pc' := 15) (L' := [(0, .ref a0), (1, .ref a1), (2, .int X2), (3, .int X3)]) hq (z_at.mk 3 rfl rfl) rfl hx3 hV_9 c_12 rfl rfl ?_
      refine r_p hq 3 (pc' := 18) (L' := [(0, .ref a0), (1, .ref a1), (2, .int X2), (3, .int X3)]) (st' := [.int X3, .ref a1, .ref a0]) rfl ?_
      obtain ⟨o_18, h_18, h⟩ := Option.bind_eq_some_iff.mp h
      refine r_cvI (pc' := 21) (L' := [(0, .ref a0), (1, .ref a1), (2, .int X2), (3, .int X3)]) (Ps := [.int X3]) (rest := [.ref a0]) hq (z_at.mk 3 rfl rfl) (Or.inl ⟨rfl, rfl⟩) rfl rfl (by decide) (by decide) rfl (Nat.not_lt.mpr (Nat.le_of_ble_eq_true rfl)) rfl rfl (z_cat_le 1 rfl (by decide)) (z_lgl_le 2 rfl (by decide)) (by decide) (H.tg (zIn_all (l := [56, 114]) (p := fun a => zT a 11) rfl ha1)) (by omega) (g_bs_at_ok (zIn_all (l := [56, 114]) (p := fun a => zIn [56, 58, 63, 96, 114, 116, 126, 131] a) rfl ha1) hx3 H h_18) rfl rfl ?_
      intro R_18 m_18 p_18 e_18 hR_18 H_18
      subst e_18
      refine r_p hq 1 (pc' := 22) (L' := [(0, .ref a0), (1, .ref a1), (2, .int X2), (3, .int X3)]) (st' := [.int X2, .int R_18, .ref a0]) rfl ?_
      obtain ⟨o_22, h_22, h⟩ := Option.bind_eq_some_iff.mp h
      refine r_cvV (pc' := 25) (L' := [(0, .ref a0), (1, .ref a1), (2, .int X2), (3, .int X3)]) (Ps := [.int R_18, .int X2]) (rest := []) hq (z_at.mk 3 rfl rfl) (Or.inl ⟨rfl, rfl⟩) rfl rfl (by decide) (by decide) rfl (Nat.not_lt.mpr (Nat.le_of_ble_eq_true rfl)) rfl rfl (z_cat_le 0 rfl (by decide)) (z_lgl_le 3 rfl (by decide)) (by decide) (H_18.tg (zIn_all (l := [58, 116]) (p := fun a => zT a 11) rfl ha0)) (by omega) (g_bs_addRest_ok (zIn_all (l := [58, 116]) (p := fun a => zIn [58, 116] a) rfl ha0) hR_18 hx2 H_18 h_22) rfl rfl ?_
      intro m_22 p_22 e_22 H_22
      subst e_22
      refine r_p hq 2 (pc' := 7) (L' := [(0, .ref a0), (1, .ref a1), (2, .int X2), (3, .int (X3 + (1 : Int32)))]) (st' := []) rfl ?_
      exact ih hx2 (tx_iadd hx3 (rfl : (1 : Int32).toInt = 1)) H_22 h
def g_bs_becomeRest (a0 : Nat) (a1 : Nat) (x2 : Int) (σ : zS) : Option (Unit × zS) :=
  let s_2 := zu σ a0 1 0
  g_bs_becomeRest_L7 a0 a1 zK x2 0 s_2
set_option maxHeartbeats 4000000 in
theorem g_bs_becomeRest_ok {xl : Nat} {xs : Nat → Int32} {a0 : Nat} (ha0 : zIn [58, 116] a0 = true) {a1 : Nat} (ha1 : zIn [56, 114] a1 = true) {X2 : Int32} {x2 : Int} (hx2 : X2.toInt = x2) {σ : zS} {p : Nat} {m : zM} {o : Unit × zS} (H : zRep xl xs p m σ) (h : g_bs_becomeRest a0 a1 x2 σ = some o) : zGo xl xs (fun p' => p = p') 4 18 0 (z_can 18 0 (lv_args 0 [.ref a0, .ref a1, .int X2])) [] m vV o.2 := by
  have hq : z_mth 18 = some z_r18 := rfl
  unfold g_bs_becomeRest at h
  show zGo xl xs (fun p' => p = p') 4 18 0 [(0, .ref a0), (1, .ref a1), (2, .int X2)] [] m vV o.2
  refine r_p hq 2 (pc' := 2) (L' := [(0, .ref a0), (1, .ref a1), (2, .int X2)]) (st' := [.int ((0 : Int32)), .ref a0]) rfl ?_
  refine r_pI (X := (0 : Int32)) (pc' := 5) (L' := [(0, .ref a0), (1, .ref a1), (2, .int X2)]) H hq (z_at.mk 3 rfl rfl) rfl (zIn_all (l := [58, 116]) (p := fun a => zQ a 11 1 0) rfl ha0) (rfl : (0 : Int32).toInt = 0) (by decide) rfl rfl rfl rfl ?_
  intro m_2 H_2
  refine r_p hq 2 (pc' := 7) (L' := [(0, .ref a0), (1, .ref a1), (2, .int X2), (3, .int ((0 : Int32)))]) (st' := []) rfl ?_
  exact g_bs_becomeRest_L7_ok ha0 ha1 zK hx2 (rfl : (0 : Int32).toInt = 0) H_2 h
def g_ca_forgetAll (a0 : Nat) (σ : zS) : Option (Unit × zS) :=
  let s_2 := zu σ a0 2 0
  let s_7 := zu s_2 a0 8 0
  let s_12 := zu s_7 a0 9 0
  let s_17 := zu s_12 a0 10 0
  let s_22 := zu s_17 a0 11 0
  let s_27 := zu s_22 a0 12 0
  let s_32 := zu s_27 a0 13 0
  let s_37 := zu s_32 a0 14 0
  let s_42 := zu s_37 a0 15 0
  some ((), s_42)
set_option maxHeartbeats 4000000 in
theorem g_ca_forgetAll_ok {xl : Nat} {xs : Nat → Int32} {a0 : Nat} (ha0 : zIn [48, 106] a0 = true) {σ : zS} {p : Nat} {m : zM} {o : Unit × zS} (H : zRep xl xs p m σ) (h : g_ca_forgetAll a0 σ = some o) : zGo xl xs (fun p' => p = p') 1 20 0 (z_can 20 0 (lv_args 0 [.ref a0])) [] m vV o.2 := by
  have hq : z_mth 20 = some z_r20 := rfl
  unfold g_ca_forgetAll at h
  show zGo xl xs (fun p' => p = p') 1 20 0 [(0, .ref a0)] [] m vV o.2
  refine r_p hq 2 (pc' := 2) (L' := [(0, .ref a0)]) (st' := [.int ((0 : Int32)), .ref a0]) rfl ?_
  refine r_pI (X := (0 : Int32)) (pc' := 5) (L' := [(0, .ref a0)]) H hq (z_at.mk 3 rfl rfl) rfl (zIn_all (l := [48, 106]) (p := fun a => zQ a 12 2 0) rfl ha0) (rfl : (0 : Int32).toInt = 0) (by decide) rfl rfl rfl rfl ?_
  intro m_2 H_2
  refine r_p hq 2 (pc' := 7) (L' := [(0, .ref a0)]) (st' := [.int ((0 : Int32)), .ref a0]) rfl ?_
  refine r_pI (X := (0 : Int32)) (pc' := 10) (L' := [(0, .ref a0)]) H_2 hq (z_at.mk 3 rfl rfl) rfl (zIn_all (l := [48, 106]) (p := fun a => zQ a 12 8 0) rfl ha0) (rfl : (0 : Int32).toInt = 0) (by decide) rfl rfl rfl rfl ?_
  intro m_7 H_7
  refine r_p hq 2 (pc' := 12) (L' := [(0, .ref a0)]) (st' := [.long ((0 : Int64)), .ref a0]) rfl ?_
  refine r_pL (X := (0 : Int64)) (pc' := 15) (L' := [(0, .ref a0)]) H_7 hq (z_at.mk 3 rfl rfl) rfl (zIn_all (l := [48, 106]) (p := fun a => zQ a 12 9 1) rfl ha0) (rfl : (0 : Int64).toInt = 0) (by decide) rfl rfl rfl rfl ?_
  intro m_12 H_12
  refine r_p hq 2 (pc' := 17) (L' := [(0, .ref a0)]) (st' := [.int ((0 : Int32)), .ref a0]) rfl ?_
  refine r_pI (X := (0 : Int32)) (pc' := 20) (L' := [(0, .ref a0)]) H_12 hq (z_at.mk 3 rfl rfl) rfl (zIn_all (l := [48, 106]) (p := fun a => zQ a 12 10 0) rfl ha0) (rfl : (0 : Int32).toInt = 0) (by decide) rfl rfl rfl rfl ?_
  intro m_17 H_17
  refine r_p hq 2 (pc' := 22) (L' := [(0, .ref a0)]) (st' := [.int ((0 : Int32)), .ref a0]) rfl ?_
  refine r_pI (X := (0 : Int32)) (pc' := 25) (L' := [(0, .ref a0)]) H_17 hq (z_at.mk 3 rfl rfl) rfl (zIn_all (l := [48, 106]) (p := fun a => zQ a 12 11 0) rfl ha0) (rfl : (0 : Int32).toInt = 0) (by decide) rfl rfl rfl rfl ?_
  intro m_22 H_22
  refine r_p hq 2 (pc' := 27) (L' := [(0, .ref a0)]) (st' := [.int ((0 : Int32)), .ref a0]) rfl ?_
  refine r_pI (X := (0 : Int32)) (pc' := 30) (L' := [(0, .ref a0)]) H_22 hq (z_at.mk 3 rfl rfl) rfl (zIn_all (l := [48, 106]) (p := fun a => zQ a 12 12 0) rfl ha0) (rfl : (0 : Int32).toInt = 0) (by decide) rfl rfl rfl rfl ?_
  intro m_27 H_27
  refine r_p hq 2 (pc' := 32) (L' := [(0, .ref a0)]) (st' := [.int ((0 : Int32)), .ref a0]) rfl ?_
  refine r_pI (X := (0 : Int32)) (pc' := 35) (L' := [(0, .ref a0)]) H_27 hq (z_at.mk 3 rfl rfl) rfl (zIn_all (l := [48, 106]) (p := fun a => zQ a 12 13 0) rfl ha0) (rfl : (0 : Int32).toInt = 0) (by decide) rfl rfl rfl rfl ?_
  intro m_32 H_32
  refine r_p hq 2 (pc' := 37) (L' := [(0, .ref a0)]) (st' := [.int ((0 : Int32)), .ref a0]) rfl ?_
  refine r_pI (X := (0 : Int32)) (pc' := 40) (L' := [(0, .ref a0)]) H_32 hq (z_at.mk 3 rfl rfl) rfl (zIn_all (l := [48, 106]) (p := fun a => zQ a 12 14 0) rfl ha0) (rfl : (0 : Int32).toInt = 0) (by decide) rfl rfl rfl rfl ?_
  intro m_37 H_37
  refine r_p hq 2 (pc' := 42) (L' := [(0, .ref a0)]) (st' := [.int ((0 : Int32)), .ref a0]) rfl ?_
  refine r_pI (X := (0 : Int32)) (pc' := 45) (L' := [(0, .ref a0)]) H_37 hq (z_at.mk 3 rfl rfl) rfl (zIn_all (l := [48, 106]) (p := fun a => zQ a 12 15 0) rfl ha0) (rfl : (0 : Int32).toInt = 0) (by decide) rfl rfl rfl rfl ?_
  intro m_42 H_42
  cases h
  exact r_rv hq (z_at.mk 1 rfl rfl) rfl rfl H_42
def g_se_copyFrom (a0 : Nat) (a1 : Nat) (σ : zS) : Option (Unit × zS) :=
  let s_12 := zcp σ (a1 + 1) 0 (a0 + 1) 0 7
  some ((), s_12)
set_option maxHeartbeats 4000000 in
theorem g_se_copyFrom_ok {xl : Nat} {xs : Nat → Int32} {a0 : Nat} (ha0 : zIn [49, 82, 107, 118] a0 = true) {a1 : Nat} (ha1 : zIn [49, 82, 107, 118] a1 = true) {σ : zS} {p : Nat} {m : zM} {o : Unit × zS} (H : zRep xl xs p m σ) (h : g_se_copyFrom a0 a1 σ = some o) : zGo xl xs (fun p' => p = p') 1 74 0 (z_can 74 0 (lv_args 0 [.ref a0, .ref a1])) [] m vV o.2 := by
  have hq : z_mth 74 = some z_r74 := rfl
  unfold g_se_copyFrom at h
  show zGo xl xs (fun p' => p = p') 1 74 0 [(0, .ref a0), (1, .ref a1)] [] m vV o.2
  refine r_p hq 1 (pc' := 1) (L' := [(0, .ref a0), (1, .ref a1)]) (st' := [.ref a1]) rfl ?_
  refine r_gR (b := a1 + 1) (pc' := 4) (L' := [(0, .ref a0), (1, .ref a1)]) H hq (z_at.mk 3 rfl rfl) rfl (zIn_all (l := [49, 82, 107, 118]) (p := fun a => zQ a 16 0 (100 + a + 1)) rfl ha1) rfl rfl ?_
  refine r_p hq 2 (pc' := 6) (L' := [(0, .ref a0), (1, .ref a1)]) (st' := [.ref a0, .int ((0 : Int32)), .ref (a1 + 1)]) rfl ?_
  refine r_gR (b := a0 + 1) (pc' := 9) (L' := [(0, .ref a0), (1, .ref a1)]) H hq (z_at.mk 3 rfl rfl) rfl (zIn_all (l := [49, 82, 107, 118]) (p := fun a => zQ a 16 0 (100 + a + 1)) rfl ha0) rfl rfl ?_
  refine r_p hq 2 (pc' := 12) (L' := [(0, .ref a0), (1, .ref a1)]) (st' := [.int ((7 : Int32)), .int ((0 : Int32)), .ref (a0 + 1), .int ((0 : Int32)), .ref (a1 + 1)]) rfl ?_
  refine r_cp (t := 0) (pc' := 15) (L' := [(0, .ref a0), (1, .ref a1)]) H hq (z_at.mk 3 rfl rfl) rfl (by decide) (by decide) (zIn_all (l := [49, 82, 107, 118]) (p := fun a => zAr (a + 1) 0 7) rfl ha1) (zIn_all (l := [49, 82, 107, 118]) (p := fun a => zAr (a + 1) 0 7) rfl ha0) (rfl : (0 : Int32).toInt = 0) (rfl : (0 : Int32).toInt = 0) (rfl : (7 : Int32).toInt = 7) (by decide) rfl rfl ?_
  intro m_12 H_12
  cases h
  exact r_rv hq (z_at.mk 1 rfl rfl) rfl rfl H_12
def g_ca_copyFrom (a0 : Nat) (a1 : Nat) (σ : zS) : Option (Unit × zS) :=
  (g_se_copyFrom (a0 + 1) (a1 + 1) σ).bind fun o_8 =>
  let s_24 := zcp o_8.2 (a1 + 3) 0 (a0 + 3) 0 181
  let s_40 := zcp s_24 (a1 + 4) 0 (a0 + 4) 0 181
  let s_56 := zcp s_40 (a1 + 5) 0 (a0 + 5) 0 181
  let s_72 := zcp s_56 (a1 + 6) 0 (a0 + 6) 0 181
  let s_88 := zcp s_72 (a1 + 7) 0 (a0 + 7) 0 181
  let v_93 := s_88 a1 2
  let s_96 := zu s_88 a0 2 v_93
  let v_101 := s_96 a1 8
  let s_104 := zu s_96 a0 8 v_101
  let v_109 := s_104 a1 9
  let s_112 := zu s_104 a0 9 v_109
  let v_117 := s_112 a1 10
  let s_120 := zu s_112 a0 10 v_117
  let v_125 := s_120 a1 11
  let s_128 := zu s_120 a0 11 v_125
  let v_133 := s_128 a1 12
  let s_136 := zu s_128 a0 12 v_133
  let v_141 := s_136 a1 13
  let s_144 := zu s_136 a0 13 v_141
  let v_149 := s_144 a1 14
  let s_152 := zu s_144 a0 14 v_149
  let v_157 := s_152 a1 15
  let s_160 := zu s_152 a0 15 v_157
  some ((), s_160)
set_option maxHeartbeats 4000000 in
theorem g_ca_copyFrom_ok {xl : Nat} {xs : Nat → Int32} {a0 : Nat} (ha0 : zIn [48, 81] a0 = true) {a1 : Nat} (ha1 : zIn [48, 81] a1 = true) {σ : zS} {p : Nat} {m : zM} {o : Unit × zS} (H : zRep xl xs p m σ) (h : g_ca_copyFrom a0 a1 σ = some o) : zGo xl xs (fun p' => p = p') 2 21 0 (z_can 21 0 (lv_args 0 [.ref a0, .ref a1])) [] m vV o.2 := by
  have hq : z_mth 21 = some z_r21 := rfl
  unfold g_ca_copyFrom at h
  show zGo xl xs (fun p' => p = p') 2 21 0 [(0, .ref a0), (1, .ref a1)] [] m vV o.2
  refine r_p hq 1 (pc' := 1) (L' := [(0, .ref a0), (1, .ref a1)]) (st' := [.ref a0]) rfl ?_
  refine r_gR (b := a0 + 1) (pc' := 4) (L' := [(0, .ref a0), (1, .ref a1)]) H hq (z_at.mk 3 rfl rfl) rfl (zIn_all (l := [48, 81]) (p := fun a => zQ a 12 1 (100 + a + 1)) rfl ha0) rfl rfl ?_
  refine r_p hq 1 (pc' := 5) (L' := [(0, .ref a0), (1, .ref a1)]) (st' := [.ref a1, .ref (a0 + 1)]) rfl ?_
  refine r_gR (b := a1 + 1) (pc' := 8) (L' := [(0, .ref a0), (1, .ref a1)]) H hq (z_at.mk 3 rfl rfl) rfl (zIn_all (l := [48, 81]) (p := fun a => zQ a 12 1 (100 + a + 1)) rfl ha1) rfl rfl ?_
  obtain ⟨o_8, h_8, h⟩ := Option.bind_eq_some_iff.mp h
  refine r_cvV (pc' := 11) (L' := [(0, .ref a0), (1, .ref a1)]) (Ps := [.ref (a1 + 1)]) (rest := []) hq (z_at.mk 3 rfl rfl) (Or.inl ⟨rfl, rfl⟩) rfl rfl (by decide) (by decide) rfl (Nat.not_lt.mpr (Nat.le_of_ble_eq_true rfl)) rfl rfl (z_cat_le 0 rfl (by decide)) (z_lgl_le 2 rfl (by decide)) (by decide) (H.tg (zIn_all (l := [48, 81]) (p := fun a => zT (a + 1) 16) rfl ha0)) (by omega) (g_se_copyFrom_ok (zIn_all (l := [48, 81]) (p := fun a => zIn [49, 82, 107, 118] (a + 1)) rfl ha0) (zIn_all (l := [48, 81]) (p := fun a => zIn [49, 82, 107, 118] (a + 1)) rfl ha1) H h_8) rfl rfl ?_
  intro m_8 p_8 e_8 H_8
  subst e_8
  refine r_p hq 1 (pc' := 12) (L' := [(0, .ref a0), (1, .ref a1)]) (st' := [.ref a1]) rfl ?_
  refine r_gR (b := a1 + 3) (pc' := 15) (L' := [(0, .ref a0), (1, .ref a1)]) H_8 hq (z_at.mk 3 rfl rfl) rfl (zIn_all (l := [48, 81]) (p := fun a => zQ a 12 3 (100 + a + 3)) rfl ha1) rfl rfl ?_
  refine r_p hq 2 (pc' := 17) (L' := [(0, .ref a0), (1, .ref a1)]) (st' := [.ref a0, .int ((0 : Int32)), .ref (a1 + 3)]) rfl ?_
  refine r_gR (b := a0 + 3) (pc' := 20) (L' := [(0, .ref a0), (1, .ref a1)]) H_8 hq (z_at.mk 3 rfl rfl) rfl (zIn_all (l := [48, 81]) (p := fun a => zQ a 12 3 (100 + a + 3)) rfl ha0) rfl rfl ?_
  refine r_p hq 2 (pc' := 24) (L' := [(0, .ref a0), (1, .ref a1)]) (st' := [.int ((181 : Int32)), .int ((0 : Int32)), .ref (a0 + 3), .int ((0 : Int32)), .ref (a1 + 3)]) rfl ?_
  refine r_cp (t := 0) (pc' := 27) (L' := [(0, .ref a0), (1, .ref a1)]) H_8 hq (z_at.mk 3 rfl rfl) rfl (by decide) (by decide) (zIn_all (l := [48, 81]) (p := fun a => zAr (a + 3) 0 181) rfl ha1) (zIn_all (l := [48, 81]) (p := fun a => zAr (a + 3) 0 181) rfl ha0) (rfl : (0 : Int32).toInt = 0) (rfl : (0 : Int32).toInt = 0) (rfl : (181 : Int32).toInt = 181) (by decide) rfl rfl ?_
  intro m_24 H_24
  refine r_p hq 1 (pc' := 28) (L' := [(0, .ref a0), (1, .ref a1)]) (st' := [.ref a1]) rfl ?_
  refine r_gR (b := a1 + 4) (pc' := 31) (L' := [(0, .ref a0), (1, .ref a1)]) H_24 hq (z_at.mk 3 rfl rfl) rfl (zIn_all (l := [48, 81]) (p := fun a => zQ a 12 4 (100 + a + 4)) rfl ha1) rfl rfl ?_
  refine r_p hq 2 (pc' := 33) (L' := [(0, .ref a0), (1, .ref a1)]) (st' := [.ref a0, .int ((0 : Int32)), .ref (a1 + 4)]) rfl ?_
  refine r_gR (b := a0 + 4) (pc' := 36) (L' := [(0, .ref a0), (1, .ref a1)]) H_24 hq (z_at.mk 3 rfl rfl) rfl (zIn_all (l := [48, 81]) (p := fun a => zQ a 12 4 (100 + a + 4)) rfl ha0) rfl rfl ?_
  refine r_p hq 2 (pc' := 40) (L' := [(0, .ref a0), (1, .ref a1)]) (st' := [.int ((181 : Int32)), .int ((0 : Int32)), .ref (a0 + 4), .int ((0 : Int32)), .ref (a1 + 4)]) rfl ?_
  refine r_cp (t := 0) (pc' := 43) (L' := [(0, .ref a0), (1, .ref a1)]) H_24 hq (z_at.mk 3 rfl rfl) rfl (by decide) (by decide) (zIn_all (l := [48, 81]) (p := fun a => zAr (a + 4) 0 181) rfl ha1) (zIn_all (l := [48, 81]) (p := fun a => zAr (a + 4) 0 181) rfl ha0) (rfl : (0 : Int32).toInt = 0) (rfl : (0 : Int32).toInt = 0) (rfl : (181 : Int32).toInt = 181) (by decide) rfl rfl ?_
  intro m_40 H_40
  refine r_p hq 1 (pc' := 44) (L' := [(0, .ref a0), (1, .ref a1)]) (st' := [.ref a1]) rfl ?_
  refine r_gR (b := a1 + 5) (pc' := 47) (L' := [(0, .ref a0), (1, .ref a1)]) H_40 hq (z_at.mk 3 rfl rfl) rfl (zIn_all (l := [48, 81]) (p := fun a => zQ a 12 5 (100 + a + 5)) rfl ha1) rfl rfl ?_
  refine r_p hq 2 (pc' := 49) (L' := [(0, .ref a0), (1, .ref a1)]) (st' := [.ref a0, .int ((0 : Int32)), .ref (a1 + 5)]) rfl ?_
  refine r_gR (b := a0 + 5) (pc' := 52) (L' := [(0, .ref a0), (1, .ref a1)]) H_40 hq (z_at.mk 3 rfl rfl) rfl (zIn_all (l := [48, 81]) (p := fun a => zQ a 12 5 (100 + a + 5)) rfl ha0) rfl rfl ?_
  refine r_p hq 2 (pc' := 56) (L' := [(0, .ref a0), (1, .ref a1)]) (st' := [.int ((181 : Int32)), .int ((0 : Int32)), .ref (a0 + 5), .int ((0 : Int32)), .ref (a1 + 5)]) rfl ?_
  refine r_cp (t := 0) (pc' := 59) (L' := [(0, .ref a0), (1, .ref a1)]) H_40 hq (z_at.mk 3 rfl rfl) rfl (by decide) (by decide) (zIn_all (l := [48, 81]) (p := fun a => zAr (a + 5) 0 181) rfl ha1) (zIn_all (l := [48, 81]) (p := fun a => zAr (a + 5) 0 181) rfl ha0) (rfl : (0 : Int32).toInt = 0) (rfl : (0 : Int32).toInt = 0) (rfl : (181 : Int32).toInt = 181) (by decide) rfl rfl ?_
  intro m_56 H_56
  refine r_p hq 1 (pc' := 60) (L' := [(0, .ref a0), (1, .ref a1)]) (st' := [.ref a1]) rfl ?_
  refine r_gR (b := a1 + 6) (pc' := 63) (L' := [(0, .ref a0), (1, .ref a1)]) H_56 hq (z_at.mk 3 rfl rfl) rfl (zIn_all (l := [48, 81]) (p := fun a => zQ a 12 6 (100 + a + 6)) rfl ha1) rfl rfl ?_
  refine r_p hq 2 (pc' := 65) (L' := [(0, .ref a0), (1, .ref a1)]) (st' := [.ref a0, .int ((0 : Int32)), .ref (a1 + 6)]) rfl ?_
  refine r_gR (b := a0 + 6) (pc' := 68) (L' := [(0, .ref a0), (1, .ref a1)]) H_56 hq (z_at.mk 3 rfl rfl) rfl (zIn_all (l := [48, 81]) (p := fun a => zQ a 12 6 (100 + a + 6)) rfl ha0) rfl rfl ?_
  refine r_p hq 2 (pc' := 72) (L' := [(0, .ref a0), (1, .ref a1)]) (st' := [.int ((181 : Int32)), .int ((0 : Int32)), .ref (a0 + 6), .int ((0 : Int32)), .ref (a1 + 6)]) rfl ?_
  refine r_cp (t := 0) (pc' := 75) (L' := [(0, .ref a0), (1, .ref a1)]) H_56 hq (z_at.mk 3 rfl rfl) rfl (by decide) (by decide) (zIn_all (l := [48, 81]) (p := fun a => zAr (a + 6) 0 181) rfl ha1) (zIn_all (l := [48, 81]) (p := fun a => zAr (a + 6) 0 181) rfl ha0) (rfl : (0 : Int32).toInt = 0) (rfl : (0 : Int32).toInt = 0) (rfl : (181 : Int32).toInt = 181) (by decide) rfl rfl ?_
  intro m_72 H_72
  refine r_p hq 1 (pc' := 76) (L' := [(0, .ref a0), (1, .ref a1)]) (st' := [.ref a1]) rfl ?_
  refine r_gR (b := a1 + 7) (pc' := 79) (L' := [(0, .ref a0), (1, .ref a1)]) H_72 hq (z_at.mk 3 rfl rfl) rfl (zIn_all (l := [48, 81]) (p := fun a => zQ a 12 7 (100 + a + 7)) rfl ha1) rfl rfl ?_
  refine r_p hq 2 (pc' := 81) (L' := [(0, .ref a0), (1, .ref a1)]) (st' := [.ref a0, .int ((0 : Int32)), .ref (a1 + 7)]) rfl ?_
  refine r_gR (b := a0 + 7) (pc' := 84) (L' := [(0, .ref a0), (1, .ref a1)]) H_72 hq (z_at.mk 3 rfl rfl) rfl (zIn_all (l := [48, 81]) (p := fun a => zQ a 12 7 (100 + a + 7)) rfl ha0) rfl rfl ?_
  refine r_p hq 2 (pc' := 88) (L' := [(0, .ref a0), (1, .ref a1)]) (st' := [.int ((181 : Int32)), .int ((0 : Int32)), .ref (a0 + 7), .int ((0 : Int32)), .ref (a1 + 7)]) rfl ?_
  refine r_cp (t := 1) (pc' := 91) (L' := [(0, .ref a0), (1, .ref a1)]) H_72 hq (z_at.mk 3 rfl rfl) rfl (by decide) (by decide) (zIn_all (l := [48, 81]) (p := fun a => zAr (a + 7) 1 181) rfl ha1) (zIn_all (l := [48, 81]) (p := fun a => zAr (a + 7) 1 181) rfl ha0) (rfl : (0 : Int32).toInt = 0) (rfl : (0 : Int32).toInt = 0) (rfl : (181 : Int32).toInt = 181) (by decide) rfl rfl ?_
  intro m_88 H_88
  refine r_p hq 2 (pc' := 93) (L' := [(0, .ref a0), (1, .ref a1)]) (st' := [.ref a1, .ref a0]) rfl ?_
  refine r_gI (pc' := 96) (L' := [(0, .ref a0), (1, .ref a1)]) H_88 hq (z_at.mk 3 rfl rfl) rfl (zIn_all (l := [48, 81]) (p := fun a => zQ a 12 2 0) rfl ha1) rfl rfl ?_
  intro V_93 hV_93
  refine r_pI (X := V_93) (pc' := 99) (L' := [(0, .ref a0), (1, .ref a1)]) H_88 hq (z_at.mk 3 rfl rfl) rfl (zIn_all (l := [48, 81]) (p := fun a => zQ a 12 2 0) rfl ha0) hV_93 (by decide) rfl rfl rfl rfl ?_
  intro m_96 H_96
  refine r_p hq 2 (pc' := 101) (L' := [(0, .ref a0), (1, .ref a1)]) (st' := [.ref a1, .ref a0]) rfl ?_
  refine r_gI (pc' := 104) (L' := [(0, .ref a0), (1, .ref a1)]) H_96 hq (z_at.mk 3 rfl rfl) rfl (zIn_all (l := [48, 81]) (p := fun a => zQ a 12 8 0) rfl ha1) rfl rfl ?_
  intro V_101 hV_101
  refine r_pI (X := V_101) (pc' := 107) (L' := [(0, .ref a0), (1, .ref a1)]) H_96 hq (z_at.mk 3 rfl rfl) rfl (zIn_all (l := [48, 81]) (p := fun a => zQ a 12 8 0) rfl ha0) hV_101 (by decide) rfl rfl rfl rfl ?_
  intro m_104 H_104
  refine r_p hq 2 (pc' := 109) (L' := [(0, .ref a0), (1, .ref a1)]) (st' := [.ref a1, .ref a0]) rfl ?_
  refine r_gL (pc' := 112) (L' := [(0, .ref a0), (1, .ref a1)]) H_104 hq (z_at.mk 3 rfl rfl) rfl (zIn_all (l := [48, 81]) (p := fun a => zQ a 12 9 1) rfl ha1) rfl rfl ?_
  intro V_109 hV_109
  refine r_pL (X := V_109) (pc' := 115) (L' := [(0, .ref a0), (1, .ref a1)]) H_104 hq (z_at.mk 3 rfl rfl) rfl (zIn_all (l := [48, 81]) (p := fun a => zQ a 12 9 1) rfl ha0) hV_109 (by decide) rfl rfl rfl rfl ?_
  intro m_112 H_112
  refine r_p hq 2 (pc' := 117) (L' := [(0, .ref a0), (1, .ref a1)]) (st' := [.ref a1, .ref a0]) rfl ?_
  refine r_gI (pc' := 120) (L' := [(0, .ref a0), (1, .ref a1)]) H_112 hq (z_at.mk 3 rfl rfl) rfl (zIn_all (l := [48, 81]) (p := fun a => zQ a 12 10 0) rfl ha1) rfl rfl ?_
  intro V_117 hV_117
  refine r_pI (X := V_117) (pc' := 123) (L' := [(0, .ref a0), (1, .ref a1)]) H_112 hq (z_at.mk 3 rfl rfl) rfl (zIn_all (l := [48, 81]) (p := fun a => zQ a 12 10 0) rfl ha0) hV_117 (by decide) rfl rfl rfl rfl ?_
  intro m_120 H_120
  refine r_p hq 2 (pc' := 125) (L' := [(0, .ref a0), (1, .ref a1)]) (st' := [.ref a1, .ref a0]) rfl ?_
  refine r_gI (pc' := 128) (L' := [(0, .ref a0), (1, .ref a1)]) H_120 hq (z_at.mk 3 rfl rfl) rfl (zIn_all (l := [48, 81]) (p := fun a => zQ a 12 11 0) rfl ha1) rfl rfl ?_
  intro V_125 hV_125
  refine r_pI (X := V_125) (pc' := 131) (L' := [(0, .ref a0), (1, .ref a1)]) H_120 hq (z_at.mk 3 rfl rfl) rfl (zIn_all (l := [48, 81]) (p := fun a => zQ a 12 11 0) rfl ha0) hV_125 (by decide) rfl rfl rfl rfl ?_
  intro m_128 H_128
  refine r_p hq 2 (pc' := 133) (L' := [(0, .ref a0), (1, .ref a1)]) (st' := [.ref a1, .ref a0]) rfl ?_
  refine r_gI (pc' := 136) (L' := [(0, .ref a0), (1, .ref a1)]) H_128 hq (z_at.mk 3 rfl rfl) rfl (zIn_all (l := [48, 81]) (p := fun a => zQ a 12 12 0) rfl ha1) rfl rfl ?_
  intro V_133 hV_133
  refine r_pI (X := V_133) (pc' := 139) (L' := [(0, .ref a0), (1, .ref a1)]) H_128 hq (z_at.mk 3 rfl rfl) rfl (zIn_all (l := [48, 81]) (p := fun a => zQ a 12 12 0) rfl ha0) hV_133 (by decide) rfl rfl rfl rfl ?_
  intro m_136 H_136
  refine r_p hq 2 (pc' := 141) (L' := [(0, .ref a0), (1, .ref a1)]) (st' := [.ref a1, .ref a0]) rfl ?_
  refine r_gI (pc' := 144) (L' := [(0, .ref a0), (1, .ref a1)]) H_136 hq (z_at.mk 3 rfl rfl) rfl (zIn_all (l := [48, 81]) (p := fun a => zQ a 12 13 0) rfl ha1) rfl rfl ?_
  intro V_141 hV_141
  refine r_pI (X := V_141) (pc' := 147) (L' := [(0, .ref a0), (1, .ref a1)]) H_136 hq (z_at.mk 3 rfl rfl) rfl (zIn_all (l := [48, 81]) (p := fun a => zQ a 12 13 0) rfl ha0) hV_141 (by decide) rfl rfl rfl rfl ?_
  intro m_144 H_144
  refine r_p hq 2 (pc' := 149) (L' := [(0, .ref a0), (1, .ref a1)]) (st' := [.ref a1, .ref a0]) rfl ?_
  refine r_gI (pc' := 152) (L' := [(0, .ref a0), (1, .ref a1)]) H_144 hq (z_at.mk 3 rfl rfl) rfl (zIn_all (l := [48, 81]) (p := fun a => zQ a 12 14 0) rfl ha1) rfl rfl ?_
  intro V_149 hV_149
  refine r_pI (X := V_149) (pc' := 155) (L' := [(0, .ref a0), (1, .ref a1)]) H_144 hq (z_at.mk 3 rfl rfl) rfl (zIn_all (l := [48, 81]) (p := fun a => zQ a 12 14 0) rfl ha0) hV_149 (by decide) rfl rfl rfl rfl ?_
  intro m_152 H_152
  refine r_p hq 2 (pc' := 157) (L' := [(0, .ref a0), (1, .ref a1)]) (st' := [.ref a1, .ref a0]) rfl ?_
  refine r_gI (pc' := 160) (L' := [(0, .ref a0), (1, .ref a1)]) H_152 hq (z_at.mk 3 rfl rfl) rfl (zIn_all (l := [48, 81]) (p := fun a => zQ a 12 15 0) rfl ha1) rfl rfl ?_
  intro V_157 hV_157
  refine r_pI (X := V_157) (pc' := 163) (L' := [(0, .ref a0), (1, .ref a1)]) H_152 hq (z_at.mk 3 rfl rfl) rfl (zIn_all (l := [48, 81]) (p := fun a => zQ a 12 15 0) rfl ha0) hV_157 (by decide) rfl rfl rfl rfl ?_
  intro m_160 H_160
  cases h
  exact r_rv hq (z_at.mk 1 rfl rfl) rfl rfl H_160
end
