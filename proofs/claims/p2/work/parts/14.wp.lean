/-! WHAT IS KNOWN OF A MEMORY, as a table, and runs to an end that a predicate holds of -/
abbrev wR : Type := Nat × Nat × List (Nat × Value) × Option Value
abbrev wT : Type := List (Nat × wR)
def w_at (r : wR) (j : Nat) : Option Value := match r.2.2.1.find? (fun p => p.1 == j) with
  | some p => some p.2
  | none => r.2.2.2
def w_row (T : wT) (a : Nat) : Option wR := (T.find? (fun p => p.1 == a)).map (fun p => p.2)
def w_el (t : Nat) (f : Nat → Value) : Prop := (t = 0 ∨ t = 2 → ∀ j, ∃ x : Int32, f j = .int x) ∧ (t = 1 → ∀ j, ∃ x : Int64, f j = .long x)
def w_ok (L : Nat) (xs : Nat → Int32) (N S : Nat) (T : wT) (μ : zM) : Prop :=
  μ.1.length = N ∧ z_slt μ = S + z_slt (z_mu0 L xs) ∧ 39 ≤ N ∧ (∀ a, a < 39 → μ.1[a]? = (z_sh0 L)[a]? ∧ ∀ j, μ.2 a j = z_m0 xs a j) ∧ ∀ a r, w_row T a = some r → 39 ≤ a ∧ μ.1[a]? = some (r.1, r.2.1) ∧ w_el r.1 (μ.2 a) ∧ ∀ j v, j < r.2.1 → w_at r j = some v → μ.2 a j = v
def w_g (T : wT) (tg a f : Nat) : Option Value := match w_row T a with
  | some r => if r.1 = tg then (if f < r.2.1 then w_at r f else none) else none
  | none => none
def w_put (r : wR) (f : Nat) (u : Value) : wR := (r.1, r.2.1, (f, u) :: r.2.2.1.filter (fun p => !(p.1 == f)), r.2.2.2)
def w_pr (T : wT) (tg a f : Nat) (u : Value) : Option wR := match w_row T a with
  | some r => if r.1 = tg then (if f < r.2.1 then some (w_put r f u) else none) else none
  | none => none
def w_new (c : Nat) : wR := (10 + c, (z_cls.getD c ("", z_T0, 0)).2.2, (List.range (z_cls.getD c ("", z_T0, 0)).2.2).map (fun k => (k, z_dv ((z_tys.getD c []).getD k .int))), none)
/-- runs from there to an end of which Q holds -/
def z_W (d k pc : Nat) (L : zL) (st : List Value) (μ : zM) (Q : Option Value → zM → Prop) : Prop := ∃ v μ', z_Ev d k pc L st μ v μ' ∧ Q v μ'
theorem w_row_cons (a b : Nat) (r : wR) (T : wT) : w_row ((a, r) :: T) b = if a = b then some r else w_row T b := by
  unfold w_row
  rw [List.find?_cons]
  by_cases h : a = b
  · subst h; simp
  · rw [if_neg h]
    have : ((a, r).1 == b) = false := by simpa using h
    rw [this]
theorem w_put_at (r : wR) (f : Nat) (u : Value) (j : Nat) (v : Value) (h : w_at (w_put r f u) j = some v) : if j = f then v = u else w_at r j = some v := by
  unfold w_at w_put at h
  dsimp only at h
  rw [List.find?_cons] at h
  by_cases hj : j = f
  · subst hj
    rw [if_pos rfl]
    simp at h
    exact h.symm
  · rw [if_neg hj]
    have h1 : (((f, u) : Nat × Value).1 == j) = false := by simpa using fun e => hj e.symm
    rw [h1] at h
    have h2 : (r.2.2.1.filter (fun p => !(p.1 == f))).find? (fun p => p.1 == j) = r.2.2.1.find? (fun p => p.1 == j) := by
      rw [List.find?_filter]
      congr 1
      funext p
      by_cases hp : p.1 = j
      · have : ¬ p.1 = f := fun e => hj (hp.symm.trans e)
        simp [hp, hj]
      · simp [hp]
    dsimp only at h
    rw [h2] at h
    exact h
section ZWP
variable {xl : Nat} {xs : Nat → Int32} {N S : Nat} {T : wT}
variable {q : z_R} {d k pc pc' : Nat} {L L' : zL} {st st' r : List Value} {μ : zM} {Q : Option Value → zM → Prop}
theorem w_ok.g (H : w_ok xl xs N S T μ) {tg a f : Nat} {u : Value} (h : w_g T tg a f = some u) : z_tg μ a = tg ∧ f < z_n μ a ∧ μ.2 a f = u := by
  unfold w_g at h
  cases hr : w_row T a with
  | none => rw [hr] at h; cases h
  | some r =>
    rw [hr] at h
    dsimp only at h
    obtain ⟨h1, h⟩ := z_ifo_some h
    obtain ⟨h2, h⟩ := z_ifo_some h
    obtain ⟨g1, g2, g3, g4⟩ := H.2.2.2.2 a r hr
    refine ⟨?_, ?_, g4 f u h2 h⟩
    · unfold z_tg; rw [g2]; exact h1
    · unfold z_n; rw [g2]; exact h2
theorem w_ok.t (H : w_ok xl xs N S T μ) {tg a : Nat} (h : (w_row T a).map (fun r => r.1) = some tg) : z_tg μ a = tg := by
  obtain ⟨r, hr, rfl⟩ := Option.map_eq_some_iff.mp h
  unfold z_tg
  rw [(H.2.2.2.2 a r hr).2.1]
  rfl
theorem w_ok.te (H : w_ok xl xs N S T μ) {tg n a : Nat} (ha : a < 39) (h : (z_sh0 xl)[a]? = some (tg, n)) : z_tg μ a = tg ∧ z_n μ a = n := by
  have := (H.2.2.2.1 a ha).1.trans h
  unfold z_tg z_n
  rw [this]
  exact ⟨rfl, rfl⟩
theorem w_slt_wr (μ : zM) (a i : Nat) (v : Value) : z_slt (z_wr μ a i v) = z_slt μ := rfl
theorem w_ok.wr (H : w_ok xl xs N S T μ) {tg a f : Nat} {u : Value} {r' : wR} (h : w_pr T tg a f u = some r') (hu : (tg = 0 ∨ tg = 2 → ∃ x : Int32, u = .int x) ∧ (tg = 1 → ∃ x : Int64, u = .long x)) : 39 ≤ a ∧ z_tg μ a = tg ∧ f < z_n μ a ∧ w_ok xl xs N S ((a, r') :: T) (z_wr μ a f u) := by
  unfold w_pr at h
  cases hr : w_row T a with
  | none => rw [hr] at h; cases h
  | some r =>
    rw [hr] at h
    dsimp only at h
    obtain ⟨h1, h⟩ := z_ifo_some h
    obtain ⟨h2, rfl⟩ := z_if_some h
    obtain ⟨H1, H2, H3, H4, H5⟩ := H
    obtain ⟨g1, g2, g3, g4⟩ := H5 a r hr
    refine ⟨g1, ?_, ?_, H1, H2, H3, fun b hb => ⟨(H4 b hb).1, fun j => ?_⟩, fun b r2 hb => ?_⟩
    · unfold z_tg; rw [g2]; exact h1
    · unfold z_n; rw [g2]; exact h2
    · show (if b = a then _ else μ.2 b j) = _
      rw [if_neg (by omega)]
      exact (H4 b hb).2 j
    · rw [w_row_cons] at hb
      by_cases hab : a = b
      · subst hab
        rw [if_pos rfl] at hb
        cases hb
        refine ⟨g1, g2, ⟨fun ht j => ?_, fun ht j => ?_⟩, fun j v hj hv => ?_⟩
        · show ∃ x : Int32, (if a = a then (if j = f then u else μ.2 a j) else μ.2 a j) = .int x
          rw [if_pos rfl]
          by_cases hjf : j = f
          · rw [if_pos hjf]; exact hu.1 (by rw [← h1]; exact ht)
          · rw [if_neg hjf]; exact g3.1 ht j
        · show ∃ x : Int64, (if a = a then (if j = f then u else μ.2 a j) else μ.2 a j) = .long x
          rw [if_pos rfl]
          by_cases hjf : j = f
          · rw [if_pos hjf]; exact hu.2 (by rw [← h1]; exact ht)
          · rw [if_neg hjf]; exact g3.2 ht j
        · have hw := w_put_at r f u j v hv
          show (if a = a then (if j = f then u else μ.2 a j) else μ.2 a j) = v
          rw [if_pos rfl]
          by_cases hjf : j = f
          · rw [if_pos hjf] at hw ⊢; exact hw.symm
          · rw [if_neg hjf] at hw ⊢; exact g4 j v hj hw
      · rw [if_neg hab] at hb
        obtain ⟨k1, k2, k3, k4⟩ := H5 b r2 hb
        have e : (z_wr μ a f u).2 b = μ.2 b := funext fun j => if_neg (fun e => hab e.symm)
        refine ⟨k1, k2, ?_, ?_⟩
        · rw [e]; exact k3
        · rw [e]; exact k4
theorem w_ok.al (H : w_ok xl xs N S T μ) {t n : Nat} {g : Nat → Value} {r' : wR} (ht : r'.1 = t) (hn : r'.2.1 = n) (hel : w_el t g) (hv : ∀ j v, j < n → w_at r' j = some v → g j = v) {N' S' : Nat} (hN : N + 1 = N') (hS : S + n = S') : w_ok xl xs N' S' ((N, r') :: T) (z_al μ t n g) := by
  obtain ⟨H1, H2, H3, H4, H5⟩ := H
  subst hN hS ht hn
  refine ⟨by simp [z_al, H1], by rw [z_slt_al, H2]; omega, by omega, fun b hb => ⟨?_, fun j => ?_⟩, fun b r2 hb => ?_⟩
  · rw [← (H4 b hb).1]
    show (μ.1 ++ [_])[b]? = _
    exact List.getElem?_append_left (by omega)
  · show (if b = μ.1.length then g j else μ.2 b j) = _
    rw [if_neg (by omega)]
    exact (H4 b hb).2 j
  · rw [w_row_cons] at hb
    by_cases hab : N = b
    · subst hab
      rw [if_pos rfl] at hb
      cases hb
      have e : (z_al μ r'.1 r'.2.1 g).2 N = g := funext fun j => if_pos H1.symm
      refine ⟨H3, ?_, by rw [e]; exact hel, by rw [e]; exact hv⟩
      show (μ.1 ++ [_])[N]? = _
      rw [List.getElem?_append_right (by omega), H1, Nat.sub_self]
      rfl
    · rw [if_neg hab] at hb
      obtain ⟨k1, k2, k3, k4⟩ := H5 b r2 hb
      have hlt : b < μ.1.length := (List.getElem?_eq_some_iff.mp k2).1
      have e : (z_al μ r'.1 r'.2.1 g).2 b = μ.2 b := funext fun j => if_neg (by omega)
      refine ⟨k1, ?_, by rw [e]; exact k3, by rw [e]; exact k4⟩
      show (μ.1 ++ [_])[b]? = _
      rw [List.getElem?_append_left hlt]
      exact k2
theorem w_ok.sub (H : w_ok xl xs N S T μ) {T' : wT} (h : ∀ a r, w_row T' a = some r → w_row T a = some r) : w_ok xl xs N S T' μ :=
  ⟨H.1, H.2.1, H.2.2.1, H.2.2.2.1, fun a r hr => H.2.2.2.2 a r (h a r hr)⟩
/-- one step, or some -/
theorem w_x {μ2 : zM} {d' k' : Nat} (h : ∀ v μ', z_Ev d' k' pc' L' st' μ2 v μ' → z_Ev d k pc L st μ v μ') (kk : z_W d' k' pc' L' st' μ2 Q) : z_W d k pc L st μ Q := by
  obtain ⟨v, μ', h1, h2⟩ := kk
  exact ⟨v, μ', h v μ' h1, h2⟩
theorem w_p (hq : z_mth k = some q) (n : Nat) (h : z_rn q k n (pc, L, st, μ) = some (pc', L', st', μ)) (kk : z_W d k pc' L' st' μ Q) : z_W d k pc L st μ Q := w_x (fun _ _ e => ev_r hq n h e) kk
theorem w_gf (H : w_ok xl xs N S T μ) {idx a tg f wp : Nat} {u : Value} (hq : z_mth k = some q) (hi : z_at q pc (.getfield idx)) (hl : z_lk z_FL q.2.2.2.2.1 idx = some (tg, f, wp)) (h : w_g T tg a f = some u) (e1 : pc + 3 = pc') (e2 : z_can k pc' L = L') (kk : z_W d k pc' L' (u :: r) μ Q) : z_W d k pc L (.ref a :: r) μ Q := by
  subst e1
  obtain ⟨g1, -, g3⟩ := H.g h
  exact w_x (fun _ _ e => ev_s hq hi rfl (z_getf_step hl g1 g3) e2 e) kk
theorem w_gs (H : w_ok xl xs N S T μ) {idx a tg f wp n : Nat} {u : Value} (hq : z_mth k = some q) (hi : z_at q pc (.getfield idx)) (hl : z_lk z_FL q.2.2.2.2.1 idx = some (tg, f, wp)) (ha : a < 39) (h1 : (z_sh0 xl)[a]? = some (tg, n)) (h2 : z_m0 xs a f = u) (e1 : pc + 3 = pc') (e2 : z_can k pc' L = L') (kk : z_W d k pc' L' (u :: r) μ Q) : z_W d k pc L (.ref a :: r) μ Q := by
  subst e1
  exact w_x (fun _ _ e => ev_s hq hi rfl (z_getf_step hl (H.te ha h1).1 (((H.2.2.2.1 a ha).2 f).trans h2)) e2 e) kk
theorem w_pf (H : w_ok xl xs N S T μ) {idx a tg f wp : Nat} {u : Value} (r' : wR) (hq : z_mth k = some q) (hi : z_at q pc (.putfield idx)) (hl : z_lk z_FL q.2.2.2.2.1 idx = some (tg, f, wp)) (h10 : 10 ≤ tg) (hf : z_fit ((z_tys.getD (tg - 10) []).getD f .int) u = true) (hn : ((z_cls.getD (tg - 10) ("", z_T0, 0)).2.1 f).2.2.2 = false ∨ ((q.1.name == "<init>") = true ∧ tg - 10 = q.2.2.2.2.1 ∧ q.2.2.2.2.1 < 13)) (h : w_pr T tg a f u = some r') (e1 : pc + 3 = pc') (e2 : z_can k pc' L = L') (kk : ∀ μ2, w_ok xl xs N S ((a, r') :: T) μ2 → z_W d k pc' L' r μ2 Q) : z_W d k pc L (u :: .ref a :: r) μ Q := by
  subst e1
  obtain ⟨g1, g2, g3, g4⟩ := H.wr h ⟨fun h => by omega, fun h => by omega⟩
  exact w_x (fun _ _ e => ev_s hq hi rfl (z_putf_step hl ⟨g1, h10, g2, hf, hn⟩) e2 e) (kk _ g4)
theorem w_al {i : Instr} (H : w_ok xl xs N S T μ) {a t j : Nat} {y : Int32} {u : Value} (hq : z_mth k = some q) (hi : z_at q pc i) (hr : (match i with | .return_ | .ireturn | .lreturn | .areturn | .invokevirtual _ => false | _ => true) = true) (hz : z_step q.2.2.2.2.1 q.2.2.1 (q.1.name == "<init>") i pc L (.int y :: .ref a :: r) μ = z_ld μ t pc L a y r) (hy : y.toInt = j) (h : w_g T t a j = some u) (e1 : pc + 1 = pc') (e2 : z_can k pc' L = L') (kk : z_W d k pc' L' (u :: r) μ Q) : z_W d k pc L (.int y :: .ref a :: r) μ Q := by
  subst e1
  obtain ⟨g1, g2, g3⟩ := H.g h
  have e : y.toNatClampNeg = j := by
    show y.toInt.toNat = j
    omega
  refine w_x (fun _ _ e => ev_s hq hi hr (hz.trans (z_ld_ok g1 ?_ (by rw [‹y.toNatClampNeg = j›]; exact g3))) e2 e) kk
  unfold z_in
  rw [decide_eq_true (show 0 ≤ y.toInt by omega), decide_eq_true (show y.toInt < z_n μ a by omega)]
  rfl
theorem w_ae {i : Instr} (H : w_ok xl xs N S T μ) {a t j n : Nat} {y : Int32} {u : Value} (hq : z_mth k = some q) (hi : z_at q pc i) (hr : (match i with | .return_ | .ireturn | .lreturn | .areturn | .invokevirtual _ => false | _ => true) = true) (hz : z_step q.2.2.2.2.1 q.2.2.1 (q.1.name == "<init>") i pc L (.int y :: .ref a :: r) μ = z_ld μ t pc L a y r) (hy : y.toInt = j) (ha : a < 39) (h1 : (z_sh0 xl)[a]? = some (t, n)) (hjn : j < n) (h2 : z_m0 xs a j = u) (e1 : pc + 1 = pc') (e2 : z_can k pc' L = L') (kk : z_W d k pc' L' (u :: r) μ Q) : z_W d k pc L (.int y :: .ref a :: r) μ Q := by
  subst e1
  obtain ⟨g1, g2⟩ := H.te ha h1
  have e : y.toNatClampNeg = j := by
    show y.toInt.toNat = j
    omega
  refine w_x (fun _ _ e => ev_s hq hi hr (hz.trans (z_ld_ok g1 ?_ (by rw [‹y.toNatClampNeg = j›]; exact ((H.2.2.2.1 a ha).2 j).trans h2))) e2 e) kk
  unfold z_in
  rw [g2, decide_eq_true (show 0 ≤ y.toInt by omega), decide_eq_true (show y.toInt < n by omega)]
  rfl
theorem w_as {i : Instr} (H : w_ok xl xs N S T μ) {a t j : Nat} {y : Int32} {u w : Value} (r' : wR) (hq : z_mth k = some q) (hi : z_at q pc i) (hr : (match i with | .return_ | .ireturn | .lreturn | .areturn | .invokevirtual _ => false | _ => true) = true) (hz : z_step q.2.2.2.2.1 q.2.2.1 (q.1.name == "<init>") i pc L (w :: .int y :: .ref a :: r) μ = z_sd μ t pc L a y u r) (hu : (t = 0 ∨ t = 2 → ∃ x : Int32, u = .int x) ∧ (t = 1 → ∃ x : Int64, u = .long x)) (hy : y.toInt = j) (h : w_pr T t a j u = some r') (e1 : pc + 1 = pc') (e2 : z_can k pc' L = L') (kk : ∀ μ2, w_ok xl xs N S ((a, r') :: T) μ2 → z_W d k pc' L' r μ2 Q) : z_W d k pc L (w :: .int y :: .ref a :: r) μ Q := by
  subst e1
  obtain ⟨g1, g2, g3, g4⟩ := H.wr h hu
  have e : y.toNatClampNeg = j := by
    show y.toInt.toNat = j
    omega
  subst e
  refine w_x (fun _ _ e => ev_s hq hi hr (hz.trans (?_ : z_sd μ t pc L a y u r = some (pc + 1, L, r, z_wr μ a y.toNatClampNeg u))) e2 e) (kk _ g4)
  unfold z_sd
  rw [if_pos (show zE ≤ a from g1), if_pos g2, if_pos]
  unfold z_in
  rw [decide_eq_true (show 0 ≤ y.toInt by omega), decide_eq_true (show y.toInt < z_n μ a by omega)]
  rfl
theorem w_ui (t : Nat) (x : Int32) (h : t ≠ 1) : (t = 0 ∨ t = 2 → ∃ y : Int32, Value.int x = .int y) ∧ (t = 1 → ∃ y : Int64, Value.int x = .long y) := ⟨fun _ => ⟨x, rfl⟩, fun e => absurd e h⟩
theorem w_ul (x : Int64) : ((1 : Nat) = 0 ∨ (1 : Nat) = 2 → ∃ y : Int32, Value.long x = .int y) ∧ ((1 : Nat) = 1 → ∃ y : Int64, Value.long x = .long y) := ⟨fun h => by omega, fun _ => ⟨x, rfl⟩⟩
theorem w_len (H : w_ok xl xs N S T μ) {a t n : Nat} {x : Int32} (hq : z_mth k = some q) (hi : z_at q pc .arraylength) (h : (w_row T a).map (fun r => (r.1, r.2.1)) = some (t, n)) (ht : t < 4) (hx : Int32.ofNat n = x) (e1 : pc + 1 = pc') (e2 : z_can k pc' L = L') (kk : z_W d k pc' L' (.int x :: r) μ Q) : z_W d k pc L (.ref a :: r) μ Q := by
  subst hx
  obtain ⟨rr, hr, he⟩ := Option.map_eq_some_iff.mp h
  have g2 := (H.2.2.2.2 a rr hr).2.1
  cases he
  have hn : z_n μ a = rr.2.1 := by unfold z_n; rw [g2]; rfl
  have htt : z_tg μ a = rr.1 := by unfold z_tg; rw [g2]; rfl
  exact w_x (fun _ _ e => ev_le hq hi (show (if z_tg μ a < 4 then some (Int32.ofNat (z_n μ a)) else none) = _ by rw [htt, hn, if_pos ht]) e1 e2 e) kk
theorem w_lene (H : w_ok xl xs N S T μ) {a t n : Nat} {x : Int32} (hq : z_mth k = some q) (hi : z_at q pc .arraylength) (ha : a < 39) (h : (z_sh0 xl)[a]? = some (t, n)) (ht : t < 4) (hx : Int32.ofNat n = x) (e1 : pc + 1 = pc') (e2 : z_can k pc' L = L') (kk : z_W d k pc' L' (.int x :: r) μ Q) : z_W d k pc L (.ref a :: r) μ Q := by
  subst hx
  obtain ⟨g1, g2⟩ := H.te ha h
  exact w_x (fun _ _ e => ev_le hq hi (show (if z_tg μ a < 4 then some (Int32.ofNat (z_n μ a)) else none) = _ by rw [g1, g2, if_pos ht]) e1 e2 e) kk
theorem w_nw (H : w_ok xl xs N S T μ) {idx c : Nat} {w3 : Nat × Nat × Nat} (r' : wR) {N' S' : Nat} (hq : z_mth k = some q) (hi : z_at q pc (.new idx)) (hl : z_lk z_CL q.2.2.2.2.1 idx = some (c, w3)) (h : w_new c = r') (hN : N + 1 = N') (hS : S + r'.2.1 = S') (e1 : pc + 3 = pc') (e2 : z_can k pc' L = L') (kk : ∀ μ2, w_ok xl xs N' S' ((N, r') :: T) μ2 → z_W d k pc' L' (.ref N :: r) μ2 Q) : z_W d k pc L r μ Q := by
  subst h
  have H2 := H.al (t := 10 + c) (n := (z_cls.getD c ("", z_T0, 0)).2.2) (g := fun k => z_dv ((z_tys.getD c []).getD k .int)) (r' := w_new c) rfl rfl ⟨fun h => by omega, fun h => by omega⟩ (fun j v hj hv => by
    unfold w_at w_new at hv
    dsimp only at hv
    cases hf : ((List.range (z_cls.getD c ("", z_T0, 0)).2.2).map (fun k => (k, z_dv ((z_tys.getD c []).getD k .int)))).find? (fun p => p.1 == j) with
    | none => rw [hf] at hv; cases hv
    | some p =>
      rw [hf] at hv
      cases hv
      have h1 := List.mem_of_find?_eq_some hf
      have h2 := List.find?_some hf
      obtain ⟨i, -, rfl⟩ := List.mem_map.mp h1
      have h3 : i = j := by simpa using h2
      rw [h3]) hN hS
  refine w_x (fun _ _ e => ev_new (o := (μ.1.length, _)) hq hi hl rfl e1 e2 e) ?_
  rw [H.1]
  exact kk _ H2
theorem w_na (H : w_ok xl xs N S T μ) {t : ArrayType} {ti n : Nat} {x : Int32} (dv : Value) {N' S' : Nat} (hq : z_mth k = some q) (hi : z_at q pc (.newarray t)) (ht : z_ati t = some ti) (h3 : ti < 3) (hx : x.toInt = n) (hx2 : n ≤ 60000000) (hd : z_dv (z_aty ti) = dv) (hN : N + 1 = N') (hS : S + n = S') (e1 : pc + 2 = pc') (e2 : z_can k pc' L = L') (kk : ∀ μ2, w_ok xl xs N' S' ((N, (ti, n, [], some dv)) :: T) μ2 → z_W d k pc' L' (.ref N :: r) μ2 Q) : z_W d k pc L (.int x :: r) μ Q := by
  subst hd
  have hx1 : x.toNatClampNeg = n := by
    show x.toInt.toNat = n
    omega
  have H2 := H.al (t := ti) (n := n) (g := fun _ => z_dv (z_aty ti)) (r' := (ti, n, [], some (z_dv (z_aty ti)))) rfl rfl ⟨fun h j => by rcases h with rfl | rfl <;> exact ⟨0, rfl⟩, fun h j => by subst h; exact ⟨0, rfl⟩⟩ (fun j v _ hv => Option.some.inj hv) hN hS
  refine w_x (fun _ _ e => ev_ma (o := (μ.1.length, _)) hq hi ht (show (if 0 ≤ x.toInt ∧ x.toInt ≤ 60000000 then some (μ.1.length, z_al μ ti x.toNatClampNeg (fun _ => z_dv (z_aty ti))) else none) = _ by rw [if_pos ⟨by omega, by omega⟩]) e1 e2 e) ?_
  rw [H.1, hx1]
  exact kk _ H2
theorem w_t1 {o : ClassFile.Cond} {off : Int} {x : Int32} (hq : z_mth k = some q) (hi : z_at q pc (.ifCond o off)) (hf : z_fw pc off = true) (hc : z_c o x 0 = true) (e1 : z_to pc off = pc') (e2 : z_can k pc' L = L') (kk : z_W d k pc' L' r μ Q) : z_W d k pc L (.int x :: r) μ Q := w_x (fun _ _ e => ev_t1 hq hi hf hc e1 e2 e) kk
theorem w_f1 {o : ClassFile.Cond} {off : Int} {x : Int32} (hq : z_mth k = some q) (hi : z_at q pc (.ifCond o off)) (hf : z_fw pc off = true) (hc : z_c o x 0 = false) (e1 : pc + 3 = pc') (e2 : z_can k pc' L = L') (kk : z_W d k pc' L' r μ Q) : z_W d k pc L (.int x :: r) μ Q := w_x (fun _ _ e => ev_f1 hq hi hf hc e1 e2 e) kk
theorem w_t2 {o : ClassFile.Cond} {off : Int} {x y : Int32} (hq : z_mth k = some q) (hi : z_at q pc (.if_icmp o off)) (hf : z_fw pc off = true) (hc : z_c o x y = true) (e1 : z_to pc off = pc') (e2 : z_can k pc' L = L') (kk : z_W d k pc' L' r μ Q) : z_W d k pc L (.int y :: .int x :: r) μ Q := w_x (fun _ _ e => ev_t2 hq hi hf hc e1 e2 e) kk
theorem w_f2 {o : ClassFile.Cond} {off : Int} {x y : Int32} (hq : z_mth k = some q) (hi : z_at q pc (.if_icmp o off)) (hf : z_fw pc off = true) (hc : z_c o x y = false) (e1 : pc + 3 = pc') (e2 : z_can k pc' L = L') (kk : z_W d k pc' L' r μ Q) : z_W d k pc L (.int y :: .int x :: r) μ Q := w_x (fun _ _ e => ev_f2 hq hi hf hc e1 e2 e) kk
theorem w_sw {dflt lo up off : Int} {offs : Array Int} {x : Int32} (hq : z_mth k = some q) (hi : z_at q pc (.tableswitch dflt lo up offs)) (ho : z_off lo up dflt offs x = some off) (hf : z_fw pc off = true) (e1 : z_to pc off = pc') (e2 : z_can k pc' L = L') (kk : z_W d k pc' L' r μ Q) : z_W d k pc L (.int x :: r) μ Q := w_x (fun _ _ e => ev_sw hq hi ho hf e1 e2 e) kk
theorem w_ci {idx : Nat} {x y : Int32} {r3 : Nat × Nat × List Nat} (hq : z_mth k = some q) (hi : z_at q pc (.invokestatic idx)) (hl : z_lk z_ML q.2.2.2.2.1 idx = some (7, r3)) (hcat : z_cat r ≤ 8) (h : 0 ≤ x.toInt ∧ x.toInt < y.toInt) (e1 : pc + 3 = pc') (e2 : z_can k pc' L = L') (kk : z_W d k pc' L' r μ Q) : z_W d k pc L (.int y :: .int x :: r) μ Q := w_x (fun _ _ e => ev_ci hq hi hl hcat h e1 e2 e) kk
theorem w_cs {idx j : Nat} {i : Instr} {ks : List Nat} {As rest : List Value} {L0 : zL} (hq : z_mth k = some q) (hi : z_at q pc i) (hk : (i = .invokestatic idx ∧ ks = [0]) ∨ (i = .invokespecial idx ∧ ks = [2, 3, 4])) (hs : z_step q.2.2.2.2.1 q.2.2.1 (q.1.name == "<init>") i pc L st μ = none) (hv : z_inv q.2.2.2.2.1 idx ks st μ = some (.inr (.inr (j, As, rest)))) (e0 : z_can j 0 (lv_args 0 As) = L0) (e1 : pc + 3 = pc') (e2 : z_can k pc' L = L') (kk : z_W d j 0 L0 [] μ (fun u μ2 => z_W (d + 1) k pc' L' (u.toList ++ rest) μ2 Q)) : z_W (d + 1) k pc L st μ Q := by
  subst e0
  obtain ⟨u, μ2, h1, v, μ', h2, h3⟩ := kk
  exact ⟨v, μ', ev_cs hq hi hk hs hv (Nat.le_refl _) h1 e1 e2 rfl h2, h3⟩
theorem w_cv {idx j kd tg a : Nat} {i : Instr} {ks ps : List Nat} {qc : z_R} {Ps rest : List Value} {L0 : zL} (htg : z_tg μ a = tg) (hq : z_mth k = some q) (hi : z_at q pc i) (hk : (i = .invokevirtual idx ∧ ks = [1, 5]) ∨ (i = .invokespecial idx ∧ ks = [2, 3, 4] ∧ kd = 4)) (hl : z_lk z_ML q.2.2.2.2.1 idx = some (kd, j, tg, ps)) (hks : ks.contains kd = true) (hk0 : kd ≠ 0) (hk9 : kd ≠ 9) (hr : z_r j = some qc) (h1 : Nat.ble qc.2.2.2.2.2.1 st.length = true) (h2 : st.drop qc.2.2.2.2.2.1 = .ref a :: rest) (h3 : (st.take qc.2.2.2.2.2.1).reverse = Ps) (h4 : Nat.ble (z_cat rest) 8 = true) (h5 : Nat.ble (lg_sl (.ref a :: Ps)).length qc.2.2.1 = true) (h6 : qc.2.2.1 ≤ 41) (e0 : z_can j 0 (lv_args 0 (.ref a :: Ps)) = L0) (e1 : pc + 3 = pc') (e2 : z_can k pc' L = L') (kk : z_W d j 0 L0 [] μ (fun u μ2 => z_W (d + 1) k pc' L' (u.toList ++ rest) μ2 Q)) : z_W (d + 1) k pc L st μ Q := by
  subst e0
  obtain ⟨u, μ2, g1, v, μ', g2, g3⟩ := kk
  exact ⟨v, μ', ev_cv hq hi hk hl hks hk0 hk9 hr (Nat.not_lt.mpr (Nat.le_of_ble_eq_true h1)) h2 h3 (Nat.le_of_ble_eq_true h4) (Nat.le_of_ble_eq_true h5) h6 htg (Nat.le_refl _) g1 e1 e2 rfl g2, g3⟩
theorem w_rv (hq : z_mth k = some q) (hi : z_at q pc .return_) (hr : q.2.2.2.1 = none) (kk : Q none μ) : z_W d k pc L [] μ Q := ⟨_, _, ev_rv hq hi hr, kk⟩
theorem w_ri {x : Int32} {ty : FieldType} (hq : z_mth k = some q) (hi : z_at q pc .ireturn) (hr : q.2.2.2.1 = some ty) (ht : z_rty ty x = true) (kk : Q (some (.int x)) μ) : z_W d k pc L [.int x] μ Q := ⟨_, _, ev_ri hq hi hr ht, kk⟩
theorem w_rl {x : Int64} (hq : z_mth k = some q) (hi : z_at q pc .lreturn) (hr : q.2.2.2.1 = some .long) (kk : Q (some (.long x)) μ) : z_W d k pc L [.long x] μ Q := ⟨_, _, ev_rl hq hi hr, kk⟩
theorem w_ra {x : Nat} (hq : z_mth k = some q) (hi : z_at q pc .areturn) (hr : (match q.2.2.2.1 with | some (.object _) => true | some (.array _) => true | _ => false) = true) (kk : Q (some (.ref x)) μ) : z_W d k pc L [.ref x] μ Q := ⟨_, _, ev_ra hq hi hr, kk⟩
theorem w_cpf (H : w_ok xl xs N S T μ) {idx a b n : Nat} {r3 : Nat × Nat × List Nat} {y : Int32} {ra : wR} (hq : z_mth k = some q) (hi : z_at q pc (.invokestatic idx)) (hl : z_lk z_ML q.2.2.2.2.1 idx = some (8, r3)) (hcat : z_cat r ≤ 8) (hra : w_row T a = some ra) (hrb : (w_row T b).map (fun r => (r.1, r.2.1)) = some (ra.1, n)) (hn : ra.2.1 = n) (hy : y.toInt = n) (h3 : ra.1 < 3) (e1 : pc + 3 = pc') (e2 : z_can k pc' L = L') (kk : ∀ μ2, w_ok xl xs N S ((b, (ra.1, ra.2.1, ra.2.2.1, ra.2.2.2)) :: T) μ2 → z_W d k pc' L' r μ2 Q) : z_W d k pc L (.int y :: .int 0 :: .ref b :: .int 0 :: .ref a :: r) μ Q := by
  obtain ⟨rb, hrb, he⟩ := Option.map_eq_some_iff.mp hrb
  obtain ⟨H1, H2, H3, H4, H5⟩ := id H
  obtain ⟨ga1, ga2, ga3, ga4⟩ := H5 a ra hra
  obtain ⟨gb1, gb2, gb3, gb4⟩ := H5 b rb hrb
  have he1 : rb.1 = ra.1 := (Prod.mk.inj he).1
  have he2 : rb.2.1 = n := (Prod.mk.inj he).2
  have ta : z_tg μ a = ra.1 := by unfold z_tg; rw [ga2]; rfl
  have na : z_n μ a = n := by unfold z_n; rw [ga2, ← hn]; rfl
  have tb : z_tg μ b = ra.1 := by unfold z_tg; rw [gb2, ← he1]; rfl
  have nb : z_n μ b = n := by unfold z_n; rw [gb2, ← he2]; rfl
  have hyn : y.toNatClampNeg = n := by
    show y.toInt.toNat = n
    omega
  have h00 : (0 : Int32).toNatClampNeg = 0 := rfl
  have h0i : (0 : Int32).toInt = 0 := rfl
  have hcp : z_cp μ a 0 b 0 y = some (μ.1, z_nw μ.2 b (z_cpy (μ.2 a) (μ.2 b) 0 0 n)) := by
    unfold z_cp
    rw [h00, hyn, h0i, if_pos ⟨gb1, ta.trans tb.symm, by rw [ta]; exact h3, Int.le_refl _, Int.le_refl _, by omega, by omega, by omega⟩]
  refine w_x (fun _ _ e => ev_cp hq hi hl hcat hcp e1 e2 e) (kk _ ?_)
  refine ⟨H1, H2, H3, fun c hc => ⟨(H4 c hc).1, fun j => ?_⟩, fun c rc hc => ?_⟩
  · show (if c = b then _ else μ.2 c j) = _
    rw [if_neg (by omega)]
    exact (H4 c hc).2 j
  · rw [w_row_cons] at hc
    by_cases hbc : b = c
    · subst hbc
      rw [if_pos rfl] at hc
      cases hc
      have e : ∀ j, z_nw μ.2 b (z_cpy (μ.2 a) (μ.2 b) 0 0 n) b j = if j < n then μ.2 a j else μ.2 b j := by
        intro j
        show (if b = b then z_cpy (μ.2 a) (μ.2 b) 0 0 n j else _) = _
        rw [if_pos rfl]
        show (if 0 ≤ j ∧ j < 0 + n then μ.2 a (0 + (j - 0)) else μ.2 b j) = _
        have e0 : 0 + (j - 0) = j := by omega
        by_cases hj : j < n
        · rw [if_pos (show 0 ≤ j ∧ j < 0 + n from ⟨by omega, by omega⟩), if_pos hj, e0]
        · rw [if_neg (show ¬ (0 ≤ j ∧ j < 0 + n) from fun h => by omega), if_neg hj]
      refine ⟨gb1, ?_, ⟨fun ht j => ?_, fun ht j => ?_⟩, fun j v hj hv => ?_⟩
      · show μ.1[b]? = some (ra.1, ra.2.1)
        rw [gb2, he1, he2, hn]
      · show ∃ x : Int32, z_nw μ.2 b (z_cpy (μ.2 a) (μ.2 b) 0 0 n) b j = .int x
        rw [e j]
        split
        · exact ga3.1 ht j
        · exact gb3.1 (by rw [he1]; exact ht) j
      · show ∃ x : Int64, z_nw μ.2 b (z_cpy (μ.2 a) (μ.2 b) 0 0 n) b j = .long x
        rw [e j]
        split
        · exact ga3.2 ht j
        · exact gb3.2 (by rw [he1]; exact ht) j
      · have hj : j < ra.2.1 := hj
        show z_nw μ.2 b (z_cpy (μ.2 a) (μ.2 b) 0 0 n) b j = v
        rw [e j, if_pos (by omega)]
        exact ga4 j v hj hv
    · rw [if_neg hbc] at hc
      obtain ⟨k1, k2, k3, k4⟩ := H5 c rc hc
      have e : z_nw μ.2 b (z_cpy (μ.2 a) (μ.2 b) 0 0 n) c = μ.2 c := funext fun j => if_neg (fun e => hbc e.symm)
      refine ⟨k1, k2, ?_, ?_⟩
      · show w_el rc.1 (z_nw μ.2 b (z_cpy (μ.2 a) (μ.2 b) 0 0 n) c)
        rw [e]; exact k3
      · show ∀ j v, j < rc.2.1 → w_at rc j = some v → z_nw μ.2 b (z_cpy (μ.2 a) (μ.2 b) 0 0 n) c j = v
        rw [e]; exact k4
def w_mmI (N k : Nat) : Nat → wT
  | 0 => []
  | n + 1 => (N + 1 + n, (1, k, [], some (.long 0))) :: w_mmI N k n
def w_mmT (N n k : Nat) : wT := w_mmI N k n ++ [(N, (3, n, (List.range n).map (fun j => (j, Value.ref (N + 1 + j))), none))]
theorem w_als {N1 S1 k : Nat} {T1 : wT} {μ1 : zM} (H : w_ok xl xs N1 S1 T1 μ1) (hN : N1 = N + 1) : ∀ n, w_ok xl xs (N1 + n) (S1 + n * k) (w_mmI N k n ++ T1) (z_als μ1 n k)
  | 0 => by
    have e : S1 + 0 * k = S1 := by omega
    rw [e]
    exact H
  | n + 1 => by
    have h := w_als (k := k) H hN n
    have := h.al (t := 1) (n := k) (g := fun _ => .long 0) (r' := (1, k, [], some (.long 0))) rfl rfl ⟨fun h => by omega, fun _ j => ⟨0, rfl⟩⟩ (fun j v _ hv => Option.some.inj hv) (N' := N1 + (n + 1)) (S' := S1 + (n + 1) * k) rfl (by rw [Nat.add_mul]; omega)
    rw [hN] at this
    rw [hN]
    exact this
theorem w_mm (H : w_ok xl xs N S T μ) {n k2 N' S' : Nat} {T' : wT} {x y : Int32} (hq : z_mth k = some q) (hi : z_at q pc (.multianewarray 11 2)) (hw : q.2.2.2.2.1 = 4) (hx : x.toInt = n) (hy : y.toInt = k2) (hn : n ≤ 60000) (hk : k2 ≤ 60000) (hN : N + 1 + n = N') (hS : S + n + n * k2 = S') (hT : w_mmT N n k2 = T') (e1 : pc + 4 = pc') (e2 : z_can k pc' L = L') (kk : ∀ μ2, w_ok xl xs N' S' (T' ++ T) μ2 → z_W d k pc' L' (.ref N :: r) μ2 Q) : z_W d k pc L (.int y :: .int x :: r) μ Q := by
  subst hT hN hS
  have hxn : x.toNatClampNeg = n := by
    show x.toInt.toNat = n
    omega
  have hyn : y.toNatClampNeg = k2 := by
    show y.toInt.toNat = k2
    omega
  have hz : z_mm μ x y = some (μ.1.length, z_als (z_al μ 3 n (fun j => .ref (μ.1.length + 1 + j))) n k2) := by
    unfold z_mm
    rw [hxn, hyn, if_pos ⟨by omega, by omega, by omega, by omega⟩]
  refine w_x (fun _ _ e => ev_mm (o := (μ.1.length, _)) hq hi hw hz e1 e2 e) ?_
  have hl := H.1
  rw [hl]
  refine kk _ ?_
  have h1 := H.al (t := 3) (n := n) (g := fun j => Value.ref (N + 1 + j)) (r' := (3, n, (List.range n).map (fun j => (j, Value.ref (N + 1 + j))), none)) rfl rfl ⟨fun h => by omega, fun h => by omega⟩ (fun j v hj hv => by
    unfold w_at at hv
    dsimp only at hv
    cases hf : ((List.range n).map (fun j => (j, Value.ref (N + 1 + j)))).find? (fun p => p.1 == j) with
    | none => rw [hf] at hv; cases hv
    | some p =>
      rw [hf] at hv
      cases hv
      have h1 := List.mem_of_find?_eq_some hf
      have h2 := List.find?_some hf
      obtain ⟨i, -, rfl⟩ := List.mem_map.mp h1
      have h3 : i = j := by simpa using h2
      rw [h3]) (N' := N + 1) (S' := S + n) rfl rfl
  have h2 := w_als (k := k2) h1 rfl n
  unfold w_mmT
  rw [List.append_assoc]
  exact h2
theorem w_top {v v' : Value} (h : v = v') (kk : z_W d k pc L (v' :: r) μ Q) : z_W d k pc L (v :: r) μ Q := h ▸ kk
def w_av (c : Int) : List (Nat × Value) → Prop
  | [] => True
  | p :: l => (p.1 : Int) ≠ c ∧ w_av c l
theorem w_av_n {c : Int} : w_av c [] := trivial
theorem w_av_c {c : Int} {j : Nat} {v : Value} {l : List (Nat × Value)} (h : (j : Int) ≠ c) (hl : w_av c l) : w_av c ((j, v) :: l) := ⟨h, hl⟩
theorem w_av_find {c : Int} {j : Nat} (hj : (j : Int) = c) : ∀ {l : List (Nat × Value)}, w_av c l → l.find? (fun p => p.1 == j) = none
  | [], _ => rfl
  | p :: l, h => by
    rw [List.find?_cons]
    have : (p.1 == j) = false := by
      have h1 := h.1
      simp
      omega
    rw [this]
    exact w_av_find hj h.2
theorem w_alx {i : Instr} (H : w_ok xl xs N S T μ) {a t n : Nat} {ov : List (Nat × Value)} {y : Int32} {c : Int} {u : Value} (hq : z_mth k = some q) (hi : z_at q pc i) (hr : (match i with | .return_ | .ireturn | .lreturn | .areturn | .invokevirtual _ => false | _ => true) = true) (hz : z_step q.2.2.2.2.1 q.2.2.1 (q.1.name == "<init>") i pc L (.int y :: .ref a :: r) μ = z_ld μ t pc L a y r) (hy : y.toInt = c) (h0 : 0 ≤ c) (h1 : c < n) (hrow : w_row T a = some (t, n, ov, some u)) (hav : w_av c ov) (e1 : pc + 1 = pc') (e2 : z_can k pc' L = L') (kk : z_W d k pc' L' (u :: r) μ Q) : z_W d k pc L (.int y :: .ref a :: r) μ Q := by
  have hj : ((c.toNat : Nat) : Int) = c := by omega
  refine w_al H (j := c.toNat) hq hi hr hz (by rw [hy, hj]) ?_ e1 e2 kk
  unfold w_g
  rw [hrow]
  dsimp only
  rw [if_pos rfl, if_pos (by omega)]
  unfold w_at
  dsimp only
  rw [w_av_find hj hav]
theorem w_aex {i : Instr} (H : w_ok xl xs N S T μ) {a t n : Nat} {y : Int32} {c : Int} (hq : z_mth k = some q) (hi : z_at q pc i) (hr : (match i with | .return_ | .ireturn | .lreturn | .areturn | .invokevirtual _ => false | _ => true) = true) (hz : z_step q.2.2.2.2.1 q.2.2.1 (q.1.name == "<init>") i pc L (.int y :: .ref a :: r) μ = z_ld μ t pc L a y r) (hy : y.toInt = c) (h0 : 0 ≤ c) (h1 : c < n) (ha : a < 39) (hrow : (z_sh0 xl)[a]? = some (t, n)) (h19 : 19 ≤ a) (e1 : pc + 1 = pc') (e2 : z_can k pc' L = L') (kk : ∀ x : Int32, z_W d k pc' L' (.int x :: r) μ Q) : z_W d k pc L (.int y :: .ref a :: r) μ Q := by
  have hj : ((c.toNat : Nat) : Int) = c := by omega
  have hm : ∃ x : Int32, z_m0 xs a c.toNat = .int x := by
    unfold z_m0
    rw [if_neg (by omega), if_neg (by omega)]
    split
    · exact ⟨_, rfl⟩
    · exact ⟨_, rfl⟩
  obtain ⟨x, hx⟩ := hm
  exact w_ae H (j := c.toNat) hq hi hr hz (by rw [hy, hj]) ha hrow (by omega) hx e1 e2 (kk x)
theorem w_unk {i : Instr} (H : w_ok xl xs N S T μ) {a t n : Nat} {y : Int32} {c : Int} (hq : z_mth k = some q) (hi : z_at q pc i) (hr : (match i with | .return_ | .ireturn | .lreturn | .areturn | .invokevirtual _ => false | _ => true) = true) (hz : z_step q.2.2.2.2.1 q.2.2.1 (q.1.name == "<init>") i pc L (.int y :: .ref a :: r) μ = z_ld μ t pc L a y r) (hy : y.toInt = c) (h0 : 0 ≤ c) (h1 : c < n) (hrow : (w_row T a).map (fun r => (r.1, r.2.1)) = some (t, n)) (e1 : pc + 1 = pc') (e2 : z_can k pc' L = L') (kk : w_el t (μ.2 a) → z_W d k pc' L' (μ.2 a c.toNat :: r) μ Q) : z_W d k pc L (.int y :: .ref a :: r) μ Q := by
  subst e1
  obtain ⟨rr, hrr, he⟩ := Option.map_eq_some_iff.mp hrow
  obtain ⟨g1, g2, g3, g4⟩ := H.2.2.2.2 a rr hrr
  have he1 : rr.1 = t := (Prod.mk.inj he).1
  have he2 : rr.2.1 = n := (Prod.mk.inj he).2
  have ht : z_tg μ a = t := by unfold z_tg; rw [g2]; exact he1
  have hn : z_n μ a = n := by unfold z_n; rw [g2]; exact he2
  have e : y.toNatClampNeg = c.toNat := by
    show y.toInt.toNat = _
    rw [hy]
  refine w_x (fun _ _ e => ev_s hq hi hr (hz.trans (z_ld_ok ht ?_ (by rw [‹y.toNatClampNeg = c.toNat›]))) e2 e) (kk (by rw [← he1]; exact g3))
  unfold z_in
  rw [hn, decide_eq_true (show 0 ≤ y.toInt by omega), decide_eq_true (show y.toInt < n by omega)]
  rfl
theorem w_alui {i : Instr} (H : w_ok xl xs N S T μ) {a t n : Nat} {y : Int32} {c : Int} (hq : z_mth k = some q) (hi : z_at q pc i) (hr : (match i with | .return_ | .ireturn | .lreturn | .areturn | .invokevirtual _ => false | _ => true) = true) (hz : z_step q.2.2.2.2.1 q.2.2.1 (q.1.name == "<init>") i pc L (.int y :: .ref a :: r) μ = z_ld μ t pc L a y r) (hy : y.toInt = c) (h0 : 0 ≤ c) (h1 : c < n) (hrow : (w_row T a).map (fun r => (r.1, r.2.1)) = some (t, n)) (ht : t = 0 ∨ t = 2) (e1 : pc + 1 = pc') (e2 : z_can k pc' L = L') (kk : ∀ x : Int32, z_W d k pc' L' (.int x :: r) μ Q) : z_W d k pc L (.int y :: .ref a :: r) μ Q :=
  w_unk H hq hi hr hz hy h0 h1 hrow e1 e2 (fun he => by
    obtain ⟨x, hx⟩ := he.1 ht c.toNat
    rw [hx]
    exact kk x)
theorem w_alul {i : Instr} (H : w_ok xl xs N S T μ) {a n : Nat} {y : Int32} {c : Int} (hq : z_mth k = some q) (hi : z_at q pc i) (hr : (match i with | .return_ | .ireturn | .lreturn | .areturn | .invokevirtual _ => false | _ => true) = true) (hz : z_step q.2.2.2.2.1 q.2.2.1 (q.1.name == "<init>") i pc L (.int y :: .ref a :: r) μ = z_ld μ 1 pc L a y r) (hy : y.toInt = c) (h0 : 0 ≤ c) (h1 : c < n) (hrow : (w_row T a).map (fun r => (r.1, r.2.1)) = some (1, n)) (ht : (1 : Nat) = 1) (e1 : pc + 1 = pc') (e2 : z_can k pc' L = L') (kk : ∀ x : Int64, z_W d k pc' L' (.long x :: r) μ Q) : z_W d k pc L (.int y :: .ref a :: r) μ Q :=
  w_unk H hq hi hr hz hy h0 h1 hrow e1 e2 (fun he => by
    obtain ⟨x, hx⟩ := he.2 rfl c.toNat
    rw [hx]
    exact kk x)
def w_kn (c : Int) (r0 : wR) : List (Nat × Value) → Prop
  | [] => True
  | p :: l => ((p.1 : Int) ≠ c ∧ w_at r0 p.1 = some p.2) ∧ w_kn c r0 l
theorem w_kn_n {c : Int} {r0 : wR} : w_kn c r0 [] := trivial
theorem w_kn_c {c : Int} {r0 : wR} {j : Nat} {v : Value} {l : List (Nat × Value)} (h : (j : Int) ≠ c) (h2 : w_at r0 j = some v) (hl : w_kn c r0 l) : w_kn c r0 ((j, v) :: l) := ⟨⟨h, h2⟩, hl⟩
theorem w_kn_mem {c : Int} {r0 : wR} : ∀ {l : List (Nat × Value)}, w_kn c r0 l → ∀ p ∈ l, (p.1 : Int) ≠ c ∧ w_at r0 p.1 = some p.2
  | _ :: _, h, p, hp => by
    rcases List.mem_cons.mp hp with rfl | hp
    · exact h.1
    · exact w_kn_mem h.2 p hp
theorem w_ok.wx (H : w_ok xl xs N S T μ) {a t n j : Nat} {u : Value} {r0 r' : wR} (hrow : (w_row T a).map (fun r => (r, r.1, r.2.1)) = some (r0, t, n)) (hn : r'.1 = t ∧ r'.2.1 = n) (hu : (t = 0 ∨ t = 2 → ∃ x : Int32, u = .int x) ∧ (t = 1 → ∃ x : Int64, u = .long x)) (hk : w_kn j r0 r'.2.2.1) (hd : r'.2.2.2 = none ∨ (r' = r0 ∧ r0.2.2.2 = some u)) (hj : j < n) : 39 ≤ a ∧ z_tg μ a = t ∧ z_n μ a = n ∧ w_ok xl xs N S ((a, r') :: T) (z_wr μ a j u) := by
  obtain ⟨rr, hrr, he⟩ := Option.map_eq_some_iff.mp hrow
  have he0 : rr = r0 := (Prod.mk.inj he).1
  subst he0
  have he1 : rr.1 = t := (Prod.mk.inj (Prod.mk.inj he).2).1
  have he2 : rr.2.1 = n := (Prod.mk.inj (Prod.mk.inj he).2).2
  obtain ⟨H1, H2, H3, H4, H5⟩ := H
  obtain ⟨g1, g2, g3, g4⟩ := H5 a rr hrr
  refine ⟨g1, ?_, ?_, H1, H2, H3, fun b hb => ⟨(H4 b hb).1, fun i => ?_⟩, fun b r2 hb => ?_⟩
  · unfold z_tg; rw [g2]; exact he1
  · unfold z_n; rw [g2]; exact he2
  · show (if b = a then _ else μ.2 b i) = _
    rw [if_neg (by omega)]
    exact (H4 b hb).2 i
  · rw [w_row_cons] at hb
    by_cases hab : a = b
    · subst hab
      rw [if_pos rfl] at hb
      cases hb
      have hw : ∀ i, (z_wr μ a j u).2 a i = if i = j then u else μ.2 a i := fun i => if_pos rfl
      refine ⟨g1, ?_, ⟨fun ht i => ?_, fun ht i => ?_⟩, fun i v hi hv => ?_⟩
      · show μ.1[a]? = _
        rw [g2, he1, he2, hn.1, hn.2]
      · rw [hw]
        split
        · exact hu.1 (by rw [← hn.1]; exact ht)
        · exact g3.1 (by rw [he1, ← hn.1]; exact ht) i
      · rw [hw]
        split
        · exact hu.2 (by rw [← hn.1]; exact ht)
        · exact g3.2 (by rw [he1, ← hn.1]; exact ht) i
      · rw [hw]
        have hi2 : i < rr.2.1 := by rw [he2, ← hn.2]; exact hi
        cases hf : r'.2.2.1.find? (fun p => p.1 == i) with
        | some p =>
          have h1 := List.mem_of_find?_eq_some hf
          have h2 : p.1 = i := by simpa using List.find?_some hf
          have h3 := w_kn_mem hk p h1
          have h4 : v = p.2 := by
            unfold w_at at hv
            rw [hf] at hv
            exact (Option.some.inj hv).symm
          rw [if_neg (by have := h3.1; omega), h4]
          rw [h2] at h3
          exact g4 i p.2 hi2 h3.2
        | none =>
          have hv' : r'.2.2.2 = some v := by
            unfold w_at at hv
            rw [hf] at hv
            exact hv
          rcases hd with hd | ⟨rfl, hd⟩
          · rw [hd] at hv'; cases hv'
          · split
            · rw [hd] at hv'
              exact Option.some.inj hv'
            · exact g4 i v hi2 hv
    · rw [if_neg hab] at hb
      obtain ⟨k1, k2, k3, k4⟩ := H5 b r2 hb
      have e : (z_wr μ a j u).2 b = μ.2 b := funext fun i => if_neg (fun e => hab e.symm)
      exact ⟨k1, k2, by rw [e]; exact k3, by rw [e]; exact k4⟩
theorem w_asx {i : Instr} (H : w_ok xl xs N S T μ) {a t n : Nat} {y : Int32} {c : Int} {u w : Value} {r0 : wR} (r' : wR) (hq : z_mth k = some q) (hi : z_at q pc i) (hr : (match i with | .return_ | .ireturn | .lreturn | .areturn | .invokevirtual _ => false | _ => true) = true) (hz : z_step q.2.2.2.2.1 q.2.2.1 (q.1.name == "<init>") i pc L (w :: .int y :: .ref a :: r) μ = z_sd μ t pc L a y u r) (hu : (t = 0 ∨ t = 2 → ∃ x : Int32, u = .int x) ∧ (t = 1 → ∃ x : Int64, u = .long x)) (hy : y.toInt = c) (h0 : 0 ≤ c) (h1 : c < n) (hrow : (w_row T a).map (fun r => (r, r.1, r.2.1)) = some (r0, t, n)) (hn : r'.1 = t ∧ r'.2.1 = n) (hk : w_kn c r0 r'.2.2.1) (hd : r'.2.2.2 = none ∨ (r' = r0 ∧ r0.2.2.2 = some u)) (e1 : pc + 1 = pc') (e2 : z_can k pc' L = L') (kk : ∀ μ2, w_ok xl xs N S ((a, r') :: T) μ2 → z_W d k pc' L' r μ2 Q) : z_W d k pc L (w :: .int y :: .ref a :: r) μ Q := by
  subst e1
  have hj : ((c.toNat : Nat) : Int) = c := by omega
  obtain ⟨g1, g2, g3, g4⟩ := H.wx (j := c.toNat) hrow hn hu (by rw [hj]; exact hk) hd (by omega)
  have ey : y.toNatClampNeg = c.toNat := by
    show y.toInt.toNat = _
    rw [hy]
  refine w_x (fun _ _ e => ev_s hq hi hr (hz.trans (?_ : z_sd μ t pc L a y u r = some (pc + 1, L, r, z_wr μ a c.toNat u))) e2 e) (kk _ g4)
  rw [← ey]
  unfold z_sd
  rw [if_pos (show zE ≤ a from g1), if_pos g2, if_pos]
  unfold z_in
  rw [g3, decide_eq_true (show 0 ≤ y.toInt by omega), decide_eq_true (show y.toInt < n by omega)]
  rfl
end ZWP
theorem zl_ushr0 (y : Int32) : ((0 : Int64).toUInt64 >>> (y.toInt64.toUInt64 &&& Int64.toUInt64 63)).toInt64 = 0 := by
  have h : (0 : Int64).toUInt64 = 0 := rfl
  rw [h, UInt64.zero_shiftRight]
  rfl
theorem lgc_eq {x y : Int64} (h : x = y) : (lg_cmp x y).toInt = 0 := by
  subst h
  unfold lg_cmp
  simp
theorem lgc_ne {x y : Int64} (h : ¬ x = y) : (lg_cmp x y).toInt ≠ 0 := by
  unfold lg_cmp
  by_cases h1 : y < x
  · rw [if_pos h1]; decide
  · rw [if_neg h1, if_neg h]; decide
theorem z_off_v {lo up dflt off v : Int} {offs : Array Int} {x : Int32} (h : x.toInt = v) (h2 : (if v < lo then some dflt else if up < v then some dflt else offs[(v - lo).toNat]?) = some off) : z_off lo up dflt offs x = some off := by
  unfold z_off
  rw [h]
  exact h2
theorem zi_lit {x y : Int32} {c : Int} (hx : x.toInt = c) (h : c = y.toInt) : x = y := Int32.toInt_inj.mp (hx.trans h)
def z_cI (o : ClassFile.Cond) (a b : Int) : Bool := match o with
  | .eq => decide (a = b)
  | .ne => decide (a ≠ b)
  | .lt => decide (a < b)
  | .ge => decide (b ≤ a)
  | .gt => decide (b < a)
  | .le => decide (a ≤ b)
theorem zc {o : ClassFile.Cond} {x y : Int32} {a b : Int} {v : Bool} (hx : x.toInt = a) (hy : y.toInt = b) (h : z_cI o a b = v) : z_c o x y = v := by
  subst hx hy
  rw [← h]
  cases o
  · exact decide_eq_decide.mpr Int32.toInt_inj.symm
  · exact decide_eq_decide.mpr (not_congr Int32.toInt_inj.symm)
  · exact decide_eq_decide.mpr Int32.lt_iff_toInt_lt
  · exact decide_eq_decide.mpr Int32.le_iff_toInt_le
  · exact decide_eq_decide.mpr Int32.lt_iff_toInt_lt
  · exact decide_eq_decide.mpr Int32.le_iff_toInt_le
theorem zi_bm {c : Int} (h1 : -2147483648 ≤ c) (h2 : c < 2147483648) : c.bmod (2 ^ 32) = c := by
  unfold Int.bmod
  simp only [Nat.reducePow]
  split <;> omega
theorem zi_add {x y : Int32} {a b c : Int} (hx : x.toInt = a) (hy : y.toInt = b) (h1 : -2147483648 ≤ c) (h2 : c < 2147483648) (h : a + b = c) : (x + y).toInt = c := by
  rw [Int32.toInt_add, hx, hy, h, zi_bm h1 h2]
theorem zi_sub {x y : Int32} {a b c : Int} (hx : x.toInt = a) (hy : y.toInt = b) (h1 : -2147483648 ≤ c) (h2 : c < 2147483648) (h : a - b = c) : (x - y).toInt = c := by
  rw [Int32.toInt_sub, hx, hy, h, zi_bm h1 h2]
theorem zi_mul {x y : Int32} {a b c : Int} (hx : x.toInt = a) (hy : y.toInt = b) (h1 : -2147483648 ≤ c) (h2 : c < 2147483648) (h : a * b = c) : (x * y).toInt = c := by
  rw [Int32.toInt_mul, hx, hy, h, zi_bm h1 h2]
theorem zi_neg {x : Int32} {a c : Int} (hx : x.toInt = a) (h1 : -2147483648 ≤ c) (h2 : c < 2147483648) (h : -a = c) : (-x).toInt = c := by
  rw [Int32.toInt_neg, hx, h, zi_bm h1 h2]
theorem zi_bd (x : Int32) : -2147483648 ≤ x.toInt ∧ x.toInt < 2147483648 := by
  have h1 := Int32.le_toInt x
  have h2 := Int32.toInt_lt x
  omega
def w_sub (T : wT) : wT → Prop
  | [] => True
  | p :: r => w_row T p.1 = some p.2 ∧ w_sub T r
theorem w_sub_ok {T : wT} : ∀ {T' : wT}, w_sub T T' → ∀ a r, w_row T' a = some r → w_row T a = some r
  | [], _, a, r, h => by cases h
  | p :: T', hs, a, r, h => by
    rw [w_row_cons] at h
    by_cases hp : p.1 = a
    · rw [if_pos hp] at h
      cases h
      rw [← hp]
      exact hs.1
    · rw [if_neg hp] at h
      exact w_sub_ok hs.2 a r h
def w_inB (r p : wR) : Bool := r.1 == p.1 && r.2.1 == p.2.1 && (List.range p.2.1).all (fun j => match w_at p j with
  | none => true
  | some v => w_at r j == some v)
def w_subB (T T' : wT) : Bool := T'.all (fun p => match w_row T p.1 with
  | some r => if r = p.2 then true else w_inB r p.2
  | none => false)
theorem w_ok.subB {xl : Nat} {xs : Nat → Int32} {N S : Nat} {T T' : wT} {μ : zM} (H : w_ok xl xs N S T μ) (h : w_subB T T' = true) : w_ok xl xs N S T' μ := by
  refine ⟨H.1, H.2.1, H.2.2.1, H.2.2.2.1, fun a r hr => ?_⟩
  have hm : (a, r) ∈ T' := by
    unfold w_row at hr
    obtain ⟨p, hp, rfl⟩ := Option.map_eq_some_iff.mp hr
    have h1 := List.mem_of_find?_eq_some hp
    have h2 : p.1 = a := by simpa using List.find?_some hp
    rw [← h2]
    exact h1
  have h1 := List.all_eq_true.mp h (a, r) hm
  dsimp only at h1
  cases hT : w_row T a with
  | none => rw [hT] at h1; cases h1
  | some r1 =>
    rw [hT] at h1
    dsimp only at h1
    obtain ⟨k1, k2, k3, k4⟩ := H.2.2.2.2 a r1 hT
    by_cases he : r1 = r
    · rw [← he]
      exact ⟨k1, k2, k3, k4⟩
    · rw [if_neg he] at h1
      unfold w_inB at h1
      rw [Bool.and_eq_true, Bool.and_eq_true] at h1
      obtain ⟨⟨e1, e2⟩, e3⟩ := h1
      have e1 : r1.1 = r.1 := by simpa using e1
      have e2 : r1.2.1 = r.2.1 := by simpa using e2
      refine ⟨k1, by rw [← e1, ← e2]; exact k2, by rw [← e1]; exact k3, fun j v hj hv => ?_⟩
      have e4 := List.all_eq_true.mp e3 j (List.mem_range.mpr hj)
      rw [hv] at e4
      have e5 : w_at r1 j = some v := by simpa using e4
      exact k4 j v (by rw [e2]; exact hj) e5
theorem w_start (L : Nat) (xs : Nat → Int32) : w_ok L xs 39 0 [] (z_mu0 L xs) :=
  ⟨(show (z_sh0 L).length = 39 from z_sh0_len), by omega, Nat.le_refl _, fun _ _ => ⟨rfl, fun _ => rfl⟩, fun _ _ h => by cases h⟩
theorem h_m0 : z_mth 0 = some z_r0 := rfl
theorem h_m1 : z_mth 1 = some z_r1 := rfl
theorem h_m2 : z_mth 2 = some z_r2 := rfl
theorem h_m3 : z_mth 3 = some z_r3 := rfl
theorem h_m4 : z_mth 4 = some z_r4 := rfl
theorem h_m5 : z_mth 5 = some z_r5 := rfl
theorem h_m6 : z_mth 6 = some z_r6 := rfl
theorem h_m7 : z_mth 7 = some z_r7 := rfl
theorem h_m8 : z_mth 8 = some z_r8 := rfl
theorem h_m9 : z_mth 9 = some z_r9 := rfl
theorem h_m10 : z_mth 10 = some z_r10 := rfl
theorem h_m11 : z_mth 11 = some z_r11 := rfl
theorem h_m12 : z_mth 12 = some z_r12 := rfl
theorem h_m13 : z_mth 13 = some z_r13 := rfl
theorem h_m14 : z_mth 14 = some z_r14 := rfl
theorem h_m15 : z_mth 15 = some z_r15 := rfl
theorem h_m16 : z_mth 16 = some z_r16 := rfl
theorem h_m17 : z_mth 17 = some z_r17 := rfl
theorem h_m18 : z_mth 18 = some z_r18 := rfl
theorem h_m19 : z_mth 19 = some z_r19 := rfl
theorem h_m20 : z_mth 20 = some z_r20 := rfl
theorem h_m21 : z_mth 21 = some z_r21 := rfl
theorem h_m22 : z_mth 22 = some z_r22 := rfl
theorem h_m23 : z_mth 23 = some z_r23 := rfl
theorem h_m24 : z_mth 24 = some z_r24 := rfl
theorem h_m25 : z_mth 25 = some z_r25 := rfl
theorem h_m26 : z_mth 26 = some z_r26 := rfl
theorem h_m27 : z_mth 27 = some z_r27 := rfl
theorem h_m28 : z_mth 28 = some z_r28 := rfl
theorem h_m29 : z_mth 29 = some z_r29 := rfl
theorem h_m30 : z_mth 30 = some z_r30 := rfl
theorem h_m31 : z_mth 31 = some z_r31 := rfl
theorem h_m32 : z_mth 32 = some z_r32 := rfl
theorem h_m33 : z_mth 33 = some z_r33 := rfl
theorem h_m34 : z_mth 34 = some z_r34 := rfl
theorem h_m35 : z_mth 35 = some z_r35 := rfl
theorem h_m36 : z_mth 36 = some z_r36 := rfl
theorem h_m37 : z_mth 37 = some z_r37 := rfl
theorem h_m38 : z_mth 38 = some z_r38 := rfl
theorem h_m39 : z_mth 39 = some z_r39 := rfl
theorem h_m40 : z_mth 40 = some z_r40 := rfl
theorem h_m41 : z_mth 41 = some z_r41 := rfl
theorem h_m42 : z_mth 42 = some z_r42 := rfl
theorem h_m43 : z_mth 43 = some z_r43 := rfl
theorem h_m44 : z_mth 44 = some z_r44 := rfl
theorem h_m45 : z_mth 45 = some z_r45 := rfl
theorem h_m46 : z_mth 46 = some z_r46 := rfl
theorem h_m47 : z_mth 47 = some z_r47 := rfl
theorem h_m48 : z_mth 48 = some z_r48 := rfl
theorem h_m49 : z_mth 49 = some z_r49 := rfl
theorem h_m50 : z_mth 50 = some z_r50 := rfl
theorem h_m51 : z_mth 51 = some z_r51 := rfl
theorem h_m52 : z_mth 52 = some z_r52 := rfl
theorem h_m53 : z_mth 53 = some z_r53 := rfl
theorem h_m54 : z_mth 54 = some z_r54 := rfl
theorem h_m55 : z_mth 55 = some z_r55 := rfl
theorem h_m56 : z_mth 56 = some z_r56 := rfl
theorem h_m57 : z_mth 57 = some z_r57 := rfl
theorem h_m58 : z_mth 58 = some z_r58 := rfl
theorem h_m59 : z_mth 59 = some z_r59 := rfl
theorem h_m60 : z_mth 60 = some z_r60 := rfl
theorem h_m61 : z_mth 61 = some z_r61 := rfl
theorem h_m62 : z_mth 62 = some z_r62 := rfl
theorem h_m63 : z_mth 63 = some z_r63 := rfl
theorem h_m64 : z_mth 64 = some z_r64 := rfl
theorem h_m65 : z_mth 65 = some z_r65 := rfl
theorem h_m66 : z_mth 66 = some z_r66 := rfl
theorem h_m67 : z_mth 67 = some z_r67 := rfl
theorem h_m68 : z_mth 68 = some z_r68 := rfl
theorem h_m69 : z_mth 69 = some z_r69 := rfl
theorem h_m70 : z_mth 70 = some z_r70 := rfl
theorem h_m71 : z_mth 71 = some z_r71 := rfl
theorem h_m72 : z_mth 72 = some z_r72 := rfl
theorem h_m73 : z_mth 73 = some z_r73 := rfl
theorem h_m74 : z_mth 74 = some z_r74 := rfl
theorem h_m75 : z_mth 75 = some z_r75 := rfl
theorem h_m76 : z_mth 76 = some z_r76 := rfl
theorem h_m77 : z_mth 77 = some z_r77 := rfl
theorem h_m78 : z_mth 78 = some z_r78 := rfl
theorem h_m79 : z_mth 79 = some z_r79 := rfl
theorem h_m80 : z_mth 80 = some z_r80 := rfl
theorem h_m81 : z_mth 81 = some z_r81 := rfl
theorem h_m82 : z_mth 82 = some z_r82 := rfl
theorem h_m83 : z_mth 83 = some z_r83 := rfl
theorem h_m84 : z_mth 84 = some z_r84 := rfl
theorem h_m85 : z_mth 85 = some z_r85 := rfl
theorem h_m86 : z_mth 86 = some z_r86 := rfl
theorem h_m87 : z_mth 87 = some z_r87 := rfl
theorem h_m88 : z_mth 88 = some z_r88 := rfl
theorem h_m89 : z_mth 89 = some z_r89 := rfl
theorem h_m90 : z_mth 90 = some z_r90 := rfl
theorem h_m91 : z_mth 91 = some z_r91 := rfl
theorem h_m92 : z_mth 92 = some z_r92 := rfl
theorem h_m93 : z_mth 93 = some z_r93 := rfl
theorem h_m94 : z_mth 94 = some z_r94 := rfl
theorem h_m95 : z_mth 95 = some z_r95 := rfl
theorem h_m96 : z_mth 96 = some z_r96 := rfl
theorem h_m97 : z_mth 97 = some z_r97 := rfl
theorem h_m98 : z_mth 98 = some z_r98 := rfl
theorem h_m99 : z_mth 99 = some z_r99 := rfl
theorem h_m100 : z_mth 100 = some z_r100 := rfl
theorem h_m101 : z_mth 101 = some z_r101 := rfl
theorem h_m102 : z_mth 102 = some z_r102 := rfl
theorem h_m103 : z_mth 103 = some z_r103 := rfl
theorem h_m104 : z_mth 104 = some z_r104 := rfl
theorem h_m105 : z_mth 105 = some z_r105 := rfl
theorem h_m106 : z_mth 106 = some z_r106 := rfl
theorem h_m107 : z_mth 107 = some z_r107 := rfl
theorem h_m108 : z_mth 108 = some z_r108 := rfl
theorem h_m109 : z_mth 109 = some z_r109 := rfl
theorem h_m110 : z_mth 110 = some z_r110 := rfl
theorem h_m111 : z_mth 111 = some z_r111 := rfl
theorem h_m112 : z_mth 112 = some z_r112 := rfl
theorem h_m113 : z_mth 113 = some z_r113 := rfl
theorem h_m114 : z_mth 114 = some z_r114 := rfl
theorem h_m115 : z_mth 115 = some z_r115 := rfl
theorem h_m116 : z_mth 116 = some z_r116 := rfl
theorem h_m117 : z_mth 117 = some z_r117 := rfl
theorem h_m118 : z_mth 118 = some z_r118 := rfl
theorem h_m119 : z_mth 119 = some z_r119 := rfl
theorem h_m120 : z_mth 120 = some z_r120 := rfl
theorem h_m121 : z_mth 121 = some z_r121 := rfl
theorem h_m122 : z_mth 122 = some z_r122 := rfl
theorem h_m123 : z_mth 123 = some z_r123 := rfl
theorem h_m124 : z_mth 124 = some z_r124 := rfl
theorem h_m125 : z_mth 125 = some z_r125 := rfl
theorem h_m126 : z_mth 126 = some z_r126 := rfl
theorem h_m127 : z_mth 127 = some z_r127 := rfl
theorem h_m128 : z_mth 128 = some z_r128 := rfl
theorem h_m129 : z_mth 129 = some z_r129 := rfl
theorem h_m130 : z_mth 130 = some z_r130 := rfl
theorem h_m131 : z_mth 131 = some z_r131 := rfl
theorem h_m132 : z_mth 132 = some z_r132 := rfl
theorem h_m133 : z_mth 133 = some z_r133 := rfl
theorem h_m134 : z_mth 134 = some z_r134 := rfl
theorem h_m135 : z_mth 135 = some z_r135 := rfl
theorem h_m136 : z_mth 136 = some z_r136 := rfl
theorem h_m137 : z_mth 137 = some z_r137 := rfl
theorem h_m138 : z_mth 138 = some z_r138 := rfl
theorem h_m139 : z_mth 139 = some z_r139 := rfl
theorem h_m140 : z_mth 140 = some z_r140 := rfl
theorem h_m141 : z_mth 141 = some z_r141 := rfl
theorem h_m142 : z_mth 142 = some z_r142 := rfl
theorem h_m143 : z_mth 143 = some z_r143 := rfl
theorem h_m144 : z_mth 144 = some z_r144 := rfl
theorem h_m145 : z_mth 145 = some z_r145 := rfl
theorem h_m146 : z_mth 146 = some z_r146 := rfl
theorem h_m147 : z_mth 147 = some z_r147 := rfl
theorem h_m148 : z_mth 148 = some z_r148 := rfl
theorem h_m149 : z_mth 149 = some z_r149 := rfl
theorem h_m150 : z_mth 150 = some z_r150 := rfl
theorem h_m151 : z_mth 151 = some z_r151 := rfl
theorem h_m152 : z_mth 152 = some z_r152 := rfl
theorem h_m153 : z_mth 153 = some z_r153 := rfl
theorem h_m154 : z_mth 154 = some z_r154 := rfl
theorem h_m155 : z_mth 155 = some z_r155 := rfl
theorem h_m156 : z_mth 156 = some z_r156 := rfl
theorem h_m157 : z_mth 157 = some z_r157 := rfl
theorem h_m158 : z_mth 158 = some z_r158 := rfl
theorem h_m159 : z_mth 159 = some z_r159 := rfl
theorem h_m160 : z_mth 160 = some z_r160 := rfl
theorem h_m161 : z_mth 161 = some z_r161 := rfl
theorem h_m162 : z_mth 162 = some z_r162 := rfl
theorem h_m163 : z_mth 163 = some z_r163 := rfl
theorem h_m164 : z_mth 164 = some z_r164 := rfl
theorem h_m165 : z_mth 165 = some z_r165 := rfl
theorem h_m166 : z_mth 166 = some z_r166 := rfl
theorem h_m167 : z_mth 167 = some z_r167 := rfl
theorem h_m168 : z_mth 168 = some z_r168 := rfl
theorem h_m169 : z_mth 169 = some z_r169 := rfl
theorem h_m170 : z_mth 170 = some z_r170 := rfl
theorem h_m171 : z_mth 171 = some z_r171 := rfl
theorem h_m172 : z_mth 172 = some z_r172 := rfl
theorem h_m173 : z_mth 173 = some z_r173 := rfl
theorem h_m174 : z_mth 174 = some z_r174 := rfl
theorem h_m175 : z_mth 175 = some z_r175 := rfl
theorem h_m176 : z_mth 176 = some z_r176 := rfl
theorem h_m177 : z_mth 177 = some z_r177 := rfl
theorem h_m178 : z_mth 178 = some z_r178 := rfl
theorem h_m179 : z_mth 179 = some z_r179 := rfl
theorem h_m180 : z_mth 180 = some z_r180 := rfl
theorem h_m181 : z_mth 181 = some z_r181 := rfl
theorem h_m182 : z_mth 182 = some z_r182 := rfl
theorem h_m183 : z_mth 183 = some z_r183 := rfl
theorem h_m184 : z_mth 184 = some z_r184 := rfl
theorem h_m185 : z_mth 185 = some z_r185 := rfl
theorem h_m186 : z_mth 186 = some z_r186 := rfl
theorem h_m187 : z_mth 187 = some z_r187 := rfl
theorem h_m188 : z_mth 188 = some z_r188 := rfl
theorem h_m189 : z_mth 189 = some z_r189 := rfl
theorem h_m190 : z_mth 190 = some z_r190 := rfl
theorem h_m191 : z_mth 191 = some z_r191 := rfl
theorem h_m192 : z_mth 192 = some z_r192 := rfl
theorem h_m193 : z_mth 193 = some z_r193 := rfl
theorem h_m194 : z_mth 194 = some z_r194 := rfl
theorem h_m195 : z_mth 195 = some z_r195 := rfl
theorem h_m196 : z_mth 196 = some z_r196 := rfl
theorem h_m197 : z_mth 197 = some z_r197 := rfl
theorem h_m198 : z_mth 198 = some z_r198 := rfl
theorem h_m199 : z_mth 199 = some z_r199 := rfl
theorem h_m200 : z_mth 200 = some z_r200 := rfl
theorem h_m201 : z_mth 201 = some z_r201 := rfl
theorem h_m202 : z_mth 202 = some z_r202 := rfl
theorem h_m203 : z_mth 203 = some z_r203 := rfl
theorem h_m204 : z_mth 204 = some z_r204 := rfl
theorem h_m205 : z_mth 205 = some z_r205 := rfl
theorem h_m206 : z_mth 206 = some z_r206 := rfl
theorem h_m207 : z_mth 207 = some z_r207 := rfl
theorem h_m208 : z_mth 208 = some z_r208 := rfl
theorem h_m209 : z_mth 209 = some z_r209 := rfl
theorem h_m210 : z_mth 210 = some z_r210 := rfl
theorem h_m211 : z_mth 211 = some z_r211 := rfl
theorem h_m212 : z_mth 212 = some z_r212 := rfl
theorem h_m213 : z_mth 213 = some z_r213 := rfl
theorem h_m214 : z_mth 214 = some z_r214 := rfl
theorem h_m215 : z_mth 215 = some z_r215 := rfl
theorem h_m216 : z_mth 216 = some z_r216 := rfl
theorem h_m217 : z_mth 217 = some z_r217 := rfl
theorem h_m218 : z_mth 218 = some z_r218 := rfl
theorem h_m219 : z_mth 219 = some z_r219 := rfl
theorem h_m220 : z_mth 220 = some z_r220 := rfl
theorem h_m221 : z_mth 221 = some z_r221 := rfl
theorem h_m222 : z_mth 222 = some z_r222 := rfl
theorem h_m223 : z_mth 223 = some z_r223 := rfl
theorem h_m224 : z_mth 224 = some z_r224 := rfl
theorem h_m225 : z_mth 225 = some z_r225 := rfl
theorem h_m226 : z_mth 226 = some z_r226 := rfl
theorem h_m227 : z_mth 227 = some z_r227 := rfl
theorem h_m228 : z_mth 228 = some z_r228 := rfl
theorem h_m229 : z_mth 229 = some z_r229 := rfl
theorem h_m230 : z_mth 230 = some z_r230 := rfl
theorem h_m231 : z_mth 231 = some z_r231 := rfl
theorem h_m232 : z_mth 232 = some z_r232 := rfl
theorem h_m233 : z_mth 233 = some z_r233 := rfl
theorem h_m234 : z_mth 234 = some z_r234 := rfl
theorem h_m235 : z_mth 235 = some z_r235 := rfl
theorem h_m236 : z_mth 236 = some z_r236 := rfl
theorem h_m237 : z_mth 237 = some z_r237 := rfl
theorem h_m238 : z_mth 238 = some z_r238 := rfl
theorem h_m239 : z_mth 239 = some z_r239 := rfl
theorem h_m240 : z_mth 240 = some z_r240 := rfl
theorem h_m241 : z_mth 241 = some z_r241 := rfl
theorem h_m242 : z_mth 242 = some z_r242 := rfl
theorem h_m243 : z_mth 243 = some z_r243 := rfl
theorem h_m244 : z_mth 244 = some z_r244 := rfl
theorem h_m245 : z_mth 245 = some z_r245 := rfl
theorem h_m246 : z_mth 246 = some z_r246 := rfl
theorem h_m247 : z_mth 247 = some z_r247 := rfl
theorem h_m248 : z_mth 248 = some z_r248 := rfl
theorem h_m249 : z_mth 249 = some z_r249 := rfl
theorem h_m250 : z_mth 250 = some z_r250 := rfl
theorem h_m251 : z_mth 251 = some z_r251 := rfl
theorem h_m252 : z_mth 252 = some z_r252 := rfl
theorem h_m253 : z_mth 253 = some z_r253 := rfl
theorem h_m254 : z_mth 254 = some z_r254 := rfl
theorem h_m255 : z_mth 255 = some z_r255 := rfl
theorem h_m256 : z_mth 256 = some z_r256 := rfl
theorem h_m257 : z_mth 257 = some z_r257 := rfl
theorem h_m258 : z_mth 258 = some z_r258 := rfl
theorem h_m259 : z_mth 259 = some z_r259 := rfl
theorem h_m260 : z_mth 260 = some z_r260 := rfl
theorem h_m261 : z_mth 261 = some z_r261 := rfl
theorem h_m262 : z_mth 262 = some z_r262 := rfl
theorem h_m263 : z_mth 263 = some z_r263 := rfl
theorem h_m264 : z_mth 264 = some z_r264 := rfl
theorem h_m265 : z_mth 265 = some z_r265 := rfl
theorem h_m266 : z_mth 266 = some z_r266 := rfl
theorem h_m267 : z_mth 267 = some z_r267 := rfl
theorem h_m268 : z_mth 268 = some z_r268 := rfl
theorem h_m269 : z_mth 269 = some z_r269 := rfl
theorem h_m270 : z_mth 270 = some z_r270 := rfl
theorem h_m271 : z_mth 271 = some z_r271 := rfl
theorem h_m272 : z_mth 272 = some z_r272 := rfl
theorem h_m273 : z_mth 273 = some z_r273 := rfl
theorem h_m274 : z_mth 274 = some z_r274 := rfl
theorem h_m275 : z_mth 275 = some z_r275 := rfl
theorem h_m276 : z_mth 276 = some z_r276 := rfl
theorem h_m277 : z_mth 277 = some z_r277 := rfl
theorem h_m278 : z_mth 278 = some z_r278 := rfl
theorem h_m279 : z_mth 279 = some z_r279 := rfl
theorem h_m280 : z_mth 280 = some z_r280 := rfl
theorem h_m281 : z_mth 281 = some z_r281 := rfl
theorem h_m282 : z_mth 282 = some z_r282 := rfl
theorem h_m283 : z_mth 283 = some z_r283 := rfl
theorem h_m284 : z_mth 284 = some z_r284 := rfl
theorem h_m285 : z_mth 285 = some z_r285 := rfl
theorem h_m286 : z_mth 286 = some z_r286 := rfl
theorem h_m287 : z_mth 287 = some z_r287 := rfl
theorem h_m288 : z_mth 288 = some z_r288 := rfl
theorem h_m289 : z_mth 289 = some z_r289 := rfl
theorem h_m290 : z_mth 290 = some z_r290 := rfl
theorem h_m291 : z_mth 291 = some z_r291 := rfl
theorem h_m292 : z_mth 292 = some z_r292 := rfl
theorem h_m293 : z_mth 293 = some z_r293 := rfl
theorem h_m294 : z_mth 294 = some z_r294 := rfl
theorem h_m295 : z_mth 295 = some z_r295 := rfl
theorem h_m296 : z_mth 296 = some z_r296 := rfl
theorem h_m297 : z_mth 297 = some z_r297 := rfl
theorem h_m298 : z_mth 298 = some z_r298 := rfl
theorem h_m299 : z_mth 299 = some z_r299 := rfl
theorem h_m300 : z_mth 300 = some z_r300 := rfl
theorem h_m301 : z_mth 301 = some z_r301 := rfl
theorem h_m302 : z_mth 302 = some z_r302 := rfl
theorem h_m303 : z_mth 303 = some z_r303 := rfl
theorem h_m304 : z_mth 304 = some z_r304 := rfl
theorem h_m305 : z_mth 305 = some z_r305 := rfl
theorem h_m306 : z_mth 306 = some z_r306 := rfl
theorem h_m307 : z_mth 307 = some z_r307 := rfl
theorem h_m308 : z_mth 308 = some z_r308 := rfl
theorem h_m309 : z_mth 309 = some z_r309 := rfl
theorem h_m310 : z_mth 310 = some z_r310 := rfl
theorem h_m311 : z_mth 311 = some z_r311 := rfl
theorem h_m312 : z_mth 312 = some z_r312 := rfl
theorem h_m313 : z_mth 313 = some z_r313 := rfl
theorem h_m314 : z_mth 314 = some z_r314 := rfl
theorem h_m315 : z_mth 315 = some z_r315 := rfl
theorem h_m316 : z_mth 316 = some z_r316 := rfl
theorem h_m317 : z_mth 317 = some z_r317 := rfl
theorem h_m318 : z_mth 318 = some z_r318 := rfl
theorem h_m1000 : z_mth 1000 = some z_rL := rfl
