/-! THE REFERENCE'S COPIES: keeps and back, by their loops (by wip/px_copy.py) -/
section ZCL
variable {xl : Nat} {xs : Nat → Int32} {N S : Nat} {T : wT}
variable {q : z_R} {d k pc pc' : Nat} {L L' : zL} {st st' r : List Value} {μ : zM} {Q : Option Value → zM → Prop}
theorem w_asm {i : Instr} (H : w_ok xl xs N S T μ) {a t n : Nat} {y : Int32} {c : Int} {u w : Value} {r0 : wR} (r' : wR) (hq : z_mth k = some q) (hi : z_at q pc i) (hr : (match i with | .return_ | .ireturn | .lreturn | .areturn | .invokevirtual _ => false | _ => true) = true) (hz : z_step q.2.2.2.2.1 q.2.2.1 (q.1.name == "<init>") i pc L (w :: .int y :: .ref a :: r) μ = z_sd μ t pc L a y u r) (hu : (t = 0 ∨ t = 2 → ∃ x : Int32, u = .int x) ∧ (t = 1 → ∃ x : Int64, u = .long x)) (hy : y.toInt = c) (h0 : 0 ≤ c) (h1 : c < n) (hrow : (w_row T a).map (fun r => (r, r.1, r.2.1)) = some (r0, t, n)) (hn : r'.1 = t ∧ r'.2.1 = n) (hk : w_kn c r0 r'.2.2.1) (hd : r'.2.2.2 = none ∨ (r' = r0 ∧ r0.2.2.2 = some u)) (e1 : pc + 1 = pc') (e2 : z_can k pc' L = L') (kk : w_ok xl xs N S ((a, r') :: T) (z_wr μ a c.toNat u) → z_W d k pc' L' r (z_wr μ a c.toNat u) Q) : z_W d k pc L (w :: .int y :: .ref a :: r) μ Q := by
  subst e1
  have hj : ((c.toNat : Nat) : Int) = c := by omega
  obtain ⟨g1, g2, g3, g4⟩ := H.wx (j := c.toNat) hrow hn hu (by rw [hj]; exact hk) hd (by omega)
  have ey : y.toNatClampNeg = c.toNat := by
    show y.toInt.toNat = _
    rw [hy]
  refine w_x (fun _ _ e => ev_s hq hi hr (hz.trans (?_ : z_sd μ t pc L a y u r = some (pc + 1, L, r, z_wr μ a c.toNat u))) e2 e) (kk g4)
  rw [← ey]
  unfold z_sd
  rw [if_pos (show zE ≤ a from g1), if_pos g2, if_pos]
  unfold z_in
  rw [g3, decide_eq_true (show 0 ≤ y.toInt by omega), decide_eq_true (show y.toInt < n by omega)]
  rfl
theorem w_ok.same {rr : wR} (H : w_ok xl xs N S ((k, rr) :: T) μ) (h : w_row T k = some rr) : w_ok xl xs N S T μ := by
  refine H.sub (fun a r hr => ?_)
  rw [w_row_cons]
  by_cases hk : k = a
  · rw [if_pos hk, ← h, hk, hr]
  · rw [if_neg hk]; exact hr
theorem w_ok.forget (H : w_ok xl xs N S T μ) {a t n : Nat} (h : (w_row T a).map (fun r => (r.1, r.2.1)) = some (t, n)) : w_ok xl xs N S ((a, (t, n, [], none)) :: T) μ := by
  refine ⟨H.1, H.2.1, H.2.2.1, H.2.2.2.1, fun b r hr => ?_⟩
  rw [w_row_cons] at hr
  by_cases hk : a = b
  · rw [if_pos hk] at hr
    cases hr
    subst hk
    obtain ⟨rr, hrr, he⟩ := Option.map_eq_some_iff.mp h
    obtain ⟨g1, g2, g3, g4⟩ := H.2.2.2.2 a rr hrr
    have he1 : rr.1 = t := (Prod.mk.inj he).1
    have he2 : rr.2.1 = n := (Prod.mk.inj he).2
    exact ⟨g1, by rw [g2, he1, he2], by rw [← he1]; exact g3, fun j v _ hv => by cases hv⟩
  · rw [if_neg hk] at hr
    exact H.2.2.2.2 b r hr
theorem w_ok.learn (H : w_ok xl xs N S T μ) {a b n : Nat} {ra : wR} (ha : w_row T a = some ra) (hb : (w_row T b).map (fun r => (r.1, r.2.1)) = some (ra.1, n)) (hn : ra.2.1 = n) (h : ∀ j : Nat, j < n → μ.2 b j = μ.2 a j) : w_ok xl xs N S ((b, ra) :: T) μ := by
  refine ⟨H.1, H.2.1, H.2.2.1, H.2.2.2.1, fun c r hr => ?_⟩
  rw [w_row_cons] at hr
  by_cases hk : b = c
  · rw [if_pos hk] at hr
    cases hr
    subst hk
    obtain ⟨rb, hrb, he⟩ := Option.map_eq_some_iff.mp hb
    obtain ⟨g1, g2, g3, g4⟩ := H.2.2.2.2 b rb hrb
    obtain ⟨k1, k2, k3, k4⟩ := H.2.2.2.2 a ra ha
    have he1 : rb.1 = ra.1 := (Prod.mk.inj he).1
    have he2 : rb.2.1 = n := (Prod.mk.inj he).2
    exact ⟨g1, by rw [g2, he1, he2, hn], by rw [← he1]; exact g3, fun j v hj hv => by rw [h j (by rw [← hn]; exact hj)]; exact k4 j v hj hv⟩
  · rw [if_neg hk] at hr
    exact H.2.2.2.2 c r hr
theorem w_kp1 {a b e : Nat} (hs : w_g T 22 143 0 = some (.ref a)) (hra : (w_row T a).map (fun r => (r.1, r.2.1)) = some (0, 2740)) (hrb : w_row T b = some (0, 2740, [], none)) (hab : a ≠ b) {fa : Nat → Value} {Q : Option Value → zM → Prop} : ∀ (n : Nat) (i : Int32) (c : Int) (m : zM), i.toInt = c → 0 ≤ c → c + n = 2740 → w_ok xl xs N S T m → m.2 a = fa → (∀ j : Nat, (j : Int) < c → m.2 b j = fa j) → (∀ i m, w_ok xl xs N S T m → m.2 a = fa → (∀ j : Nat, j < 2740 → m.2 b j = fa j) → z_W d 162 24 [(0, .ref 143), (1, .ref b), (2, .ref e), (3, .int i)] [] m Q) → z_W d 162 2 [(0, .ref 143), (1, .ref b), (2, .ref e), (3, .int i)] [] m Q
  | 0, i, c, m, hc, h0, hn, H, hfa, hb, hQ => by
    refine w_p h_m162 2 (pc' := 6) (L' := [(0, .ref 143), (1, .ref b), (2, .ref e), (3, .int i)]) (st' := [.int (2740 : Int32), .int i]) rfl ?_
    refine w_t2 (pc' := 24) (L' := [(0, .ref 143), (1, .ref b), (2, .ref e), (3, .int i)]) h_m162 (z_at.mk 3 rfl rfl) rfl (zc (a := c) (b := 2740) hc rfl (decide_eq_true (by omega))) rfl rfl ?_
    exact hQ i m H hfa (fun j hj => hb j (by omega))
  | n + 1, i, c, m, hc, h0, hn, H, hfa, hb, hQ => by
    refine w_p h_m162 2 (pc' := 6) (L' := [(0, .ref 143), (1, .ref b), (2, .ref e), (3, .int i)]) (st' := [.int (2740 : Int32), .int i]) rfl ?_
    refine w_f2 (pc' := 9) (L' := [(0, .ref 143), (1, .ref b), (2, .ref e), (3, .int i)]) h_m162 (z_at.mk 3 rfl rfl) rfl (zc (a := c) (b := 2740) hc rfl (decide_eq_false (by omega))) rfl rfl ?_
    refine w_p h_m162 3 (pc' := 12) (L' := [(0, .ref 143), (1, .ref b), (2, .ref e), (3, .int i)]) (st' := [.ref 143, .int i, .ref b]) rfl ?_
    refine w_gf H (pc' := 15) (L' := [(0, .ref 143), (1, .ref b), (2, .ref e), (3, .int i)]) h_m162 (z_at.mk 3 rfl rfl) rfl hs rfl rfl ?_
    refine w_p h_m162 1 (pc' := 16) (L' := [(0, .ref 143), (1, .ref b), (2, .ref e), (3, .int i)]) (st' := [.int i, .ref a, .int i, .ref b]) rfl ?_
    refine w_unk H (t := 0) (n := 2740) (c := c) (pc' := 17) (L' := [(0, .ref 143), (1, .ref b), (2, .ref e), (3, .int i)]) h_m162 (z_at.mk 1 rfl rfl) rfl rfl hc h0 (by omega) hra rfl rfl ?_
    intro he
    obtain ⟨x, hx⟩ := he.1 (Or.inl rfl) c.toNat
    rw [hx]
    refine w_asm H (t := 0) (n := 2740) (c := c) (u := .int x) (0, 2740, [], none) (pc' := 18) (L' := [(0, .ref 143), (1, .ref b), (2, .ref e), (3, .int i)]) h_m162 (z_at.mk 1 rfl rfl) rfl rfl (w_ui _ _ (by decide)) hc h0 (by omega) (by rw [hrb]; rfl) ⟨rfl, rfl⟩ w_kn_n (Or.inl rfl) rfl rfl ?_
    intro H2
    refine w_p h_m162 2 (pc' := 2) (L' := [(0, .ref 143), (1, .ref b), (2, .ref e), (3, .int (i + (1 : Int32)))]) (st' := []) rfl ?_
    refine w_kp1 hs hra hrb hab n (i + (1 : Int32)) (c + 1) _ (zi_add (a := c) (b := 1) (c := c + 1) hc rfl (by omega) (by omega) rfl) (by omega) (by omega) (H2.same hrb) ?_ ?_ hQ
    · rw [← hfa]
      exact funext fun j => if_neg hab
    · intro j hj
      show (if b = b then (if j = c.toNat then Value.int x else m.2 b j) else m.2 b j) = fa j
      rw [if_pos rfl]
      by_cases hjc : j = c.toNat
      · rw [if_pos hjc, ← hx, hfa, hjc]
      · rw [if_neg hjc]
        exact hb j (by omega)
theorem w_kp2 {a b : Nat} (hs : w_g T 22 143 3 = some (.ref a)) (hra : (w_row T a).map (fun r => (r.1, r.2.1)) = some (1, 361)) (hrb : w_row T b = some (1, 361, [], none)) (hab : a ≠ b) {fa : Nat → Value} {Q : Option Value → zM → Prop} : ∀ (n : Nat) (i : Int32) (c : Int) (m : zM), i.toInt = c → 0 ≤ c → c + n = 361 → w_ok xl xs N S T m → m.2 a = fa → (∀ j : Nat, (j : Int) < c → m.2 b j = fa j) → (∀ i m, w_ok xl xs N S T m → m.2 a = fa → (∀ j : Nat, j < 361 → m.2 b j = fa j) → z_W d 162 48 [(0, .ref 143), (2, .ref b), (3, .int i)] [] m Q) → z_W d 162 26 [(0, .ref 143), (2, .ref b), (3, .int i)] [] m Q
  | 0, i, c, m, hc, h0, hn, H, hfa, hb, hQ => by
    refine w_p h_m162 2 (pc' := 30) (L' := [(0, .ref 143), (2, .ref b), (3, .int i)]) (st' := [.int (361 : Int32), .int i]) rfl ?_
    refine w_t2 (pc' := 48) (L' := [(0, .ref 143), (2, .ref b), (3, .int i)]) h_m162 (z_at.mk 3 rfl rfl) rfl (zc (a := c) (b := 361) hc rfl (decide_eq_true (by omega))) rfl rfl ?_
    exact hQ i m H hfa (fun j hj => hb j (by omega))
  | n + 1, i, c, m, hc, h0, hn, H, hfa, hb, hQ => by
    refine w_p h_m162 2 (pc' := 30) (L' := [(0, .ref 143), (2, .ref b), (3, .int i)]) (st' := [.int (361 : Int32), .int i]) rfl ?_
    refine w_f2 (pc' := 33) (L' := [(0, .ref 143), (2, .ref b), (3, .int i)]) h_m162 (z_at.mk 3 rfl rfl) rfl (zc (a := c) (b := 361) hc rfl (decide_eq_false (by omega))) rfl rfl ?_
    refine w_p h_m162 3 (pc' := 36) (L' := [(0, .ref 143), (2, .ref b), (3, .int i)]) (st' := [.ref 143, .int i, .ref b]) rfl ?_
    refine w_gf H (pc' := 39) (L' := [(0, .ref 143), (2, .ref b), (3, .int i)]) h_m162 (z_at.mk 3 rfl rfl) rfl hs rfl rfl ?_
    refine w_p h_m162 1 (pc' := 40) (L' := [(0, .ref 143), (2, .ref b), (3, .int i)]) (st' := [.int i, .ref a, .int i, .ref b]) rfl ?_
    refine w_unk H (t := 1) (n := 361) (c := c) (pc' := 41) (L' := [(0, .ref 143), (2, .ref b), (3, .int i)]) h_m162 (z_at.mk 1 rfl rfl) rfl rfl hc h0 (by omega) hra rfl rfl ?_
    intro he
    obtain ⟨x, hx⟩ := he.2 rfl c.toNat
    rw [hx]
    refine w_asm H (t := 1) (n := 361) (c := c) (u := .long x) (1, 361, [], none) (pc' := 42) (L' := [(0, .ref 143), (2, .ref b), (3, .int i)]) h_m162 (z_at.mk 1 rfl rfl) rfl rfl (w_ul _) hc h0 (by omega) (by rw [hrb]; rfl) ⟨rfl, rfl⟩ w_kn_n (Or.inl rfl) rfl rfl ?_
    intro H2
    refine w_p h_m162 2 (pc' := 26) (L' := [(0, .ref 143), (2, .ref b), (3, .int (i + (1 : Int32)))]) (st' := []) rfl ?_
    refine w_kp2 hs hra hrb hab n (i + (1 : Int32)) (c + 1) _ (zi_add (a := c) (b := 1) (c := c + 1) hc rfl (by omega) (by omega) rfl) (by omega) (by omega) (H2.same hrb) ?_ ?_ hQ
    · rw [← hfa]
      exact funext fun j => if_neg hab
    · intro j hj
      show (if b = b then (if j = c.toNat then Value.long x else m.2 b j) else m.2 b j) = fa j
      rw [if_pos rfl]
      by_cases hjc : j = c.toNat
      · rw [if_pos hjc, ← hx, hfa, hjc]
      · rw [if_neg hjc]
        exact hb j (by omega)
theorem w_bk1 {a b e : Nat} (hs : w_g T 22 143 0 = some (.ref b)) (hra : (w_row T a).map (fun r => (r.1, r.2.1)) = some (0, 2740)) (hrb : w_row T b = some (0, 2740, [], none)) (hab : a ≠ b) {fa : Nat → Value} {Q : Option Value → zM → Prop} : ∀ (n : Nat) (i : Int32) (c : Int) (m : zM), i.toInt = c → 0 ≤ c → c + n = 2740 → w_ok xl xs N S T m → m.2 a = fa → (∀ j : Nat, (j : Int) < c → m.2 b j = fa j) → (∀ i m, w_ok xl xs N S T m → m.2 a = fa → (∀ j : Nat, j < 2740 → m.2 b j = fa j) → z_W d 163 24 [(0, .ref 143), (1, .ref a), (2, .ref e), (3, .int i)] [] m Q) → z_W d 163 2 [(0, .ref 143), (1, .ref a), (2, .ref e), (3, .int i)] [] m Q
  | 0, i, c, m, hc, h0, hn, H, hfa, hb, hQ => by
    refine w_p h_m163 2 (pc' := 6) (L' := [(0, .ref 143), (1, .ref a), (2, .ref e), (3, .int i)]) (st' := [.int (2740 : Int32), .int i]) rfl ?_
    refine w_t2 (pc' := 24) (L' := [(0, .ref 143), (1, .ref a), (2, .ref e), (3, .int i)]) h_m163 (z_at.mk 3 rfl rfl) rfl (zc (a := c) (b := 2740) hc rfl (decide_eq_true (by omega))) rfl rfl ?_
    exact hQ i m H hfa (fun j hj => hb j (by omega))
  | n + 1, i, c, m, hc, h0, hn, H, hfa, hb, hQ => by
    refine w_p h_m163 2 (pc' := 6) (L' := [(0, .ref 143), (1, .ref a), (2, .ref e), (3, .int i)]) (st' := [.int (2740 : Int32), .int i]) rfl ?_
    refine w_f2 (pc' := 9) (L' := [(0, .ref 143), (1, .ref a), (2, .ref e), (3, .int i)]) h_m163 (z_at.mk 3 rfl rfl) rfl (zc (a := c) (b := 2740) hc rfl (decide_eq_false (by omega))) rfl rfl ?_
    refine w_p h_m163 1 (pc' := 10) (L' := [(0, .ref 143), (1, .ref a), (2, .ref e), (3, .int i)]) (st' := [.ref 143]) rfl ?_
    refine w_gf H (pc' := 13) (L' := [(0, .ref 143), (1, .ref a), (2, .ref e), (3, .int i)]) h_m163 (z_at.mk 3 rfl rfl) rfl hs rfl rfl ?_
    refine w_p h_m163 3 (pc' := 16) (L' := [(0, .ref 143), (1, .ref a), (2, .ref e), (3, .int i)]) (st' := [.int i, .ref a, .int i, .ref b]) rfl ?_
    refine w_unk H (t := 0) (n := 2740) (c := c) (pc' := 17) (L' := [(0, .ref 143), (1, .ref a), (2, .ref e), (3, .int i)]) h_m163 (z_at.mk 1 rfl rfl) rfl rfl hc h0 (by omega) hra rfl rfl ?_
    intro he
    obtain ⟨x, hx⟩ := he.1 (Or.inl rfl) c.toNat
    rw [hx]
    refine w_asm H (t := 0) (n := 2740) (c := c) (u := .int x) (0, 2740, [], none) (pc' := 18) (L' := [(0, .ref 143), (1, .ref a), (2, .ref e), (3, .int i)]) h_m163 (z_at.mk 1 rfl rfl) rfl rfl (w_ui _ _ (by decide)) hc h0 (by omega) (by rw [hrb]; rfl) ⟨rfl, rfl⟩ w_kn_n (Or.inl rfl) rfl rfl ?_
    intro H2
    refine w_p h_m163 2 (pc' := 2) (L' := [(0, .ref 143), (1, .ref a), (2, .ref e), (3, .int (i + (1 : Int32)))]) (st' := []) rfl ?_
    refine w_bk1 hs hra hrb hab n (i + (1 : Int32)) (c + 1) _ (zi_add (a := c) (b := 1) (c := c + 1) hc rfl (by omega) (by omega) rfl) (by omega) (by omega) (H2.same hrb) ?_ ?_ hQ
    · rw [← hfa]
      exact funext fun j => if_neg hab
    · intro j hj
      show (if b = b then (if j = c.toNat then Value.int x else m.2 b j) else m.2 b j) = fa j
      rw [if_pos rfl]
      by_cases hjc : j = c.toNat
      · rw [if_pos hjc, ← hx, hfa, hjc]
      · rw [if_neg hjc]
        exact hb j (by omega)
theorem w_bk2 {a b : Nat} (hs : w_g T 22 143 3 = some (.ref b)) (hra : (w_row T a).map (fun r => (r.1, r.2.1)) = some (1, 361)) (hrb : w_row T b = some (1, 361, [], none)) (hab : a ≠ b) {fa : Nat → Value} {Q : Option Value → zM → Prop} : ∀ (n : Nat) (i : Int32) (c : Int) (m : zM), i.toInt = c → 0 ≤ c → c + n = 361 → w_ok xl xs N S T m → m.2 a = fa → (∀ j : Nat, (j : Int) < c → m.2 b j = fa j) → (∀ i m, w_ok xl xs N S T m → m.2 a = fa → (∀ j : Nat, j < 361 → m.2 b j = fa j) → z_W d 163 48 [(0, .ref 143), (2, .ref a), (3, .int i)] [] m Q) → z_W d 163 26 [(0, .ref 143), (2, .ref a), (3, .int i)] [] m Q
  | 0, i, c, m, hc, h0, hn, H, hfa, hb, hQ => by
    refine w_p h_m163 2 (pc' := 30) (L' := [(0, .ref 143), (2, .ref a), (3, .int i)]) (st' := [.int (361 : Int32), .int i]) rfl ?_
    refine w_t2 (pc' := 48) (L' := [(0, .ref 143), (2, .ref a), (3, .int i)]) h_m163 (z_at.mk 3 rfl rfl) rfl (zc (a := c) (b := 361) hc rfl (decide_eq_true (by omega))) rfl rfl ?_
    exact hQ i m H hfa (fun j hj => hb j (by omega))
  | n + 1, i, c, m, hc, h0, hn, H, hfa, hb, hQ => by
    refine w_p h_m163 2 (pc' := 30) (L' := [(0, .ref 143), (2, .ref a), (3, .int i)]) (st' := [.int (361 : Int32), .int i]) rfl ?_
    refine w_f2 (pc' := 33) (L' := [(0, .ref 143), (2, .ref a), (3, .int i)]) h_m163 (z_at.mk 3 rfl rfl) rfl (zc (a := c) (b := 361) hc rfl (decide_eq_false (by omega))) rfl rfl ?_
    refine w_p h_m163 1 (pc' := 34) (L' := [(0, .ref 143), (2, .ref a), (3, .int i)]) (st' := [.ref 143]) rfl ?_
    refine w_gf H (pc' := 37) (L' := [(0, .ref 143), (2, .ref a), (3, .int i)]) h_m163 (z_at.mk 3 rfl rfl) rfl hs rfl rfl ?_
    refine w_p h_m163 3 (pc' := 40) (L' := [(0, .ref 143), (2, .ref a), (3, .int i)]) (st' := [.int i, .ref a, .int i, .ref b]) rfl ?_
    refine w_unk H (t := 1) (n := 361) (c := c) (pc' := 41) (L' := [(0, .ref 143), (2, .ref a), (3, .int i)]) h_m163 (z_at.mk 1 rfl rfl) rfl rfl hc h0 (by omega) hra rfl rfl ?_
    intro he
    obtain ⟨x, hx⟩ := he.2 rfl c.toNat
    rw [hx]
    refine w_asm H (t := 1) (n := 361) (c := c) (u := .long x) (1, 361, [], none) (pc' := 42) (L' := [(0, .ref 143), (2, .ref a), (3, .int i)]) h_m163 (z_at.mk 1 rfl rfl) rfl rfl (w_ul _) hc h0 (by omega) (by rw [hrb]; rfl) ⟨rfl, rfl⟩ w_kn_n (Or.inl rfl) rfl rfl ?_
    intro H2
    refine w_p h_m163 2 (pc' := 26) (L' := [(0, .ref 143), (2, .ref a), (3, .int (i + (1 : Int32)))]) (st' := []) rfl ?_
    refine w_bk2 hs hra hrb hab n (i + (1 : Int32)) (c + 1) _ (zi_add (a := c) (b := 1) (c := c + 1) hc rfl (by omega) (by omega) rfl) (by omega) (by omega) (H2.same hrb) ?_ ?_ hQ
    · rw [← hfa]
      exact funext fun j => if_neg hab
    · intro j hj
      show (if b = b then (if j = c.toNat then Value.long x else m.2 b j) else m.2 b j) = fa j
      rw [if_pos rfl]
      by_cases hjc : j = c.toNat
      · rw [if_pos hjc, ← hx, hfa, hjc]
      · rw [if_neg hjc]
        exact hb j (by omega)
theorem w_keeps (H : w_ok xl xs N S T μ) {b1 b2 : Nat} {ra rb : wR} (hs1 : w_g T 22 143 0 = some (.ref 144)) (hs2 : w_g T 22 143 3 = some (.ref 147)) (hra : w_row T 144 = some ra) (hra2 : (ra.1, ra.2.1) = (0, 2740)) (hrb : w_row T 147 = some rb) (hrb2 : (rb.1, rb.2.1) = (1, 361)) (h1 : (w_row T b1).map (fun r => (r.1, r.2.1)) = some (0, 2740)) (h2 : (w_row T b2).map (fun r => (r.1, r.2.1)) = some (1, 361)) (n1 : 144 ≠ b1) (n2 : 147 ≠ b2) (n3 : 147 ≠ b1) (n4 : b1 ≠ 143 ∧ b2 ≠ 143 ∧ b1 ≠ b2) {Q : Option Value → zM → Prop} (kk : ∀ m2, w_ok xl xs N S ((b2, rb) :: (b2, (1, 361, [], none)) :: (b1, ra) :: (b1, (0, 2740, [], none)) :: T) m2 → Q none m2) : z_W d 162 0 [(0, .ref 143), (1, .ref b1), (2, .ref b2)] [] μ Q := by
  have hA : ∀ c : Nat, (b1 : Nat) ≠ c → w_row ((b1, ((0, 2740, [], none) : wR)) :: T) c = w_row T c := fun c hc => by rw [w_row_cons, if_neg hc]
  have H1 := H.forget h1
  have ga : ∀ (T : wT) (f : Nat) (u : Value) (x : Nat) (r : wR), x ≠ 143 → w_g T 22 143 f = some u → w_g ((x, r) :: T) 22 143 f = some u := fun T f u x r hx h => by unfold w_g at h ⊢; rw [w_row_cons, if_neg hx]; exact h
  refine w_p h_m162 2 (pc' := 2) (L' := [(0, .ref 143), (1, .ref b1), (2, .ref b2), (3, .int (0 : Int32))]) (st' := []) rfl ?_
  refine w_kp1 (a := 144) (b := b1) (ga _ _ _ _ _ n4.1 hs1) (by rw [hA _ n1.symm, hra]; exact congrArg some hra2) (by rw [w_row_cons, if_pos rfl]) n1 2740 0 0 _ rfl (by omega) (by omega) H1 rfl (fun j hj => by omega) (fun i m H2 hfa hb => ?_)
  have H3 := H2.learn (a := 144) (b := b1) (n := 2740) (by rw [hA _ n1.symm, hra]) (by rw [w_row_cons, if_pos rfl]; exact congrArg (fun z => some (z, 2740)) (Prod.mk.inj hra2).1.symm) (Prod.mk.inj hra2).2 (fun j hj => by rw [hb j hj, hfa])
  have hB : ∀ c : Nat, (b1 : Nat) ≠ c → w_row ((b1, ra) :: (b1, ((0, 2740, [], none) : wR)) :: T) c = w_row T c := fun c hc => by rw [w_row_cons, if_neg hc]; exact hA c hc
  have H4 := H3.forget (a := b2) (t := 1) (n := 361) (by rw [hB _ n4.2.2]; exact h2)
  refine w_p h_m162 2 (pc' := 26) (L' := [(0, .ref 143), (2, .ref b2), (3, .int (0 : Int32))]) (st' := []) rfl ?_
  refine w_kp2 (a := 147) (b := b2) (ga _ _ _ _ _ n4.2.1 (ga _ _ _ _ _ n4.1 (ga _ _ _ _ _ n4.1 hs2))) (by rw [w_row_cons, if_neg n2.symm, hB _ n3.symm, hrb]; exact congrArg some hrb2) (by rw [w_row_cons, if_pos rfl]) n2 361 0 0 _ rfl (by omega) (by omega) H4 rfl (fun j hj => by omega) (fun i m H5 hfa hb => ?_)
  have H6 := H5.learn (a := 147) (b := b2) (n := 361) (by rw [w_row_cons, if_neg n2.symm, hB _ n3.symm, hrb]) (by rw [w_row_cons, if_pos rfl]; exact congrArg (fun z => some (z, 361)) (Prod.mk.inj hrb2).1.symm) (Prod.mk.inj hrb2).2 (fun j hj => by rw [hb j hj, hfa])
  exact w_rv h_m162 (z_at.mk 1 rfl rfl) rfl (kk _ H6)
theorem w_back (H : w_ok xl xs N S T μ) {b1 b2 : Nat} {ra rb : wR} (hs1 : w_g T 22 143 0 = some (.ref 144)) (hs2 : w_g T 22 143 3 = some (.ref 147)) (hra : w_row T b1 = some ra) (hra2 : (ra.1, ra.2.1) = (0, 2740)) (hrb : w_row T b2 = some rb) (hrb2 : (rb.1, rb.2.1) = (1, 361)) (h1 : (w_row T 144).map (fun r => (r.1, r.2.1)) = some (0, 2740)) (h2 : (w_row T 147).map (fun r => (r.1, r.2.1)) = some (1, 361)) (n1 : b1 ≠ 144) (n2 : b2 ≠ 147) (n3 : b2 ≠ 144) (n4 : 144 ≠ 143 ∧ 147 ≠ 143 ∧ 144 ≠ 147) {Q : Option Value → zM → Prop} (kk : ∀ m2, w_ok xl xs N S ((147, rb) :: (147, (1, 361, [], none)) :: (144, ra) :: (144, (0, 2740, [], none)) :: T) m2 → Q none m2) : z_W d 163 0 [(0, .ref 143), (1, .ref b1), (2, .ref b2)] [] μ Q := by
  have hA : ∀ c : Nat, (144 : Nat) ≠ c → w_row ((144, ((0, 2740, [], none) : wR)) :: T) c = w_row T c := fun c hc => by rw [w_row_cons, if_neg hc]
  have H1 := H.forget h1
  have ga : ∀ (T : wT) (f : Nat) (u : Value) (x : Nat) (r : wR), x ≠ 143 → w_g T 22 143 f = some u → w_g ((x, r) :: T) 22 143 f = some u := fun T f u x r hx h => by unfold w_g at h ⊢; rw [w_row_cons, if_neg hx]; exact h
  refine w_p h_m163 2 (pc' := 2) (L' := [(0, .ref 143), (1, .ref b1), (2, .ref b2), (3, .int (0 : Int32))]) (st' := []) rfl ?_
  refine w_bk1 (a := b1) (b := 144) (ga _ _ _ _ _ n4.1 hs1) (by rw [hA _ n1.symm, hra]; exact congrArg some hra2) (by rw [w_row_cons, if_pos rfl]) n1 2740 0 0 _ rfl (by omega) (by omega) H1 rfl (fun j hj => by omega) (fun i m H2 hfa hb => ?_)
  have H3 := H2.learn (a := b1) (b := 144) (n := 2740) (by rw [hA _ n1.symm, hra]) (by rw [w_row_cons, if_pos rfl]; exact congrArg (fun z => some (z, 2740)) (Prod.mk.inj hra2).1.symm) (Prod.mk.inj hra2).2 (fun j hj => by rw [hb j hj, hfa])
  have hB : ∀ c : Nat, (144 : Nat) ≠ c → w_row ((144, ra) :: (144, ((0, 2740, [], none) : wR)) :: T) c = w_row T c := fun c hc => by rw [w_row_cons, if_neg hc]; exact hA c hc
  have H4 := H3.forget (a := 147) (t := 1) (n := 361) (by rw [hB _ n4.2.2]; exact h2)
  refine w_p h_m163 2 (pc' := 26) (L' := [(0, .ref 143), (2, .ref b2), (3, .int (0 : Int32))]) (st' := []) rfl ?_
  refine w_bk2 (a := b2) (b := 147) (ga _ _ _ _ _ n4.2.1 (ga _ _ _ _ _ n4.1 (ga _ _ _ _ _ n4.1 hs2))) (by rw [w_row_cons, if_neg n2.symm, hB _ n3.symm, hrb]; exact congrArg some hrb2) (by rw [w_row_cons, if_pos rfl]) n2 361 0 0 _ rfl (by omega) (by omega) H4 rfl (fun j hj => by omega) (fun i m H5 hfa hb => ?_)
  have H6 := H5.learn (a := b2) (b := 147) (n := 361) (by rw [w_row_cons, if_neg n2.symm, hB _ n3.symm, hrb]) (by rw [w_row_cons, if_pos rfl]; exact congrArg (fun z => some (z, 361)) (Prod.mk.inj hrb2).1.symm) (Prod.mk.inj hrb2).2 (fun j hj => by rw [hb j hj, hfa])
  exact w_rv h_m163 (z_at.mk 1 rfl rfl) rfl (kk _ H6)
end ZCL
