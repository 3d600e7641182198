/-! THE REGIONS alike: a HOT that is none is the void box, hits stay small, numbers are none below 0 -/
def gk (r : Rg) : Prop := (r.2.1 = vdB ∨ 0 ≤ r.2.1.1) ∧ (0 ≤ r.2.2.2.1 ∧ r.2.2.2.1 ≤ 9999) ∧ 0 ≤ r.2.2.1
def gL (L : List Rg) : Prop := ∀ r ∈ L, gk r
theorem gL.nil : gL [] := fun r h => absurd h List.not_mem_nil
theorem gL.del {L : List Rg} {i : Nat} (h : gL L) : gL (L.eraseIdx i) := fun r k => h r (List.mem_of_mem_eraseIdx k)
theorem gL.set {L : List Rg} {i : Nat} {x : Rg} (h : gL L) (hx : gk x) : gL (L.set i x) := fun r k => by
  rcases List.mem_or_eq_of_mem_set k with k | rfl
  · exact h r k
  · exact hx
theorem gL.app {L : List Rg} {x : Rg} (h : gL L) (hx : gk x) : gL (L ++ [x]) := fun r k => by
  rcases List.mem_append.mp k with k | k
  · exact h r k
  · rw [List.mem_singleton.mp k]
    exact hx
theorem gk_0 : gk (vdB, vdB, 0, 0, 0) := ⟨Or.inl rfl, by decide, by decide⟩
theorem vd1 : vdB.1 < 0 := by decide
theorem zmn_h {x : Int} (h : 0 ≤ x ∧ x < 100000) : 0 ≤ zmn 9999 (w32 x) ∧ zmn 9999 (w32 x) ≤ 9999 := by
  rw [w32_id (by omega) (by omega)]
  unfold zmn
  split <;> omega
theorem bAro_1 {a b : Bx} (h : 0 ≤ b.1) : 0 ≤ (bAro a b).1 := by
  by_cases c : 0 ≤ a.1
  · rw [bAro_pos c]
    have := @zmn_le a.1 b.1
    show 0 ≤ zmn a.1 b.1
    omega
  · rw [bAro_neg c]
    exact h
theorem gk_hit {rn : Bx → Int} {st : Int → Int} {lev : Int} {q : Bx} {r : Rg} (hq : 0 ≤ q.1) (h : gk r) : gk (hit1 rn st lev q r) := by
  unfold hit1
  by_cases c : bMt r.1 q
  · rw [if_pos c]
    refine ⟨Or.inr (bAro_1 ?_), zmn_h (x := r.2.2.2.1 + 1) ⟨by have := h.2.1.1; omega, by have := h.2.1.2; omega⟩, h.2.2⟩
    have := @zmx_le r.1.1 q.1
    show 0 ≤ zmx r.1.1 q.1
    omega
  · rw [if_neg c]
    exact h
theorem gk_join {r s : Rg} (h1 : gk r) (h2 : gk s) : gk (mJoin r s) := by
  refine ⟨?_, zmn_h (x := r.2.2.2.1 + s.2.2.2.1) ⟨by have := h1.2.1.1; have := h2.2.1.1; omega, by have := h1.2.1.2; have := h2.2.1.2; omega⟩, h1.2.2⟩
  show (if s.2.1.1 < 0 then r.2.1 else bAro r.2.1 s.2.1) = vdB ∨ 0 ≤ (if s.2.1.1 < 0 then r.2.1 else bAro r.2.1 s.2.1).1
  by_cases c : s.2.1.1 < 0
  · rw [if_pos c]
    exact h1.1
  · rw [if_neg c]
    exact Or.inr (bAro_1 (by omega))
theorem gk_new {rn : Bx → Int} {st : Int → Int} {ct : Int → Int} {b : Bx} (h : 0 ≤ ct 8) : gk (newR rn st ct b) := ⟨Or.inl rfl, ⟨Int.le_refl 0, by show (0 : Int) ≤ 9999; decide⟩, h⟩
theorem gk_sh {rn : Bx → Int} {st : Int → Int} {lev : Int} {r : Rg} (h : gk r) : gk (shR rn st lev r) := by
  have a := h.2.1.1
  have b := h.2.1.2
  have e : w32 (Int.tdiv r.2.2.2.1 2) = r.2.2.2.1 / 2 := by
    rw [Int.tdiv_eq_ediv_of_nonneg a, w32_id (by omega) (by omega)]
  refine ⟨Or.inl rfl, ⟨?_, ?_⟩, h.2.2⟩
  · show 0 ≤ w32 (Int.tdiv r.2.2.2.1 2)
    rw [e]
    omega
  · show w32 (Int.tdiv r.2.2.2.1 2) ≤ 9999
    rw [e]
    omega
theorem gL_D {L : List Rg} {i : Nat} (h : gL L) : gk (rgD L i) := by
  by_cases c : i < L.length
  · rw [rgD_eq c]
    exact h _ (List.getElem_mem c)
  · unfold rgD
    rw [List.getElem?_eq_none (by omega)]
    exact gk_0
theorem gL_jnR {L : List Rg} {i j : Nat} (h : gL L) : gk (jnR L i j) := by
  by_cases c : i < L.length ∧ j < L.length
  · rw [jnR_eq c.1 c.2]
    exact gk_join (h _ (List.getElem_mem c.1)) (h _ (List.getElem_mem c.2))
  · unfold jnR
    by_cases d : i < L.length
    · rw [List.getElem?_eq_none (l := L) (i := j) (by omega), List.getElem?_eq_getElem d]
      exact gk_0
    · rw [List.getElem?_eq_none (l := L) (i := i) (by omega)]
      exact gk_0
theorem gL_MGn : ∀ (m : Nat) {L L' : List Rg}, MGn m L L' → gL L → gL L'
  | 0, _, _, h, g => by
    rw [h.2]
    exact g
  | m + 1, L, L', h, g => by
    obtain ⟨i, j, -, h⟩ := h
    exact gL_MGn m h ((g.set (gL_jnR g)).del)
theorem upC_8 {ct : Int → Int} {i v : Int} (h : i ≠ 8) : upC ct i v 8 = ct 8 := if_neg (fun e => h e.symm)
theorem upC_e {ct : Int → Int} {i v : Int} : upC ct i v i = v := if_pos rfl
theorem lv_8 {ct : Int → Int} {w : Int} : lvP ct w 8 = ct 8 := upC_8 (by decide)
theorem ask_8 {rn : Bx → Int} {st : Int → Int} {ct : Int → Int} {b : Bx} : askP rn st ct b 8 = ct 8 := (upC_8 (by decide)).trans (upC_8 (by decide))
theorem gL_gv {rn : Bx → Int} {st : Int → Int} {X : List Rg × (Int → Int)} {l : Nat} (g : gL X.1) : gL (gvP rn st X l).1 ∧ (gvP rn st X l).2 8 = X.2 8 := by
  unfold gvP
  by_cases c : canS st (rgD X.1 l)
  · rw [if_pos c]
    refine ⟨g.set (gk_sh (gL_D g)), ?_⟩
    show upC (lvP X.2 (rgD X.1 l).2.2.2.2) 13 (w32 (X.2 13 + 1)) 8 = X.2 8
    rw [upC_8 (by decide), lv_8]
  · rw [if_neg c]
    refine ⟨g.del, ?_⟩
    show upC (lvP X.2 (rgD X.1 l).2.2.2.2) 12 (w32 (X.2 12 + 1)) 8 = X.2 8
    rw [upC_8 (by decide), lv_8]
theorem gL_TMn {rn : Bx → Int} {st : Int → Int} : ∀ (m : Nat) {X Y : List Rg × (Int → Int)}, TMn rn st m X Y → gL X.1 → gL Y.1 ∧ Y.2 8 = X.2 8 ∧ (Y.1.length : Int) ≤ st 2
  | 0, _, _, h, g => by
    obtain ⟨h1, rfl⟩ := h
    exact ⟨g, rfl, by unfold tooM at h1; omega⟩
  | m + 1, X, Y, h, g => by
    obtain ⟨-, l, -, h⟩ := h
    obtain ⟨a, b⟩ := gL_gv (rn := rn) (st := st) (l := l) g
    obtain ⟨c, d, e⟩ := gL_TMn m h a
    exact ⟨c, d.trans b, e⟩
theorem gL_pc {rn : Bx → Int} {st : Int → Int} : ∀ (l : List Bx) {X : List Rg × (Int → Int)}, gL X.1 → 0 ≤ X.2 8 → X.2 8 + (l.length : Int) < 2147483648 → gL (l.foldl (pcP rn st) X).1 ∧ X.2 8 ≤ (l.foldl (pcP rn st) X).2 8 ∧ (l.foldl (pcP rn st) X).2 8 ≤ X.2 8 + (l.length : Int)
  | [], X, g, h0, _ => ⟨g, Int.le_refl _, by show X.2 8 ≤ X.2 8 + 0; omega⟩
  | p :: l, X, g, h0, hl => by
    rw [List.length_cons] at hl ⊢
    have key : gL (pcP rn st X p).1 ∧ X.2 8 ≤ (pcP rn st X p).2 8 ∧ (pcP rn st X p).2 8 ≤ X.2 8 + 1 := by
      unfold pcP
      by_cases c : st 6 < bArea p
      · rw [if_pos c]
        refine ⟨g, ?_⟩
        show X.2 8 ≤ askP rn st X.2 p 8 ∧ askP rn st X.2 p 8 ≤ X.2 8 + 1
        rw [ask_8]
        omega
      · rw [if_neg c]
        refine ⟨g.app (gk_new (by rw [ask_8]; exact h0)), ?_⟩
        show X.2 8 ≤ upC (askP rn st X.2 p) 8 (w32 (askP rn st X.2 p 8 + 1)) 8 ∧ upC (askP rn st X.2 p) 8 (w32 (askP rn st X.2 p 8 + 1)) 8 ≤ X.2 8 + 1
        rw [upC_e, ask_8, w32_id (by omega) (by omega)]
        omega
    obtain ⟨k1, k2, k3⟩ := key
    obtain ⟨r1, r2, r3⟩ := gL_pc l (X := pcP rn st X p) k1 (by omega) (by omega)
    exact ⟨r1, Int.le_trans k2 r2, by show _ ≤ _; have r3' : (List.foldl (pcP rn st) (pcP rn st X p) l).2 8 ≤ (pcP rn st X p).2 8 + (l.length : Int) := r3; exact Int.le_trans r3' (by omega)⟩
theorem rest_4 (a b : Bx) : (bRest a b).length ≤ 4 := by
  have h := bRest_len a b
  refine Nat.le_trans h ?_
  split <;> split <;> split <;> omega
theorem miss_4 (r : Bx) : ∀ ps : List Bx, (bMiss ps r).length ≤ 4 * ps.length
  | [] => Nat.le_refl 0
  | p :: ps => by
    have h := miss_4 r ps
    have h4 := rest_4 p r
    have e : bMiss (p :: ps) r = bRest p r ++ bMiss ps r := rfl
    rw [e, List.length_append, List.length_cons]
    omega
theorem missAll_4 : ∀ (rs ps : List Bx), (rs.foldl bMiss ps).length ≤ 4 ^ rs.length * ps.length
  | [], ps => by
    show ps.length ≤ 1 * ps.length
    omega
  | r :: rs, ps => by
    have h := missAll_4 rs (bMiss ps r)
    have h4 := miss_4 r ps
    have e : (r :: rs).foldl bMiss ps = rs.foldl bMiss (bMiss ps r) := rfl
    rw [e, List.length_cons, Nat.pow_succ, Nat.mul_assoc]
    exact Nat.le_trans h (Nat.mul_le_mul_left _ h4)
theorem missAll_24 {q : Bx} {rs : List Bx} (h : rs.length ≤ 12) : (bMissAll q rs).length ≤ 16777216 := by
  have h1 := missAll_4 rs [q]
  have h2 : 4 ^ rs.length ≤ 4 ^ 12 := Nat.pow_le_pow_right (by decide) h
  have h3 : (4 : Nat) ^ 12 = 16777216 := by decide
  have h4 : ([q] : List Bx).length = 1 := rfl
  rw [h4, Nat.mul_one] at h1
  unfold bMissAll
  omega
theorem gL_srv {rn : Bx → Int} {st : Int → Int} {q : Bx} {L L' : List Rg} {ct ct' : Int → Int} (h : srvR rn st q L ct L' ct') (hq : 0 ≤ q.1) (s2 : st 2 ≤ 12) (hL : L.length ≤ 12) (h8 : 0 ≤ ct 8 ∧ ct 8 + 16777216 < 2147483648) (g : gL L) : gL L' ∧ L'.length ≤ 12 ∧ ct 8 ≤ ct' 8 ∧ ct' 8 ≤ ct 8 + 16777216 := by
  obtain ⟨m1, m2, L2, h1, h2⟩ := h
  have hb := missAll_24 (q := q) (rs := L.map (fun r => r.1)) (by rw [List.length_map]; exact hL)
  have g1 : gL (srv1 rn st q L ct).1 ∧ ct 8 ≤ (srv1 rn st q L ct).2 8 ∧ (srv1 rn st q L ct).2 8 ≤ ct 8 + ((bMissAll q (L.map (fun r => r.1))).length : Int) := by
    refine gL_pc (rn := rn) (st := st) (bMissAll q (L.map (fun r => r.1))) (X := (L.map (hit1 rn st (ct 9) q), ct)) (fun r k => ?_) h8.1 (by show ct 8 + _ < _; omega)
    obtain ⟨r0, k0, rfl⟩ := List.mem_map.mp k
    exact gk_hit hq (g r0 k0)
  have g2 : gL L2 := by
    by_cases c : st 4 = 0
    · rw [if_pos c] at h1
      rw [h1.2]
      exact g1.1
    · rw [if_neg c] at h1
      exact gL_MGn m1 h1 g1.1
  obtain ⟨a, b, c⟩ := gL_TMn m2 h2 g2
  have b : ct' 8 = upC (srv1 rn st q L ct).2 14 (bmp m1 ((srv1 rn st q L ct).2 14)) 8 := b
  rw [upC_8 (by decide)] at b
  have c : (L'.length : Int) ≤ st 2 := c
  exact ⟨a, by omega, by omega, by omega⟩
theorem gk_cut {r : Rg} {c : Bx} {n : Int} (h : gk r) (hn : 0 ≤ n) : gk (c, cutH r.2.1 c, n, r.2.2.2.1, r.2.2.2.2) := by
  refine ⟨?_, h.2.1, hn⟩
  show cutH r.2.1 c = vdB ∨ 0 ≤ (cutH r.2.1 c).1
  unfold cutH
  by_cases d : 0 ≤ r.2.1.1 ∧ bMt r.2.1 c
  · rw [if_pos d]
    refine Or.inr ?_
    have := @zmx_le r.2.1.1 c.1
    show 0 ≤ zmx r.2.1.1 c.1
    omega
  · rw [if_neg d]
    exact Or.inl rfl
theorem gL_cut {r : Rg} (h : gk r) : ∀ (l : List Bx) {X : List Rg × (Int → Int)}, gL X.1 → 0 ≤ X.2 8 → X.2 8 + (l.length : Int) < 2147483648 → gL (l.foldl (cutF r) X).1 ∧ X.2 8 ≤ (l.foldl (cutF r) X).2 8 ∧ (l.foldl (cutF r) X).2 8 ≤ X.2 8 + (l.length : Int)
  | [], X, g, _, _ => ⟨g, Int.le_refl _, by show X.2 8 ≤ X.2 8 + 0; omega⟩
  | p :: l, X, g, h0, hl => by
    rw [List.length_cons] at hl ⊢
    have e : (cutF r X p).2 8 = X.2 8 + 1 := by
      show upC X.2 8 (w32 (X.2 8 + 1)) 8 = _
      rw [upC_e, w32_id (by omega) (by omega)]
    obtain ⟨r1, r2, r3⟩ := gL_cut h l (X := cutF r X p) (g.app (gk_cut h h0)) (by omega) (by omega)
    rw [e] at r2 r3
    exact ⟨r1, Int.le_trans (by omega) r2, Int.le_trans r3 (by omega)⟩
theorem gL_wr {st : Int → Int} {L : List Rg} {ct : Int → Int} {p : Bx} {X : List Rg × (Int → Int)} (h : wrR st L ct p X) (h8 : 0 ≤ ct 8 ∧ ct 8 ≤ 2100000000) (g : gL L) : gL X.1 ∧ ct 8 ≤ X.2 8 ∧ X.2 8 ≤ ct 8 + 4 := by
  rcases h with ⟨-, rfl⟩ | ⟨i, -, rfl⟩
  · exact ⟨g, Int.le_refl _, by show ct 8 ≤ ct 8 + 4; omega⟩
  · unfold wrI
    have e : upC ct 15 (w32 (ct 15 + 1)) 8 = ct 8 := upC_8 (by decide)
    by_cases c : st 3 = 0
    · rw [if_pos c]
      refine ⟨g, ?_⟩
      show ct 8 ≤ upC ct 15 (w32 (ct 15 + 1)) 8 ∧ upC ct 15 (w32 (ct 15 + 1)) 8 ≤ ct 8 + 4
      rw [e]
      omega
    · rw [if_neg c]
      by_cases d : st 3 = 1
      · rw [if_pos d]
        refine ⟨g.del, ?_⟩
        show ct 8 ≤ upC ct 15 (w32 (ct 15 + 1)) 8 ∧ upC ct 15 (w32 (ct 15 + 1)) 8 ≤ ct 8 + 4
        rw [e]
        omega
      · rw [if_neg d]
        have h4 := rest_4 (rgD L i).1 p
        obtain ⟨a, b, c⟩ := gL_cut (gL_D g (i := i)) (bRest (rgD L i).1 p) (X := (L.eraseIdx i, upC ct 15 (w32 (ct 15 + 1)))) g.del (by show 0 ≤ upC ct 15 (w32 (ct 15 + 1)) 8; rw [e]; exact h8.1) (by show upC ct 15 (w32 (ct 15 + 1)) 8 + _ < _; rw [e]; omega)
        have b : upC ct 15 (w32 (ct 15 + 1)) 8 ≤ _ := b
        have c : _ ≤ upC ct 15 (w32 (ct 15 + 1)) 8 + _ := c
        rw [e] at b c
        exact ⟨a, b, Int.le_trans c (by omega)⟩
