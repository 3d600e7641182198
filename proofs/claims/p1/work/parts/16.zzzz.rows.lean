/-! THE REFERENCE'S rowsIn where no row is in, as a rule (by wip/px_rows.py) -/
section ZRI
variable {xl : Nat} {xs : Nat → Int32} {N S : Nat} {T : wT} {d : Nat}
theorem w_av_of {c : Int} (h0 : 20 ≤ c) (h1 : c < 200) : ∀ {ov : List (Nat × Value)}, ov.all (fun p => decide (p.1 < 20) || decide (200 ≤ p.1)) = true → w_av c ov
  | [], _ => trivial
  | p :: l, h => by
    rw [List.all_cons, Bool.and_eq_true] at h
    refine ⟨?_, w_av_of h0 h1 h.2⟩
    have h2 := h.1
    simp at h2
    omega
theorem w_rin {a : Nat} {i0 : Int32} {ov : List (Nat × Value)} (hs : w_g T 22 143 0 = some (.ref 144)) (hrow : w_row T 144 = some (0, 2740, ov, some (.int 0))) (hk : ov.all (fun p => decide (p.1 < 20) || decide (200 ≤ p.1)) = true) {Q : Option Value → zM → Prop} (hQ : ∀ m, w_ok xl xs N S T m → Q (some (.int 0)) m) : ∀ (f : Nat) (r : Int32) (c : Int) (m : zM), r.toInt = c → 0 ≤ c → c + f = 60 → w_ok xl xs N S T m → z_W (d + 1) 175 5 [(0, .ref 143), (1, .ref a), (2, .int i0), (3, .int (0 : Int32)), (4, .int r)] [] m Q
  | 0, r, c, m, hc, h0, hn, H => by
    refine w_p h_m175 2 (pc' := 9) (L' := [(0, .ref 143), (1, .ref a), (2, .int i0), (3, .int (0 : Int32)), (4, .int r)]) (st' := [.int (60 : Int32), .int r]) rfl ?_
    refine w_t2 (pc' := 72) (L' := [(0, .ref 143), (1, .ref a), (2, .int i0), (3, .int (0 : Int32)), (4, .int r)]) h_m175 (z_at.mk 3 rfl rfl) rfl (zc (a := c) (b := 60) hc rfl (decide_eq_true (by omega))) rfl rfl ?_
    refine w_p h_m175 1 (pc' := 73) (L' := [(0, .ref 143), (1, .ref a), (2, .int i0), (3, .int (0 : Int32)), (4, .int r)]) (st' := [.int (0 : Int32)]) rfl ?_
    exact w_ri h_m175 (z_at.mk 1 rfl rfl) rfl rfl (hQ m H)
  | f + 1, r, c, m, hc, h0, hn, H => by
    refine w_p h_m175 2 (pc' := 9) (L' := [(0, .ref 143), (1, .ref a), (2, .int i0), (3, .int (0 : Int32)), (4, .int r)]) (st' := [.int (60 : Int32), .int r]) rfl ?_
    refine w_f2 (pc' := 12) (L' := [(0, .ref 143), (1, .ref a), (2, .int i0), (3, .int (0 : Int32)), (4, .int r)]) h_m175 (z_at.mk 3 rfl rfl) rfl (zc (a := c) (b := 60) hc rfl (decide_eq_false (by omega))) rfl rfl ?_
    refine w_p h_m175 2 (pc' := 14) (L' := [(0, .ref 143), (1, .ref a), (2, .int i0), (3, .int (0 : Int32)), (4, .int r)]) (st' := [.ref 143, .int (0 : Int32)]) rfl ?_
    refine w_gf H (pc' := 17) (L' := [(0, .ref 143), (1, .ref a), (2, .int i0), (3, .int (0 : Int32)), (4, .int r)]) h_m175 (z_at.mk 3 rfl rfl) rfl hs rfl rfl ?_
    refine w_p h_m175 1 (pc' := 19) (L' := [(0, .ref 143), (1, .ref a), (2, .int i0), (3, .int (0 : Int32)), (4, .int r)]) (st' := [.int r, .ref 144, .int (0 : Int32)]) rfl ?_
    refine w_cs (As := [.int r]) (rest := [.ref 144, .int (0 : Int32)]) (j := 174) (L0 := [(0, .int r)]) (pc' := 22) (L' := [(0, .ref 143), (1, .ref a), (2, .int i0), (3, .int (0 : Int32)), (4, .int r)]) h_m175 (z_at.mk 3 rfl rfl) (Or.inl ⟨rfl, rfl⟩) rfl rfl rfl rfl rfl ?_
    refine w_p h_m174 5 (pc' := 6) (L' := [(0, .int r)]) (st' := [.int ((20 : Int32) + ((3 : Int32) * r))]) rfl ?_
    refine w_ri h_m174 (z_at.mk 1 rfl rfl) rfl rfl ?_
    show z_W (d + 1) 175 22 [(0, .ref 143), (1, .ref a), (2, .int i0), (3, .int (0 : Int32)), (4, .int r)] [.int ((20 : Int32) + ((3 : Int32) * r)), .ref 144, .int (0 : Int32)] m _
    have k1 : ((3 : Int32) * r).toInt = 3 * c := zi_mul (a := 3) (b := c) (c := 3 * c) rfl hc (by omega) (by omega) rfl
    refine w_alx H (t := 0) (n := 2740) (ov := ov) (c := 20 + 3 * c) (u := .int 0) (pc' := 23) (L' := [(0, .ref 143), (1, .ref a), (2, .int i0), (3, .int (0 : Int32)), (4, .int r)]) h_m175 (z_at.mk 1 rfl rfl) rfl rfl (zi_add (a := 20) (b := 3 * c) (c := 20 + 3 * c) rfl k1 (by omega) (by omega) rfl) (by omega) (by omega) hrow (w_av_of (by omega) (by omega) hk) rfl rfl ?_
    refine w_p h_m175 2 (pc' := 63) (L' := [(0, .ref 143), (1, .ref a), (2, .int i0), (4, .int r)]) (st' := [.int (0 : Int32)]) rfl ?_
    refine w_p h_m175 5 (pc' := 5) (L' := [(0, .ref 143), (1, .ref a), (2, .int i0), (3, .int (0 : Int32)), (4, .int (r + (1 : Int32)))]) (st' := []) rfl ?_
    exact w_rin hs hrow hk hQ f (r + (1 : Int32)) (c + 1) m (zi_add (a := c) (b := 1) (c := c + 1) hc rfl (by omega) (by omega) rfl) (by omega) (by omega) H
theorem w_ri0 {a : Nat} {i0 : Int32} {ov : List (Nat × Value)} {m : zM} (H : w_ok xl xs N S T m) (hs : w_g T 22 143 0 = some (.ref 144)) (hrow : w_row T 144 = some (0, 2740, ov, some (.int 0))) (hk : ov.all (fun p => decide (p.1 < 20) || decide (200 ≤ p.1)) = true) {Q : Option Value → zM → Prop} (hQ : ∀ m, w_ok xl xs N S T m → Q (some (.int 0)) m) : z_W (d + 1) 175 0 [(0, .ref 143), (1, .ref a), (2, .int i0)] [] m Q := by
  refine w_p h_m175 4 (pc' := 5) (L' := [(0, .ref 143), (1, .ref a), (2, .int i0), (3, .int (0 : Int32)), (4, .int (0 : Int32))]) (st' := []) rfl ?_
  exact w_rin hs hrow hk hQ 60 0 0 m rfl (by omega) (by omega) H
end ZRI
