/-! THE REGIONS alike: put, take of the reference, and both together -/
theorem t_behindR {σ : zS} {rn : Bx → Int} {st : Int → Int} {L : List Rg} {ct : Int → Int} (so : stO1 st) (hH : HI σ) (hR : RI σ L.length) (h : mSt σ rn st L ct) (hN2 : L.length ≤ 100) (hk : ∀ r ∈ L, hOk r) (ha : asc L (ct 8)) : zP' (g_m_behind σ) (fun v s => ∃ m L' ct', TMn rn st m (L, ct) (L', ct') ∧ asc L' (ct' 8) ∧ ct' 8 = ct 8 ∧ v = (L'.length : Int) ∧ mSt s rn st L' ct') := by
  obtain ⟨h12, h13, h8, h9, h10, -, -⟩ := hH
  obtain ⟨s1, N', e1, e2, e3, e4, e5, e6⟩ := s_trims hR h.1.1 (by omega) h13.1 h12.1
  obtain ⟨m, L', ct', p1, p2, p3, p4, p5, p6⟩ := t_trims (by have := so.1; omega) (by have := so.2.1; omega) so.2.2.2.2 h (by omega) hk ha _ s1 e1
  obtain ⟨W, hW⟩ : ∃ W : Nat, σ 144 10 = (W : Int) := ⟨(σ 144 10).toNat, by omega⟩
  obtain ⟨v, s2, f1, f2, f3⟩ := s_behind6 hW (by omega) W 0 zK s1 (by omega) (by show _ < 1000000; omega) ((e5 144 10 (by omega) (Or.inl (by decide))).trans hW)
  have o : ∀ j : Int, (j < 300 ∨ 340 ≤ j) → s2 144 j = s1 144 j := fun j k => f3 144 j (by omega) (Or.inl (by decide)) (by decide) (by decide)
  have o7 : ∀ j : Int, s2 147 j = s1 147 j := fun j => f3 147 j (Or.inl (by decide)) (Or.inl (by decide)) (by decide) (by decide)
  have ee : g_m_behind σ = some (v, s2) := by
    unfold g_m_behind
    rw [e1]
    exact f1
  rw [ee]
  refine zP'.ret ⟨m, L', ct', p1, p4, p5, f2.trans p6.1.1, p6.1.mv (fun j k => o j (by omega)) (fun j _ _ => o7 j) (by omega), p6.2.1.mv (fun j _ _ => o j (by omega)) (o7 0), p6.2.2.mv (fun j _ _ => o j (by omega))⟩
theorem t_put72R {σ : zS} {r x y v : Int} {rn : Bx → Int} {st : Int → Int} {L : List Rg} {ct : Int → Int} (so : stO1 st) (hH : HI σ) (hR : RI σ L.length) (h : mSt σ rn st L ct) (hN2 : L.length ≤ 50) (hk : ∀ r ∈ L, hOk r) (ha : asc L (ct 8)) (h8 : 0 ≤ ct 8 ∧ ct 8 + 4 < 2147483648) (hr : 0 ≤ r ∧ r < 60) (hx : 0 ≤ x ∧ x ≤ 31) (hy : 0 ≤ y ∧ y ≤ 31) : zP' (g_m_put_L72 r x y v σ) (fun c s => ∃ Y m L' ct', wrR st L ct (x, x, y, y) Y ∧ TMn (rowsN s) st m Y (L', ct') ∧ asc L' (ct' 8) ∧ (ct 8 ≤ ct' 8 ∧ ct' 8 ≤ ct 8 + 4) ∧ c = (L'.length : Int) ∧ mSt s (rowsN s) st L' ct') := by
  obtain ⟨k, rfl⟩ : ∃ k : Nat, r = (k : Int) := ⟨r.toNat, by omega⟩
  have okp : bOk (x, x, y, y) := ⟨hx.1, Int.le_refl _, hx.2, hy.1, Int.le_refl _, hy.2⟩
  generalize hs1 : zu (zu (zu (zu σ 144 (20 + 3 * (k : Int)) 1) 144 (21 + 3 * (k : Int)) x) 144 (22 + 3 * (k : Int)) y) 147 (1 + (k : Int)) v = s1
  have f1 : ∀ a j, (a ≠ 144 ∨ j < 20 + 3 * (k : Int) ∨ 23 + 3 * (k : Int) ≤ j) → (a ≠ 147 ∨ j ≠ 1 + (k : Int)) → s1 a j = σ a j := fun a j h1 h2 => by
    rw [← hs1, zu_c h2, zu_c (by omega), zu_c (by omega), zu_c (by omega)]
  have rows1 : ∀ t : Nat, t < 60 → (0 ≤ s1 144 (21 + 3 * (t : Int)) ∧ s1 144 (21 + 3 * (t : Int)) ≤ 31) ∧ (0 ≤ s1 144 (22 + 3 * (t : Int)) ∧ s1 144 (22 + 3 * (t : Int)) ≤ 31) := fun t ht => by
    by_cases c : t = k
    · subst c
      have e1 : s1 144 (21 + 3 * (t : Int)) = x := by rw [← hs1, zu_a (by decide), zu_i (by omega), zu_e rfl]
      have e2 : s1 144 (22 + 3 * (t : Int)) = y := by rw [← hs1, zu_a (by decide), zu_e rfl]
      rw [e1, e2]
      exact ⟨hx, hy⟩
    · rw [f1 144 _ (by omega) (Or.inl (by decide)), f1 144 _ (by omega) (Or.inl (by decide))]
      exact hH.2.2.2.2.2.2 t ht
  have hH1 : HI s1 := HI_P hH (fun j hj => f1 144 j (by omega) (Or.inl (by decide))) rows1
  have M1 : mSt s1 (rowsN s1) st L ct := ⟨h.1.mv (fun j _ => f1 144 j (by omega) (Or.inl (by decide))) (fun j _ _ => f1 147 j (Or.inl (by decide)) (by omega)) (by omega), h.2.1.mv (fun j _ _ => f1 144 j (by omega) (Or.inl (by decide))) (f1 147 0 (Or.inl (by decide)) (by omega)), fun i i1 i2 => (f1 144 _ (by omega) (Or.inl (by decide))).trans (h.2.2.1 i i1 i2), fun b => rfl⟩
  have hR1 : RI s1 L.length := RI_of hR (fun t ht => by
    rw [M1.1.2 t ht, h.1.2 t ht]
    exact ⟨rfl, rfl⟩)
  obtain ⟨s2, N2, g1, g2, g3, g4, g5⟩ := s_writes hR1 M1.1.1 (by omega) hx hy
  obtain ⟨Y, y1, M2⟩ := t_writes M1 hk (by omega) hx hy so.2.2.1 _ s2 g1
  obtain ⟨a1, a2, a3, a4, a5⟩ := wr_all okp hk ha h8 y1
  have hH2 : HI s2 := HI_fr8 hH1 (fun j h1 h2 => g5 144 j (Or.inr ⟨h1, h2⟩) (Or.inl (by decide)) (by decide) (by decide) (by decide))
  have eN : N2 = Y.1.length := by
    have := M2.1.1
    omega
  subst eN
  unfold g_m_put_L72
  rw [s_rowAt (by omega) (by omega)]
  rw [Option.bind_some]
  try dsimp only
  rw [if_pos (by omega), s_rowAt (by omega) (by omega)]
  rw [Option.bind_some]
  try dsimp only
  rw [w32_id (x := 20 + 3 * (k : Int) + 1) (by omega) (by omega), if_pos (by omega), s_rowAt (by omega) (by omega)]
  rw [Option.bind_some]
  try dsimp only
  rw [w32_id (x := 20 + 3 * (k : Int) + 2) (by omega) (by omega), if_pos (by omega), w32_id (x := 1 + (k : Int)) (by omega) (by omega), if_pos (by omega), show 20 + 3 * (k : Int) + 1 = 21 + 3 * (k : Int) by omega, show 20 + 3 * (k : Int) + 2 = 22 + 3 * (k : Int) by omega, hs1, g1]
  rw [Option.bind_some]
  try dsimp only
  refine zP'.bind (t_behindR so hH2 g2 M2 (by omega) a2 a1) (fun c s p => ?_)
  obtain ⟨m, L', ct', p1, p2, p3, p4, p5⟩ := p
  have er : rowsN s1 = rowsN s := funext (fun b => (p5.2.2.2 b).symm)
  rw [er] at p1 p5
  exact zP'.ret ⟨Y, m, L', ct', y1, p1, p2, by omega, p4, p5⟩
/-- the place where the reference's row was -/
def oldR (σ : zS) (r : Int) : Option Bx := if σ 144 (20 + 3 * r) = 1 then some (σ 144 (21 + 3 * r), σ 144 (21 + 3 * r), σ 144 (22 + 3 * r), σ 144 (22 + 3 * r)) else none
theorem t_outR {σ : zS} {r : Int} {rn : Bx → Int} {st : Int → Int} {L : List Rg} {ct : Int → Int} (so : stO1 st) (hH : HI σ) (h : mSt σ rn st L ct) (hN2 : L.length ≤ 12) (hk : ∀ r ∈ L, hOk r) (hr : 0 ≤ r ∧ r < 60) : zP' (g_m_out r σ) (fun _ s => ∃ X, wrR st L ct (σ 144 (21 + 3 * r), σ 144 (21 + 3 * r), σ 144 (22 + 3 * r), σ 144 (22 + 3 * r)) X ∧ mSt s (rowsN s) st X.1 X.2) := by
  obtain ⟨k, rfl⟩ : ∃ k : Nat, r = (k : Int) := ⟨r.toNat, by omega⟩
  obtain ⟨hx, hy⟩ := hH.2.2.2.2.2.2 k (by omega)
  generalize hs1 : zu σ 144 (20 + 3 * (k : Int)) 0 = s1
  have e21 : s1 144 (21 + 3 * (k : Int)) = σ 144 (21 + 3 * (k : Int)) := by rw [← hs1]; exact zu_i (by omega)
  have e22 : s1 144 (22 + 3 * (k : Int)) = σ 144 (22 + 3 * (k : Int)) := by rw [← hs1]; exact zu_i (by omega)
  have f1 : ∀ a j, (a ≠ 144 ∨ j ≠ 20 + 3 * (k : Int)) → s1 a j = σ a j := fun a j q => by rw [← hs1, zu_c q]
  have M1 : mSt s1 (rowsN s1) st L ct := ⟨h.1.mv (fun j _ => f1 144 j (by omega)) (fun j _ _ => f1 147 j (Or.inl (by decide))) (by omega), h.2.1.mv (fun j _ _ => f1 144 j (by omega)) (f1 147 0 (Or.inl (by decide))), fun i i1 i2 => (f1 144 _ (by omega)).trans (h.2.2.1 i i1 i2), fun b => rfl⟩
  unfold g_m_out
  rw [s_rowAt (by omega) (by omega)]
  rw [Option.bind_some]
  try dsimp only
  rw [if_pos (by omega), s_rowAt (by omega) (by omega)]
  rw [Option.bind_some]
  try dsimp only
  rw [w32_id (x := 20 + 3 * (k : Int) + 1) (by omega) (by omega), if_pos (by omega), s_rowAt (by omega) (by omega)]
  rw [Option.bind_some]
  try dsimp only
  rw [w32_id (x := 20 + 3 * (k : Int) + 2) (by omega) (by omega), if_pos (by omega), hs1, show 20 + 3 * (k : Int) + 1 = 21 + 3 * (k : Int) by omega, show 20 + 3 * (k : Int) + 2 = 22 + 3 * (k : Int) by omega, e21, e22]
  refine zP'.bind (t_writes M1 hk (by omega) hx hy so.2.2.1) (fun _ s p => ?_)
  obtain ⟨X, x1, x2⟩ := p
  have er : rowsN s1 = rowsN s := funext (fun b => (x2.2.2.2 b).symm)
  rw [er] at x2
  exact zP'.ret ⟨X, x1, x2⟩
theorem t_putR {σ : zS} {r x y v : Int} {rn : Bx → Int} {st : Int → Int} {L : List Rg} {ct : Int → Int} (so : stO1 st) (hH : HI σ) (hR : RI σ L.length) (h : mSt σ rn st L ct) (hN2 : L.length ≤ 12) (hk : ∀ r ∈ L, hOk r) (ha : asc L (ct 8)) (h8 : 0 ≤ ct 8 ∧ ct 8 + 8 < 2147483648) : zP' (g_m_put r x y v σ) (fun c s => (acc r x y v → ∃ L' ct', PUr (rowsN s) st L ct (oldR σ r) (some (x, x, y, y)) L' ct' ∧ asc L' (ct' 8) ∧ (ct 8 ≤ ct' 8 ∧ ct' 8 ≤ ct 8 + 8) ∧ c = (L'.length : Int) ∧ mSt s (rowsN s) st L' ct') ∧ (¬ acc r x y v → s = σ ∧ c = if 0 ≤ r ∧ r < 60 then -2 else -1)) := by
  have no : (0 ≤ r ∧ r < 60) → ¬ acc r x y v → zP' (some (((-2) : Int), σ)) (fun c s => (acc r x y v → ∃ L' ct', PUr (rowsN s) st L ct (oldR σ r) (some (x, x, y, y)) L' ct' ∧ asc L' (ct' 8) ∧ (ct 8 ≤ ct' 8 ∧ ct' 8 ≤ ct 8 + 8) ∧ c = (L'.length : Int) ∧ mSt s (rowsN s) st L' ct') ∧ (¬ acc r x y v → s = σ ∧ c = if 0 ≤ r ∧ r < 60 then -2 else -1)) := fun c1 hn => zP'.ret ⟨fun k => absurd k hn, fun _ => ⟨rfl, by rw [if_pos c1]⟩⟩
  unfold g_m_put
  rw [s_isRow]
  rw [Option.bind_some]
  try dsimp only
  by_cases c1 : 0 ≤ r ∧ r < 60
  · rw [if_pos c1, if_pos (by decide)]
    by_cases c2 : 0 ≤ x ∧ x ≤ 31
    · rw [s_isIn_t c2.1 c2.2]
      rw [Option.bind_some]
      try dsimp only
      rw [if_neg (by decide)]
      by_cases c3 : 0 ≤ y ∧ y ≤ 31
      · rw [s_isIn_t c3.1 c3.2]
        rw [Option.bind_some]
        try dsimp only
        rw [if_neg (by decide)]
        by_cases c4 : lCmp v (-9223372036854775808) = 0
        · rw [if_pos c4]
          exact no c1 (fun h => h.2.2.2.1 (lCmp_eq.mp c4))
        · rw [if_neg c4]
          by_cases c5 : lCmp v (-9223372036854775807) ≠ 0
          · rw [if_pos c5]
            have hacc : acc r x y v := ⟨c1, c2, c3, fun h => c4 (lCmp_eq.mpr h), fun h => c5 (lCmp_eq.mpr h)⟩
            obtain ⟨s1, e1, e2⟩ := s_values (σ := σ) hH.2.2.2.2.1
            rw [e1]
            rw [Option.bind_some]
            try dsimp only
            rw [s_rowAt (by omega) (by omega)]
            rw [Option.bind_some]
            try dsimp only
            rw [if_pos (by omega)]
            have hH1 := HI_V hH e2
            have e144 : ∀ j, s1 144 j = σ 144 j := fun j => e2 144 j (Or.inl (by decide)) (by decide) (by decide) (by decide)
            have e147 : ∀ j, s1 147 j = σ 147 j := fun j => e2 147 j (Or.inl (by decide)) (by decide) (by decide) (by decide)
            have M1 := h.mv (s := s1) (by omega) (fun j _ _ => e144 j) (fun j _ _ => e147 j)
            have R1 := hR.mv (s := s1) (by omega) (fun j _ _ => e144 j)
            by_cases c6 : s1 144 (20 + 3 * r) ≠ 1
            · rw [if_pos c6]
              refine (t_put72R (v := v) so hH1 R1 M1 (by omega) hk ha (by omega) c1 c2 c3).imp (fun c s p => ⟨fun _ => ?_, fun hn => absurd hacc hn⟩)
              obtain ⟨Y, m, L', ct', q1, q2, q3, q4, q5, q6⟩ := p
              refine ⟨L', ct', ⟨(L, ct), Y, m, ?_, q1, q2⟩, q3, by omega, q5, q6⟩
              unfold oldR
              rw [if_neg (fun e => c6 (by rw [e144]; exact e))]
              rfl
            · rw [if_neg c6]
              have c6 : s1 144 (20 + 3 * r) = 1 := Classical.byContradiction c6
              obtain ⟨s2, N2, g1, g2, g3, g4, g5⟩ := s_out hH1 R1 M1.1.1 (by omega) c1
              obtain ⟨X, x1, x2⟩ := t_outR so hH1 M1 hN2 hk c1 _ s2 g1
              rw [g1]
              rw [Option.bind_some]
              try dsimp only
              have z1 : HI (zu s1 144 (20 + 3 * r) 0) := HI_P hH1 (fun j hj => zu_i (by omega)) (fun t ht => by rw [zu_i (by omega), zu_i (by omega)]; exact hH1.2.2.2.2.2.2 t ht)
              have hH2 : HI s2 := HI_fr8 z1 (fun j h1 h2 => g5 144 j (Or.inr ⟨h1, h2⟩) (Or.inl (by decide)) (by decide) (by decide) (by decide))
              have eN : N2 = X.1.length := by
                have := x2.1.1
                omega
              subst eN
              obtain ⟨k, rfl⟩ : ∃ k : Nat, r = (k : Int) := ⟨r.toNat, by omega⟩
              obtain ⟨gx, gy⟩ := hH1.2.2.2.2.2.2 k (by omega)
              obtain ⟨a1, a2, a3, a4, a5⟩ := wr_all ⟨gx.1, Int.le_refl _, gx.2, gy.1, Int.le_refl _, gy.2⟩ hk ha (by omega) x1
              refine (t_put72R (v := v) so hH2 g2 x2 (by omega) a2 a1 (by omega) c1 c2 c3).imp (fun c s p => ⟨fun _ => ?_, fun hn => absurd hacc hn⟩)
              obtain ⟨Y, m, L', ct', q1, q2, q3, q4, q5, q6⟩ := p
              refine ⟨L', ct', ⟨X, Y, m, ?_, q1, q2⟩, q3, by omega, q5, q6⟩
              unfold oldR
              rw [e144] at c6
              rw [if_pos c6]
              rw [e144, e144] at x1
              exact x1
          · rw [if_neg c5]
            exact no c1 (fun h => c5 (fun e => h.2.2.2.2 (lCmp_eq.mp e)))
      · rw [s_isIn_f (by omega)]
        exact no c1 (fun h => c3 h.2.2.1)
    · rw [s_isIn_f (by omega)]
      exact no c1 (fun h => c2 h.2.1)
  · rw [if_neg c1, if_neg (by decide)]
    exact zP'.ret ⟨fun k => absurd k.1 c1, fun _ => ⟨rfl, by rw [if_neg c1]⟩⟩
theorem t_takeR {σ : zS} {r : Int} {rn : Bx → Int} {st : Int → Int} {L : List Rg} {ct : Int → Int} (so : stO1 st) (hH : HI σ) (hR : RI σ L.length) (h : mSt σ rn st L ct) (hN2 : L.length ≤ 12) (hk : ∀ r ∈ L, hOk r) (ha : asc L (ct 8)) (h8 : 0 ≤ ct 8 ∧ ct 8 + 8 < 2147483648) (h01 : (0 ≤ r ∧ r < 60) → (σ 144 (20 + 3 * r) = 0 ∨ σ 144 (20 + 3 * r) = 1)) : zP' (g_m_take r σ) (fun c s => ((0 ≤ r ∧ r < 60) ∧ σ 144 (20 + 3 * r) = 1 → ∃ L' ct', PUr (rowsN s) st L ct (oldR σ r) none L' ct' ∧ asc L' (ct' 8) ∧ (ct 8 ≤ ct' 8 ∧ ct' 8 ≤ ct 8 + 8) ∧ c = (L'.length : Int) ∧ mSt s (rowsN s) st L' ct') ∧ (¬ ((0 ≤ r ∧ r < 60) ∧ σ 144 (20 + 3 * r) = 1) → s = σ ∧ c = if 0 ≤ r ∧ r < 60 then -3 else -1)) := by
  unfold g_m_take
  rw [s_isRow]
  rw [Option.bind_some]
  try dsimp only
  by_cases c1 : 0 ≤ r ∧ r < 60
  · rw [if_pos c1, if_pos (by decide), s_rowAt (by omega) (by omega)]
    rw [Option.bind_some]
    try dsimp +instances only
    rw [if_pos (by omega)]
    by_cases c2 : σ 144 (20 + 3 * r) ≠ 0
    · rw [if_pos c2]
      have c3 : σ 144 (20 + 3 * r) = 1 := (h01 c1).resolve_left c2
      obtain ⟨s1, e1, e2⟩ := s_values (σ := σ) hH.2.2.2.2.1
      rw [e1]
      rw [Option.bind_some]
      try dsimp only
      have hH1 := HI_V hH e2
      have e144 : ∀ j, s1 144 j = σ 144 j := fun j => e2 144 j (Or.inl (by decide)) (by decide) (by decide) (by decide)
      have e147 : ∀ j, s1 147 j = σ 147 j := fun j => e2 147 j (Or.inl (by decide)) (by decide) (by decide) (by decide)
      have M1 := h.mv (s := s1) (by omega) (fun j _ _ => e144 j) (fun j _ _ => e147 j)
      have R1 := hR.mv (s := s1) (by omega) (fun j _ _ => e144 j)
      obtain ⟨s2, N2, g1, g2, g3, g4, g5⟩ := s_out hH1 R1 M1.1.1 (by omega) c1
      obtain ⟨X, x1, x2⟩ := t_outR so hH1 M1 hN2 hk c1 _ s2 g1
      rw [g1]
      rw [Option.bind_some]
      try dsimp only
      have z1 : HI (zu s1 144 (20 + 3 * r) 0) := HI_P hH1 (fun j hj => zu_i (by omega)) (fun t ht => by rw [zu_i (by omega), zu_i (by omega)]; exact hH1.2.2.2.2.2.2 t ht)
      have hH2 : HI s2 := HI_fr8 z1 (fun j h1 h2 => g5 144 j (Or.inr ⟨h1, h2⟩) (Or.inl (by decide)) (by decide) (by decide) (by decide))
      have eN : N2 = X.1.length := by
        have := x2.1.1
        omega
      subst eN
      obtain ⟨k, rfl⟩ : ∃ k : Nat, r = (k : Int) := ⟨r.toNat, by omega⟩
      obtain ⟨gx, gy⟩ := hH1.2.2.2.2.2.2 k (by omega)
      obtain ⟨a1, a2, a3, a4, a5⟩ := wr_all ⟨gx.1, Int.le_refl _, gx.2, gy.1, Int.le_refl _, gy.2⟩ hk ha (by omega) x1
      refine zP'.bind (t_behindR so hH2 g2 x2 (by omega) a2 a1) (fun c s p => ?_)
      obtain ⟨m, L', ct', p1, p2, p3, p4, p5⟩ := p
      have er : rowsN s2 = rowsN s := funext (fun b => (p5.2.2.2 b).symm)
      rw [er] at p1 p5
      refine zP'.ret ⟨fun _ => ⟨L', ct', ⟨X, X, m, ?_, rfl, p1⟩, p2, by omega, p4, p5⟩, fun hn => absurd ⟨c1, c3⟩ hn⟩
      unfold oldR
      rw [if_pos c3]
      rw [e144, e144] at x1
      exact x1
    · rw [if_neg c2]
      exact zP'.ret ⟨fun h => absurd (by rw [h.2]; decide) c2, fun _ => ⟨rfl, by rw [if_pos c1]⟩⟩
  · rw [if_neg c1, if_neg (by decide)]
    exact zP'.ret ⟨fun h => absurd h.1 c1, fun _ => ⟨rfl, by rw [if_neg c1]⟩⟩
theorem old_eq {σ s1 : zS} (R : RW σ 41 144 147) (e : ∀ j, s1 144 j = σ 144 j) {r : Int} (hr : 0 ≤ r ∧ r < 60) : oldP σ (inS σ 144 r.toNat) r.toNat = oldR s1 r := by
  obtain ⟨k, rfl⟩ : ∃ k : Nat, r = (k : Int) := ⟨r.toNat, by omega⟩
  have ek : ((k : Int)).toNat = k := by omega
  rw [ek]
  obtain ⟨-, g2, g3, -⟩ := R.2 k (by omega)
  have g2 : σ 42 (k : Int) = σ 144 (21 + 3 * (k : Int)) := g2
  have g3 : σ 43 (k : Int) = σ 144 (22 + 3 * (k : Int)) := g3
  unfold oldP oldR inS
  rw [e, e, e, g2, g3]
  by_cases c : σ 144 (20 + 3 * (k : Int)) = 1
  · rw [if_pos (decide_eq_true (show k < 60 ∧ _ from ⟨by omega, c⟩)), if_pos c]
  · rw [if_neg (by rw [decide_eq_true_iff]; exact fun h => c h.2), if_neg c]
theorem qr_put {K : Int} {a b c d : Int} {σ : zS} (hK : K ≤ 2000000) (hd : okL d) (I : InvR K σ) : two (g_c_put a b c d σ) (g_m_put a b c d) (fun v w s => InvR (K + 2400) s ∧ v = w) := by
  obtain ⟨v, s1, e1, w, s2, e2, J⟩ := qs_put (a := a) (b := b) (c := c) (d := d) hd I.1
  refine ⟨v, s1, e1, w, s2, e2, ?_⟩
  obtain ⟨L, ct, C, M, hR, hk, A, B, hL⟩ := R_open I
  have so := R_st I
  obtain ⟨H1, G1, -⟩ := zO.at (g_c_put_sp I.1.ci) e1
  have ref := fr_ref G1
  have M1 : MI s1 := MI_cls I.1.mi ref
  have F := frI_of (mC (fun _ h => m_put h) s1 M1) e2
  have cl : ∀ a j, a < 143 → s2 a j = s1 a j := fun a j h => F a j (Or.inl h)
  have i1 := imE.of G1 (fun _ => ⟨rfl, rfl, rfl, rfl, rfl, rfl, rfl⟩)
  have sb : stB s1 50 := I.2.2.1.mv (fun j _ _ => G1 50 j (Or.inr rfl))
  have Mm := M.mv (s := s1) (by omega) (fun j _ _ => ref 144 j (by decide) (by decide)) (fun j _ _ => ref 147 j (by decide) (by decide))
  have Rm := hR.mv (s := s1) (by omega) (fun j _ _ => ref 144 j (by decide) (by decide))
  obtain ⟨p1, p2⟩ := k_put (r := a) (x := b) (y := c) (v := d) so I.1.ci I.1.rw.1 C hL hk A (by omega) v s1 e1
  obtain ⟨r1, r2⟩ := t_putR (r := a) (x := b) (y := c) (v := d) so M1.2.1 Rm Mm hL hk A (by omega) w s2 e2
  by_cases cc : acc a b c d
  · obtain ⟨I', rn', L1, c1, u1, u2, u3⟩ := p1 cc
    obtain ⟨L2, c2, v1, v2, v3, v4, v5⟩ := r1 cc
    have er := rn_two u2 J cl
    rw [er, old_eq I.1.rw (fun j => ref 144 j (by decide) (by decide)) cc.1] at u1
    obtain ⟨rfl, rfl⟩ := u1.det v1
    have FP := f_put M1 w s2 e2
    have ir : irE s1 s2 := fun a j k => FP a j (by omega) (by omega) (by omega) (by omega) (by omega) (by omega) (by omega) (by omega) (by omega)
    exact ⟨R_closeP J I.2 (by omega) i1 (rK.cls G1).ir cl ir u2 v5 v2 (by omega) sb (gL_PU u1 (by omega) (R_g I M.1)), u3.trans v4.symm⟩
  · obtain ⟨x1, y1⟩ := p2 cc
    obtain ⟨x2, y2⟩ := r2 cc
    refine ⟨?_, y1.trans y2.symm⟩
    rw [x2] at J ⊢
    rw [x1] at J ⊢
    exact ⟨J, I.2.mono (by omega)⟩
theorem qr_take {K : Int} {a : Int} {σ : zS} (hK : K ≤ 2000000) (I : InvR K σ) : two (g_c_take a σ) (g_m_take a) (fun v w s => InvR (K + 2400) s ∧ v = w) := by
  obtain ⟨v, s1, e1, w, s2, e2, J⟩ := qs_take (a := a) I.1
  refine ⟨v, s1, e1, w, s2, e2, ?_⟩
  obtain ⟨L, ct, C, M, hR, hk, A, B, hL⟩ := R_open I
  have so := R_st I
  obtain ⟨H1, G1, -⟩ := zO.at (g_c_take_sp I.1.ci) e1
  have ref := fr_ref G1
  have M1 : MI s1 := MI_cls I.1.mi ref
  have F := frI_of (mC (fun _ h => m_take h) s1 M1) e2
  have cl : ∀ a j, a < 143 → s2 a j = s1 a j := fun a j h => F a j (Or.inl h)
  have i1 := imE.of G1 (fun _ => ⟨rfl, rfl, rfl, rfl, rfl, rfl, rfl⟩)
  have sb : stB s1 50 := I.2.2.1.mv (fun j _ _ => G1 50 j (Or.inr rfl))
  have e144 : ∀ j, s1 144 j = σ 144 j := fun j => ref 144 j (by decide) (by decide)
  have Mm := M.mv (s := s1) (by omega) (fun j _ _ => e144 j) (fun j _ _ => ref 147 j (by decide) (by decide))
  have Rm := hR.mv (s := s1) (by omega) (fun j _ _ => e144 j)
  have h01 : (0 ≤ a ∧ a < 60) → (s1 144 (20 + 3 * a) = 0 ∨ s1 144 (20 + 3 * a) = 1) := fun hh => by
    obtain ⟨k, rfl⟩ : ∃ k : Nat, a = (k : Int) := ⟨a.toNat, by omega⟩
    rw [e144]
    exact (I.1.rw.2 k (by omega)).1
  obtain ⟨p1, p2⟩ := k_take (r := a) so I.1.ci I.1.rw.1 C hL hk A (by omega) v s1 e1
  obtain ⟨r1, r2⟩ := t_takeR (r := a) so M1.2.1 Rm Mm hL hk A (by omega) h01 w s2 e2
  have ii : (0 ≤ a ∧ a < 60) → (inS σ 144 a.toNat = true ↔ s1 144 (20 + 3 * a) = 1) := fun hh => by
    obtain ⟨k, rfl⟩ : ∃ k : Nat, a = (k : Int) := ⟨a.toNat, by omega⟩
    have ek : ((k : Int)).toNat = k := by omega
    rw [ek, e144]
    unfold inS
    rw [decide_eq_true_iff]
    exact ⟨fun h => h.2, fun h => ⟨by omega, h⟩⟩
  by_cases cc : (0 ≤ a ∧ a < 60) ∧ inS σ 144 a.toNat = true
  · obtain ⟨I', rn', L1, c1, u1, u2, u3⟩ := p1 cc
    obtain ⟨L2, c2, v1, v2, v3, v4, v5⟩ := r1 ⟨cc.1, (ii cc.1).mp cc.2⟩
    have er := rn_two u2 J cl
    rw [er, old_eq I.1.rw e144 cc.1] at u1
    obtain ⟨rfl, rfl⟩ := u1.det v1
    have FP := f_take M1 w s2 e2
    have ir : irE s1 s2 := fun a j k => FP a j (by omega) (by omega) (by omega) (by omega) (by omega) (by omega) (by omega) (by omega) (by omega)
    exact ⟨R_closeP J I.2 (by omega) i1 (rK.cls G1).ir cl ir u2 v5 v2 (by omega) sb (gL_PU u1 (by omega) (R_g I M.1)), u3.trans v4.symm⟩
  · obtain ⟨x1, y1⟩ := p2 cc
    obtain ⟨x2, y2⟩ := r2 (fun h => cc ⟨h.1, (ii h.1).mpr h.2⟩)
    refine ⟨?_, y1.trans y2.symm⟩
    rw [x2] at J ⊢
    rw [x1] at J ⊢
    exact ⟨J, I.2.mono (by omega)⟩
