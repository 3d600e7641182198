/-! WHAT IS ASKED, of both sides: the answer of a query, what it finds; the value and the changes of a watch -/
def quC (σ : zS) (m x0 x1 y0 y1 : Int) : Int := if 0 ≤ m ∧ m ≤ 6 then (if bOk (x0, x1, y0, y1) then valC σ 41 (x0, x1, y0, y1) m else -9223372036854775808) else -9223372036854775808
/-- the class's find is that of a set of rows -/
def fnC (σ s : zS) (B : Bx) : Prop := s 60 2 = ((liC σ 41 B).length : Int) ∧ sg (s 61) 0 (liC σ 41 B).length = liC σ 41 B ∧ ∀ j : Nat, j < (liC σ 41 B).length → s 62 (j : Int) = σ 44 ((liC σ 41 B).getD j 0)
theorem p_done {σ : zS} {I : Nat → Bool} {B : Bx} {m : Int} (H : CI σ) (S : ST σ 41 I) (hb : bOk B) (hm : 0 ≤ m ∧ m ≤ 6) (ok : ok44 σ) : zP' (g_c_done m (enc B) (-1) σ) (fun v s => v = valC σ 41 B m ∧ fnC σ s B) := by
  unfold g_c_done
  refine zP'.bind (zP'.of (g_ca_serve_sp (a0 := 48) (by omega) H)) (fun _ s1 p1 => ?_)
  obtain ⟨H1, G1, -⟩ := p1
  have e : stE σ s1 := stE.of G1 (fun _ => ⟨rfl, rfl, rfl, rfl, rfl, rfl, rfl⟩)
  have S1 := ST_E S e
  try dsimp +instances only
  obtain ⟨rows, e1, e2⟩ := p_rowsIn (σ := s1) (b := B) S1.2.1 hb
  rw [e1]
  rw [Option.bind_some]
  try dsimp +instances only
  have e44 : s1 44 = σ 44 := funext (fun j => e 44 j (by unfold stK; omega))
  refine zP'.bind (p_fiMeas (a := 60) (by omega) (B := B) H1 S1 hm (fun r hr => by rw [e44]; exact ok r hr) (fun q hq => by
    rw [bq_and, e2 q (by omega), bq_m1 (by omega), Bool.and_true])) (fun _ s p => ?_)
  obtain ⟨-, p2, p3, p4, p5⟩ := p
  try dsimp +instances only
  refine zP'.bind p5 (fun v t q => ?_)
  have el : liC s1 41 B = liC σ 41 B := by
    have e42 : s1 42 = σ 42 := funext (fun j => e 42 j (by unfold stK; omega))
    have e43 : s1 43 = σ 43 := funext (fun j => e 43 j (by unfold stK; omega))
    have e45 : s1 45 = σ 45 := funext (fun j => e 45 j (by unfold stK; omega))
    have e4 : s1 41 4 = σ 41 4 := e 41 4 (by unfold stK; omega)
    show (sg (s1 45) 0 (s1 41 4).toNat).filter (fun v => decide (bIn B (s1 42 v) (s1 43 v))) = (sg (σ 45) 0 (σ 41 4).toNat).filter (fun v => decide (bIn B (σ 42 v) (σ 43 v)))
    rw [e42, e43, e45, e4]
  rw [el] at p2 p3 p4
  rw [e44] at p4
  refine zP'.ret ⟨?_, ?_⟩
  · dsimp only
    rw [q.2, valC_E e]
  · dsimp only
    rw [q.1]
    exact ⟨p2, p3, p4⟩
theorem p_query {σ : zS} {I : Nat → Bool} {m x0 x1 y0 y1 : Int} (H : CI σ) (S : ST σ 41 I) (ok : ok44 σ) : zP' (g_c_query m x0 x1 y0 y1 σ) (fun v s => v = quC σ m x0 x1 y0 y1 ∧ (0 ≤ m ∧ m ≤ 6 ∧ bOk (x0, x1, y0, y1) → fnC σ s (x0, x1, y0, y1)) ∧ (¬ (0 ≤ m ∧ m ≤ 6 ∧ bOk (x0, x1, y0, y1)) → s = σ)) := by
  unfold g_c_query quC
  rw [p_isMeasure]
  rw [Option.bind_some]
  try dsimp +instances only
  by_cases c : 0 ≤ m ∧ m ≤ 6
  · rw [if_pos c, if_pos c, if_neg (by decide), p_isBox]
    rw [Option.bind_some]
    try dsimp +instances only
    by_cases c2 : bOk (x0, x1, y0, y1)
    · rw [if_pos c2, if_pos c2, if_pos (by decide)]
      have hb := b_of (b := (x0, x1, y0, y1)) c2.s σ
      try dsimp only at hb
      rw [hb]
      rw [Option.bind_some]
      try dsimp +instances only
      refine zP'.bind (p_done H S c2 c ok) (fun v s p => zP'.ret ⟨p.1, fun _ => p.2, fun h => absurd ⟨c.1, c.2, c2⟩ h⟩)
    · rw [if_neg c2, if_neg c2, if_neg (by decide)]
      exact zP'.ret ⟨rfl, fun h => absurd h.2.2 c2, fun _ => rfl⟩
  · rw [if_neg c, if_neg c, if_pos rfl]
    exact zP'.ret ⟨rfl, fun h => absurd ⟨h.1, h.2.1⟩ c, fun _ => rfl⟩
/-! the reference -/
theorem t_asked27 {x v : Int} {m : Nat} {s0' : zS} (hm2 : m ≤ 60) (hx : ∀ s2 : zS, s2 143 14 = s0' 143 14 → (∀ j, s2 155 j = s0' 155 j) → ∃ o, g_m_measured x s2 = some (v, zu s2 143 15 o)) (hm : s0' 143 14 = (m : Int)) : ∀ (d k n : Nat) (s : zS), k + d = m → d < n → (∀ a j, (a ≠ 144 ∨ j < 200 ∨ 260 ≤ j) → (a ≠ 147 ∨ j < 61 ∨ 121 ≤ j) → s a j = s0' a j) → (∀ j : Nat, j < k → s 144 (200 + (j : Int)) = s0' 154 (j : Int) ∧ s 147 (61 + (j : Int)) = s0' 155 (j : Int)) → ∃ s', g_m_asked_L27 n x (k : Int) s = some (v, s') ∧ (∀ a j, (a ≠ 144 ∨ j < 200 ∨ 260 ≤ j) → (a ≠ 147 ∨ j < 61 ∨ 121 ≤ j) → (a ≠ 143 ∨ j ≠ 15) → s' a j = s0' a j) ∧ ∀ j : Nat, j < m → s' 144 (200 + (j : Int)) = s0' 154 (j : Int) ∧ s' 147 (61 + (j : Int)) = s0' 155 (j : Int)
  | _, _, 0, _, _, h, _, _ => absurd h (Nat.not_lt_zero _)
  | 0, k, n + 1, s, hk, _, hf, hv => by
    have e14 : s 143 14 = (m : Int) := (hf 143 14 (Or.inl (by decide)) (Or.inl (by decide))).trans hm
    obtain ⟨o, e⟩ := hx s (e14.trans hm.symm) (fun j => hf 155 j (Or.inl (by decide)) (Or.inl (by decide)))
    refine ⟨zu s 143 15 o, ?_, fun a j h1 h2 h3 => (zu_c h3).trans (hf a j h1 h2), fun j hj => ?_⟩
    · unfold g_m_asked_L27
      simp only [e14]
      rw [if_pos (by omega), e]
      rfl
    · rw [zu_a (by decide), zu_a (by decide)]
      exact hv j (by omega)
  | d + 1, k, n + 1, s, hk, hn, hf, hv => by
    have e14 : s 143 14 = (m : Int) := (hf 143 14 (Or.inl (by decide)) (Or.inl (by decide))).trans hm
    have e154 : s 154 (k : Int) = s0' 154 (k : Int) := hf 154 _ (Or.inl (by decide)) (Or.inl (by decide))
    have e155 : zu s 144 (200 + (k : Int)) (s 154 (k : Int)) 155 (k : Int) = s0' 155 (k : Int) := (zu_a (by decide)).trans (hf 155 _ (Or.inl (by decide)) (Or.inl (by decide)))
    obtain ⟨s', e1, e2, e3⟩ := t_asked27 (x := x) hm2 hx hm d (k + 1) n (zu (zu s 144 (200 + (k : Int)) (s 154 (k : Int))) 147 (61 + (k : Int)) (zu s 144 (200 + (k : Int)) (s 154 (k : Int)) 155 (k : Int))) (by omega) (by omega) (fun a j h1 h2 => by rw [zu_c (by omega), zu_c (by omega)]; exact hf a j h1 h2) (fun j hj => by
      rw [zu_a (by decide)]
      by_cases cj : j = k
      · subst cj
        rw [zu_e rfl, zu_e rfl]
        exact ⟨e154, e155⟩
      · rw [zu_i (by omega), zu_i (by omega), zu_a (by decide)]
        exact hv j (by omega))
    refine ⟨s', ?_, e2, e3⟩
    unfold g_m_asked_L27
    simp only [e14]
    rw [if_neg (by omega), if_pos (by omega), w32_id (x := 200 + (k : Int)) (by omega) (by omega), if_pos (by omega), if_pos (by omega), w32_id (x := 61 + (k : Int)) (by omega) (by omega), if_pos (by omega), w32_id (x := (k : Int) + 1) (by omega) (by omega)]
    rw [show ((k + 1 : Nat) : Int) = (k : Int) + 1 by omega] at e1
    exact e1
/-- the reference's find is that of a set of rows -/
def fnR (σ s : zS) (B : Bx) (T : Int → Bool) : Prop := s 144 8 = ((liR (σ 144) B T).length : Int) ∧ sg (fun j => s 144 (200 + j)) 0 (liR (σ 144) B T).length = liR (σ 144) B T ∧ ∀ j : Nat, j < (liR (σ 144) B T).length → s 147 (61 + (j : Int)) = σ 147 (1 + (liR (σ 144) B T).getD j 0)
theorem t_asked {σ : zS} {N : Nat} {q : Bx} {x t : Int} {T : Int → Bool} (hR : RI σ N) (hN : σ 144 0 = (N : Int)) (hN2 : N ≤ 12) (hq : bOk q) (hb : bxA σ 152 0 = q) (h13 : 1 ≤ σ 144 13) (h13b : σ 144 13 ≤ 12) (h12 : 1 ≤ σ 144 12) (hp : plR σ) (ok : ok147 σ) (hx : 0 ≤ x ∧ x ≤ 6) (ht : ∀ s, frQ σ s → tstT s t T) : ∃ s, g_m_asked x t σ = some (valR (σ 144) (σ 147) q T x, s) ∧ fnR σ s q T := by
  have l152 : zLI 152 = 4 := rfl
  obtain ⟨s1, N1, e1, e2, e3, e4, e5⟩ := s_queries hR hN hN2 hq hb h13 h13b h12
  have c144 : ∀ j, 20 ≤ j → j < 200 → s1 144 j = σ 144 j := fun j j1 j2 => e5 144 j (by omega) (Or.inl (by decide)) (by decide) (by decide) (by decide) (Or.inl (by decide))
  have c147 : ∀ j, 1 ≤ j → j < 61 → s1 147 j = σ 147 j := fun j j1 j2 => e5 147 j (Or.inl (by decide)) (by omega) (by decide) (by decide) (by decide) (Or.inl (by decide))
  have hb1 : bxA s1 152 0 = q := by
    rw [← hb]
    unfold bxA
    rw [e5 152 _ (Or.inl (by decide)) (Or.inl (by decide)) (by decide) (by decide) (by decide) (Or.inl (by decide)), e5 152 _ (Or.inl (by decide)) (Or.inl (by decide)) (by decide) (by decide) (by decide) (Or.inl (by decide)), e5 152 _ (Or.inl (by decide)) (Or.inl (by decide)) (by decide) (by decide) (by decide) (Or.inl (by decide)), e5 152 _ (Or.inl (by decide)) (Or.inl (by decide)) (by decide) (by decide) (by decide) (Or.inl (by decide))]
  obtain ⟨s2, f1, f2, f3, f4, f5, f6, f7⟩ := t_gath (a := 152) (i := 0) (t := t) (σ := s1) (B := q) (ms := x) (T := T) (by omega) (by omega) (by omega) (by decide) (by decide) (by decide) hb1 (fun r hr => by rw [c144 _ (by omega) (by omega), c144 _ (by omega) (by omega)]; exact hp r hr) (ht s1 e5) hx (fun r hr => by rw [c147 _ (by omega) (by omega)]; exact ok r hr)
  have eL : liR (s1 144) q T = liR (σ 144) q T := liR_ext c144
  have eV : valR (s1 144) (s1 147) q T x = valR (σ 144) (σ 147) q T x := valR_ext c144 c147
  rw [eL] at f2 f4 f5 f6
  rw [eV] at f7
  generalize hL : liR (σ 144) q T = L at f2 f4 f5 f6
  have z : ∀ a j, (a ≠ 144 ∨ j ≠ 8) → zu s2 144 8 (L.length : Int) a j = s2 a j := fun a j h => zu_c h
  obtain ⟨s3, g1, g2, g3⟩ := t_asked27 (x := x) (v := valR (σ 144) (σ 147) q T x) (s0' := zu s2 144 8 (L.length : Int)) f2 (fun s4 h1 h2 => f7 s4 (by rw [h1, z 143 14 (Or.inl (by decide))]) (fun j => by rw [h2, z 155 j (Or.inl (by decide))])) (by rw [z 143 14 (Or.inl (by decide))]; exact f4) L.length 0 zK (zu s2 144 8 (L.length : Int)) (by omega) (by show _ < 1000000; omega) (fun _ _ _ _ => rfl) (fun j hj => absurd hj (Nat.not_lt_zero _))
  refine ⟨s3, ?_, ?_⟩
  · unfold g_m_asked
    rw [e1]
    rw [Option.bind_some]
    try dsimp only
    rw [f1]
    simp only [Option.bind_some, f4]
    exact g1
  · unfold fnR
    rw [hL]
    refine ⟨?_, ?_, fun j hj => ?_⟩
    · rw [g2 144 8 (by omega) (Or.inl (by decide)) (Or.inl (by decide)), zu_e rfl]
    · rw [sg_ext (f := fun j => s3 144 (200 + j)) (g := s2 154) L.length 0 0 (fun j hj => by
        show s3 144 (200 + (0 + (j : Int))) = _
        rw [show (0 : Int) + (j : Int) = (j : Int) by omega, (g3 j hj).1, z 154 _ (Or.inl (by decide))])]
      exact f5
    · rw [(g3 j hj).2, z 155 _ (Or.inl (by decide)), f6 j hj]
      have hm := getD_mem hj
      rw [← f5] at hm
      have hv : 0 ≤ L.getD j 0 ∧ L.getD j 0 < 60 := by
        obtain ⟨s5, m5, k1, k2, k3, k4, k5, k6⟩ := t_gathers (a := 152) (i := 0) (t := t) (σ := s1) (B := q) (T := T) (by omega) (by omega) (by omega) (by decide) (by decide) (by decide) hb1 (fun r hr => by rw [c144 _ (by omega) (by omega), c144 _ (by omega) (by omega)]; exact hp r hr) (ht s1 e5)
        have eq : liR (s1 144) q T = sg (s5 154) 0 m5 := liR_eq k5
        rw [f5, ← hL, ← eL, eq] at hm
        have := selF_bd (f := s1 144) (B := q) (T := T) ((k5.2 _).mp hm)
        rw [← eq, eL, hL] at this
        exact this
      exact c147 _ (by omega) (by omega)
noncomputable def quR (σ : zS) (m x0 x1 y0 y1 : Int) : Int := if 0 ≤ m ∧ m ≤ 6 then (if bOk (x0, x1, y0, y1) then valR (σ 144) (σ 147) (x0, x1, y0, y1) (fun _ => true) m else -9223372036854775808) else -9223372036854775808
theorem t_query {σ : zS} {m x0 x1 y0 y1 : Int} (hH : HI σ) (hI : NI σ) (ok : ok147 σ) : ∃ s, g_m_query m x0 x1 y0 y1 σ = some (quR σ m x0 x1 y0 y1, s) ∧ (0 ≤ m ∧ m ≤ 6 ∧ bOk (x0, x1, y0, y1) → fnR σ s (x0, x1, y0, y1) (fun _ => true)) ∧ (¬ (0 ≤ m ∧ m ≤ 6 ∧ bOk (x0, x1, y0, y1)) → s = σ) := by
  have l152 : zLI 152 = 4 := rfl
  unfold g_m_query quR
  by_cases c : 0 ≤ m ∧ m ≤ 6
  · rw [s_isIn_t c.1 c.2, if_pos c]
    rw [Option.bind_some]
    try dsimp +instances only
    rw [if_neg (by decide)]
    by_cases c2 : bOk (x0, x1, y0, y1)
    · rw [s_isBox_t c2, if_pos c2]
      rw [Option.bind_some]
      try dsimp +instances only
      rw [if_pos (by decide), s_sets (by omega) (by rw [l152]; omega) (by rw [l152]; omega)]
      rw [Option.bind_some]
      try dsimp +instances only
      have q0 : ∀ a, a ≠ 152 → zb σ 152 0 (x0, x1, y0, y1) a = σ a := fun a k1 => funext (fun j => zb_a k1)
      have hI' : NI (zb σ 152 0 (x0, x1, y0, y1)) := NI_fr hI (fun j _ => by rw [q0 144 (by decide)])
      obtain ⟨N, n1, n2, n3⟩ := hI'
      have h12 := hH.1
      have h13 := hH.2.1
      obtain ⟨s, e1, e2⟩ := t_asked (σ := zb σ 152 0 (x0, x1, y0, y1)) (q := (x0, x1, y0, y1)) (x := m) (t := -1) (T := fun _ => true) n3 n2 n1 c2 (zb_bx rfl) (by rw [q0 144 (by decide)]; exact h13.1) (by rw [q0 144 (by decide)]; exact h13.2) (by rw [q0 144 (by decide)]; exact h12.1) (fun r hr => by rw [q0 144 (by decide)]; exact hH.2.2.2.2.2.2 r hr) (fun r hr => by rw [q0 147 (by decide)]; exact ok r hr) c (fun s _ => tstT.no s)
      unfold fnR at e2
      rw [q0 144 (by decide), q0 147 (by decide)] at e1 e2
      rw [e1]
      exact ⟨s, rfl, fun _ => e2, fun h => absurd ⟨c.1, c.2, c2⟩ h⟩
    · rw [s_isBox_f c2, if_neg c2]
      rw [Option.bind_some]
      try dsimp +instances only
      rw [if_neg (by decide)]
      exact ⟨σ, rfl, fun h => absurd h.2.2 c2, fun _ => rfl⟩
  · rw [s_isIn_f (by omega), if_neg c]
    rw [Option.bind_some]
    try dsimp +instances only
    rw [if_pos rfl]
    exact ⟨σ, rfl, fun h => absurd ⟨h.1, h.2.1⟩ c, fun _ => rfl⟩
/-! the value and the changes of a watch -/
theorem p_has {x : Int} {σ : zS} (H : CI σ) : g_wa_has x σ = some (if 0 ≤ x ∧ x < σ 65 5 then 1 else 0, σ) := by
  have hw := CI.cw (a := 65) H (by omega)
  unfold g_wa_has
  try dsimp +instances only
  by_cases c1 : x < 0
  · rw [if_pos c1, if_neg (by omega)]
  · rw [if_neg c1]
    by_cases c2 : σ 65 5 ≤ x
    · rw [if_pos c2, if_neg (by omega)]
    · rw [if_neg c2, if_neg (by omega), if_pos (by omega)]
theorem p_cvalue {σ : zS} {I : Nat → Bool} {B : Nat → Bx} {k : Int} (H : CI σ) (S : ST σ 41 I) (hB : WC σ B) (ok : ok44 σ) : zP' (g_c_value k σ) (fun v _ => v = if 0 ≤ k ∧ k < σ 65 5 then valC σ 41 (B k.toNat) (σ 66 k) else -9223372036854775808) := by
  have hw := CI.cw (a := 65) H (by omega)
  unfold g_c_value
  rw [p_has H]
  rw [Option.bind_some]
  try dsimp +instances only
  by_cases c : 0 ≤ k ∧ k < σ 65 5
  · obtain ⟨i, rfl⟩ : ∃ i : Nat, k = (i : Int) := ⟨k.toNat, by omega⟩
    obtain ⟨b1, b2, b3, b4⟩ := hB i (by omega) c.2
    rw [if_pos c, if_neg (by decide)]
    refine zP'.bind (p_valueOf H S c b1 b2 ⟨b3, b4⟩ ok) (fun v s p => zP'.ret ?_)
    dsimp only
    rw [p.1, if_pos c, show ((i : Nat) : Int).toNat = i by omega]
  · rw [if_neg c, if_pos rfl]
    refine zP'.ret ?_
    rw [if_neg c]
theorem t_cvalue {σ : zS} {B : Nat → Bx} {k : Int} (hW : 0 ≤ σ 144 10 ∧ σ 144 10 ≤ 6) (hp : plR σ) (hB : WR σ B) (ok : ok147 σ) : ∃ s, g_m_value k σ = some (if 0 ≤ k ∧ k < σ 144 10 then VR σ B k.toNat else -9223372036854775808, s) := by
  by_cases c : 0 ≤ k ∧ k < σ 144 10
  · obtain ⟨i, rfl⟩ : ∃ i : Nat, k = (i : Int) := ⟨k.toNat, by omega⟩
    obtain ⟨b1, b2, -⟩ := hB i (by omega) c.2
    obtain ⟨s, e1, -⟩ := t_value (k := (i : Int)) hW c hp b1 b2 ok
    refine ⟨s, ?_⟩
    rw [e1, if_pos c, show ((i : Nat) : Int).toNat = i by omega]
    rfl
  · unfold g_m_value
    rw [s_isWatch hW]
    rw [Option.bind_some]
    try dsimp +instances only
    rw [if_neg c, if_neg c, if_neg (by decide)]
    exact ⟨σ, rfl⟩
theorem p_changes {x : Int} {σ : zS} (H : CI σ) : g_c_changes x σ = some (if 0 ≤ x ∧ x < σ 65 5 then σ 68 x else -1, σ) := by
  have hw := CI.cw (a := 65) H (by omega)
  unfold g_c_changes
  rw [p_has H]
  rw [Option.bind_some]
  try dsimp +instances only
  by_cases c : 0 ≤ x ∧ x < σ 65 5
  · rw [if_pos c, if_pos c, if_neg (by decide), if_pos (by omega)]
  · rw [if_neg c, if_neg c, if_pos rfl]
theorem t_changes {x : Int} {σ : zS} (hW : 0 ≤ σ 144 10 ∧ σ 144 10 ≤ 6) : g_m_changes x σ = some (if 0 ≤ x ∧ x < σ 144 10 then σ 144 (305 + 6 * x) else -1, σ) := by
  unfold g_m_changes
  rw [s_isWatch hW]
  rw [Option.bind_some]
  try dsimp +instances only
  by_cases c : 0 ≤ x ∧ x < σ 144 10
  · rw [if_pos c, if_pos c, if_neg (by decide), w32_id (x := 6 * x) (by omega) (by omega), w32_id (x := 300 + 6 * x) (by omega) (by omega), w32_id (x := 300 + 6 * x + 5) (by omega) (by omega), if_pos (by omega), show 300 + 6 * x + 5 = 305 + 6 * x by omega]
  · rw [if_neg c, if_neg c, if_pos rfl]
