/-! WHAT THE REFERENCE ASKS with a test: the answer, the find, the fault kept -/
theorem asked_fault {σ : zS} {N : Nat} {q : Bx} {x t : Int} (hR : RI σ N) (hN : σ 144 0 = (N : Int)) (hN2 : N ≤ 12) (hq : bOk q) (hb : bxA σ 152 0 = q) (h13 : 1 ≤ σ 144 13) (h13b : σ 144 13 ≤ 12) (h12 : 1 ≤ σ 144 12) (ht : ∀ s, frQ σ s → tstOk s t) (hev : ∀ s, frQ σ s → (t < 0 ∨ ∀ (s' : zS) (r : Int), 0 ≤ r → r < 60 → frG s s' → zP' (g_grp231 zR 231 r (zu s' 143 21 t)) (fun _ u => fr3 (zu s' 143 21 t) u ∧ u 143 22 = s' 143 22))) : zP' (g_m_asked x t σ) (fun _ u => u 143 22 = σ 143 22) := by
  have l152 : zLI 152 = 4 := rfl
  obtain ⟨s1, N1, e1, e2, e3, e4, e5⟩ := s_queries hR hN hN2 hq hb h13 h13b h12
  obtain ⟨s2, m, f1, f2, f3, f4, f5⟩ := s_gathers (a := 152) (i := 0) (t := t) (σ := s1) (by omega) (by omega) (by omega) (ht s1 e5)
  have ff : s2 143 22 = s1 143 22 := ga_fault (hev s1 e5) () s2 f1
  obtain ⟨v, s3, g1, g2⟩ := s_asked27 (x := x) f2 m 0 zK (zu s2 144 8 (m : Int)) (by omega) (by show _ < 1000000; omega) (by rw [zu_a (by decide)]; exact f4)
  unfold g_m_asked
  rw [e1]
  rw [Option.bind_some]
  try dsimp only
  rw [f1]
  simp only [Option.bind_some, f4]
  have g1 : g_m_asked_L27 zK x 0 (zu s2 144 8 (m : Int)) = some (v, s3) := g1
  rw [g1]
  refine zP'.ret ?_
  rw [g2 143 22 (Or.inl (by decide)) (Or.inl (by decide)) (Or.inr (by decide)), zu_a (by decide), ff]
  exact e5 143 22 (Or.inl (by decide)) (Or.inl (by decide)) (by decide) (by decide) (by decide) (Or.inr (by decide))
/-- a row's test, read anew -/
theorem ev_row {ev : Int → Int → Int} {r t p' : Int} {T : Int → Bool} {s : zS} (hr : 0 ≤ r ∧ r < 60) (hL : 0 ≤ s 143 20 ∧ s 143 20 ≤ 160) (hb : tpR s) (h0 : 0 ≤ t ∧ t ≤ s 143 20) (he : ∀ l, mev s l r = ev l r) (e : eP ev (mT s) (s 143 20) 700 0 0 t (fun _ => true) = .inr (T, p')) : zP' (g_grp231 zR 231 r (zu s 143 21 t)) (evQ (zu s 143 21 t) (T r) p') := by
  have f : fr3 s (zu s 143 21 t) := fr3.u (Or.inl rfl)
  have e21 : zu s 143 21 t 143 21 = t := zu_e rfl
  have e20 : zu s 143 21 t 143 20 = s 143 20 := zu_i (by decide)
  have tp : tpP (zu s 143 21 t) := by
    refine ⟨by rw [e20]; exact hL, by rw [e20, e21]; exact h0, ?_⟩
    unfold tpR
    rw [e20]
    exact fun j j1 j2 => by rw [zu_a (by decide)]; exact hb j j1 j2
  refine (m_eval (ev := ev) hr 700).1 zR 0 (fun _ => true) (T, p') _ tp (fun l => (mev_f f l r).trans (he l)) ?_
  rw [mT_f f, e20, e21]
  exact e
/-- what a query of the line is, told of any state that keeps tape and rows -/
def tpK (σ s : zS) : Prop := s 143 20 = σ 143 20 ∧ (∀ j, s 159 j = σ 159 j) ∧ (∀ j, 20 ≤ j → j < 200 → s 144 j = σ 144 j) ∧ ∀ j, 1 ≤ j → j < 61 → s 147 j = σ 147 j
theorem tpK.eT {σ s : zS} (k : tpK σ s) : mT s = mT σ := by
  unfold mT
  rw [k.1, show s 159 = σ 159 from funext k.2.1]
theorem tpK.eV {σ s : zS} (k : tpK σ s) {r : Int} (hr : 0 ≤ r ∧ r < 60) (l : Int) : mev s l r = mev σ l r := by
  unfold mev
  rw [k.2.2.2 (1 + r) (by omega) (by omega), k.2.2.1 (21 + 3 * r) (by omega) (by omega), k.2.2.1 (22 + 3 * r) (by omega) (by omega)]
theorem tpK.trans {σ s t : zS} (h1 : tpK σ s) (h2 : tpK s t) : tpK σ t := ⟨h2.1.trans h1.1, fun j => (h2.2.1 j).trans (h1.2.1 j), fun j a b => (h2.2.2.1 j a b).trans (h1.2.2.1 j a b), fun j a b => (h2.2.2.2 j a b).trans (h1.2.2.2 j a b)⟩
theorem tpK.Q {σ s : zS} (h : frQ σ s) : tpK σ s := ⟨h 143 20 (Or.inl (by decide)) (Or.inl (by decide)) (by decide) (by decide) (by decide) (Or.inr (by decide)), fun j => h 159 j (Or.inl (by decide)) (Or.inl (by decide)) (by decide) (by decide) (by decide) (Or.inl (by decide)), fun j a b => h 144 j (Or.inr (by omega)) (Or.inl (by decide)) (by decide) (by decide) (by decide) (Or.inl (by decide)), fun j a b => h 147 j (Or.inl (by decide)) (Or.inr (by omega)) (by decide) (by decide) (by decide) (Or.inl (by decide))⟩
theorem tpK.G {σ s : zS} (h : frG σ s) : tpK σ s := ⟨h 143 20 (Or.inr (by decide)) (by decide) (by decide), fun j => h 159 j (Or.inl (by decide)) (by decide) (by decide), fun j _ _ => h 144 j (Or.inl (by decide)) (by decide) (by decide), fun j _ _ => h 147 j (Or.inl (by decide)) (by decide) (by decide)⟩
theorem q_ev {σ s : zS} {Q : zQy} (hL : 0 ≤ σ 143 20 ∧ σ 143 20 ≤ 160) (hb : tpR σ) (k : tpK σ s) (ok : qOkP (mev σ) (mT σ) (σ 143 20) Q) : Q.2.2.1 < 0 ∧ (∀ r, Q.2.2.2 r = true) ∨ 0 ≤ Q.2.2.1 ∧ ∃ p', ∀ (s' : zS) (r : Int), 0 ≤ r → r < 60 → frG s s' → zP' (g_grp231 zR 231 r (zu s' 143 21 Q.2.2.1)) (evQ (zu s' 143 21 Q.2.2.1) (Q.2.2.2 r) p') := by
  obtain ⟨-, -, h⟩ := ok
  rcases h with ⟨h1, h2⟩ | ⟨h1, h2, p', h3⟩
  · exact Or.inl ⟨h1, h2⟩
  · refine Or.inr ⟨h1, p', fun s' r r1 r2 g => ?_⟩
    have k' := k.trans (tpK.G g)
    have hb' : tpR s' := by
      unfold tpR
      rw [k'.1]
      exact fun j j1 j2 => by rw [k'.2.1]; exact hb j j1 j2
    refine ev_row (ev := mev σ) ⟨r1, r2⟩ (by rw [k'.1]; exact hL) hb' (by rw [k'.1]; exact ⟨h1, h2⟩) (fun l => k'.eV ⟨r1, r2⟩ l) ?_
    rw [k'.eT, k'.1]
    exact h3
theorem q_tst {σ s : zS} {Q : zQy} (hL : 0 ≤ σ 143 20 ∧ σ 143 20 ≤ 160) (hb : tpR σ) (k : tpK σ s) (ok : qOkP (mev σ) (mT σ) (σ 143 20) Q) : tstT s Q.2.2.1 Q.2.2.2 := by
  rcases q_ev hL hb k ok with h | ⟨h1, p', h2⟩
  · exact Or.inl h
  · have h3 : Q.2.2.1 ≤ σ 143 20 := by
      rcases ok.2.2 with h | h
      · omega
      · exact h.2.1
    have t0 := tst_ok (σ := s) (t := Q.2.2.1) (by rw [k.1]; exact hL) (by omega)
    refine Or.inr ⟨by omega, fun s' g r r1 r2 => ?_⟩
    obtain ⟨b, s'', e1, e2⟩ := (t0.resolve_left (by omega)) s' g r r1 r2
    obtain ⟨-, p2, -⟩ := h2 s' r r1 r2 g b s'' e1
    refine ⟨b, s'', e1, ?_, fun a j h => e2 a j h⟩
    rw [p2]
    cases Q.2.2.2 r with
    | true => exact ⟨fun _ => rfl, fun _ => by decide⟩
    | false => exact ⟨fun h => absurd rfl h, fun h => by cases h⟩
theorem t_askedQ {σ s : zS} {N : Nat} {Q : zQy} (hL : 0 ≤ σ 143 20 ∧ σ 143 20 ≤ 160) (hb : tpR σ) (k : tpK σ s) (ok : qOkP (mev σ) (mT σ) (σ 143 20) Q) (hR : RI s N) (hN : s 144 0 = (N : Int)) (hN2 : N ≤ 12) (hq : bxA s 152 0 = Q.2.1) (h13 : 1 ≤ s 144 13) (h13b : s 144 13 ≤ 12) (h12 : 1 ≤ s 144 12) (hp : plR s) (o7 : ok147 s) : ∃ t N', g_m_asked Q.1 Q.2.2.1 s = some (valR (σ 144) (σ 147) Q.2.1 Q.2.2.2 Q.1, t) ∧ fnR σ t Q.2.1 Q.2.2.2 ∧ t 143 22 = s 143 22 ∧ RI t N' ∧ t 144 0 = (N' : Int) ∧ N' ≤ 12 ∧ frK s t ∧ 0 ≤ t 144 8 ∧ t 144 8 ≤ 60 := by
  have hx := ok.1
  have hbx := ok.2.1
  have tsk : ∀ u, frQ s u → tstT u Q.2.2.1 Q.2.2.2 := fun u g => q_tst hL hb (k.trans (tpK.Q g)) ok
  have tso : ∀ u, frQ s u → tstOk u Q.2.2.1 := fun u g => tst_ok (by rw [(k.trans (tpK.Q g)).1]; exact hL) (by
    rcases ok.2.2 with h | h
    · omega
    · omega)
  obtain ⟨t, e1, e2⟩ := t_asked (x := Q.1) (t := Q.2.2.1) (T := Q.2.2.2) hR hN hN2 hbx hq h13 h13b h12 hp o7 hx tsk
  obtain ⟨v, t', N', g1, g2, g3, g4, g5, g6, g7⟩ := s_asked (x := Q.1) (t := Q.2.2.1) hR hN hN2 hbx hq h13 h13b h12 tso
  rw [e1] at g1
  cases g1
  have g0 := asked_fault (x := Q.1) (t := Q.2.2.1) hR hN hN2 hbx hq h13 h13b h12 tso (fun u g => by
    rcases q_ev hL hb (k.trans (tpK.Q g)) ok with h | ⟨h1, p', h2⟩
    · exact Or.inl h.1
    · refine Or.inr (fun s' r r1 r2 gg => (h2 s' r r1 r2 gg).imp (fun b w p => ⟨p.1.1, p.1.2.trans (zu_i (by decide))⟩))) _ _ e1
  have eV : valR (s 144) (s 147) Q.2.1 Q.2.2.2 Q.1 = valR (σ 144) (σ 147) Q.2.1 Q.2.2.2 Q.1 := valR_ext k.2.2.1 k.2.2.2
  have eL : liR (s 144) Q.2.1 Q.2.2.2 = liR (σ 144) Q.2.1 Q.2.2.2 := liR_ext k.2.2.1
  refine ⟨t, N', by rw [← eV]; exact e1, ?_, g0, g2, g3, g4, g5, g6, g7⟩
  obtain ⟨f1, f2, f3⟩ := e2
  unfold fnR
  rw [eL] at f1 f2 f3
  refine ⟨f1, f2, fun j hj => ?_⟩
  have hm : (liR (σ 144) Q.2.1 Q.2.2.2).getD j 0 ∈ liR (σ 144) Q.2.1 Q.2.2.2 := getD_mem hj
  obtain ⟨s5, m5, -, -, -, -, k5, -⟩ := t_gathers (a := 152) (i := 0) (t := Q.2.2.1) (σ := s) (B := Q.2.1) (T := Q.2.2.2) (by omega) (by show (0 : Int) + 3 < 4; decide) (by decide) (by decide) (by decide) (by decide) hq hp (tsk s (fun _ _ _ _ _ _ _ _ => rfl))
  have eq : liR (s 144) Q.2.1 Q.2.2.2 = sg (s5 154) 0 m5 := liR_eq k5
  rw [← eL, eq] at hm
  have bd := selF_bd (f := s 144) (B := Q.2.1) (T := Q.2.2.2) ((k5.2 _).mp hm)
  rw [← eq, eL] at bd
  rw [f3 j hj, k.2.2.2 _ (by omega) (by omega)]
