/-! run() OF THE CLASS: its answers, its find; both sides together -/
def anC (σ : zS) (l : List zQy) (k : Nat) (s : zS) : Prop := ∀ (i : Nat) (hi : i < l.length), i < k → s 128 (i : Int) = valT σ 41 l[i].2.1 l[i].2.2.2 l[i].1
def fnCl (σ : zS) (l : List zQy) (k : Nat) (s : zS) : Prop := ∀ (i : Nat) (hi : i < l.length), i + 1 = k → fnT σ s l[i].2.1 l[i].2.2.2
theorem fnT_zu {σ s : zS} {B : Bx} {T : Int → Bool} {a : Nat} {i v : Int} (h : fnT σ s B T) (k : a ≠ 60 ∧ a ≠ 61 ∧ a ≠ 62) : fnT σ (zu s a i v) B T := by
  obtain ⟨f1, f2, f3⟩ := h
  refine ⟨(zu_a (by omega)).trans f1, ?_, fun j hj => (zu_a (by omega)).trans (f3 j hj)⟩
  have e : zu s a i v 61 = s 61 := funext (fun j => zu_a (by omega))
  rw [e]
  exact f2
theorem c_run37T {I : Nat → Bool} {σ : zS} {l : List zQy} (hl : l.length ≤ 8) (ok : ∀ Q ∈ l, (0 ≤ Q.1 ∧ Q.1 ≤ 6) ∧ bOk Q.2.1) (S : ST σ 41 I) (o4 : ok44 σ) : ∀ (n k : Nat) (s : zS), k ≤ l.length → CI s → stE σ s → s 120 3 = -1 → s 122 5 = (l.length : Int) → s 39 9 = (l.length : Int) → quH I l s → anC σ l k s → fnCl σ l k s → zP' (g_c_run_L37 n (k : Int) s) (fun v t => v = (l.length : Int) ∧ t 39 9 = (l.length : Int) ∧ anC σ l l.length t ∧ fnCl σ l l.length t)
  | 0, _, _, _, _, _, _, _, _, _, _, _ => zP'.no
  | n + 1, k, s, hk, H, e, h3, h5, h9, hq, ha, hf => by
    unfold g_c_run_L37
    try dsimp +instances only
    rw [h5]
    by_cases c : (l.length : Int) ≤ (k : Int)
    · have ek : k = l.length := by omega
      subst ek
      rw [if_pos c]
      unfold g_c_run_L100
      try dsimp +instances only
      rw [c_end, if_pos h3]
      rw [Option.bind_some]
      have z : ∀ a j, a ≠ 120 → zu s 120 1 0 a j = s a j := fun a j h => zu_a h
      exact zP'.ret ⟨h5, (z 39 9 (by decide)).trans h9, fun i hi hik => (z 128 _ (by decide)).trans (ha i hi hik), fun i hi hik => fnT_zu (hf i hi hik) (by decide)⟩
    · have hk' : k < l.length := by omega
      obtain ⟨okm, okb⟩ := ok l[k] (List.getElem_mem hk')
      obtain ⟨q1, q2, q3⟩ := hq k hk'
      rw [if_neg c, if_neg (by omega), if_pos (by omega), if_pos (by omega), if_pos (by omega), q1, q2]
      have S1 := ST_E S e
      have o41 : ok44 s := fun r hr => by
        rw [e 44 _ (by unfold stK; omega)]
        exact o4 r hr
      refine zP'.bind ((p_doneT (T := l[k].2.2.2) H S1 okb okm o41 q3).and (zP'.of (g_c_done_sp H))) (fun v t p => ?_)
      obtain ⟨⟨p1, p2⟩, Ht, Gt, -⟩ := p
      try dsimp +instances only
      rw [if_pos (by omega), w32_id (x := (k : Int) + 1) (by omega) (by omega), show (k : Int) + 1 = ((k + 1 : Nat) : Int) by omega]
      have et : stE s t := stE.of Gt (fun _ => ⟨rfl, rfl, rfl, rfl, rfl, rfl, rfl⟩)
      have z : ∀ a j, a ≠ 128 → zu t 128 (k : Int) v a j = t a j := fun a j ha => zu_a (by omega)
      have ez : stE σ (zu t 128 (k : Int) v) := (e.trans et).trans (fun a j hh => z a j (by unfold stK at hh; omega))
      refine c_run37T hl ok S o4 n (k + 1) _ (by omega) (CI_zun Ht (by decide) (by decide) rfl) ez ?_ ?_ ?_ ?_ ?_ ?_
      · rw [z 120 3 (by decide), Gt 120 3 (Or.inr rfl)]
        exact h3
      · rw [z 122 5 (by decide), Gt 122 5 (Or.inr rfl)]
        exact h5
      · rw [z 39 9 (by decide), Gt 39 9 (Or.inr rfl)]
        exact h9
      · intro i hi
        rw [z 123 _ (by decide), z 124 _ (by decide), z 125 _ (by decide), Gt 123 _ (Or.inr rfl), Gt 124 _ (Or.inr rfl), Gt 125 _ (Or.inr rfl)]
        exact hq i hi
      · intro i hi hik
        by_cases ci : i = k
        · subst ci
          rw [zu_e rfl, p1, valT_E e]
        · rw [zu_i (by omega), Gt 128 _ (Or.inr rfl)]
          exact ha i hi (by omega)
      · intro i hi hik
        have ci : i = k := by omega
        subst ci
        exact fnT_zu (fnT_E e p2) (by decide)
def rnKc (σ : zS) (t : zS) : Sum Int (List zQy) → Prop
  | .inl _ => t 39 9 = σ 39 9 ∧ t 60 2 = σ 60 2 ∧ ∀ j, t 128 j = σ 128 j ∧ t 61 j = σ 61 j ∧ t 62 j = σ 62 j
  | .inr l => t 39 9 = (l.length : Int) ∧ anC σ l l.length t ∧ fnCl σ l l.length t
theorem c_runA {I : Nat → Bool} {ev : Int → Int → Int} {σ : zS} (H : CI σ) (hb : byC σ) (S : ST σ 41 I) (o4 : ok44 σ) (hev : ∀ q : Nat, q < 60 → I q = true → ∀ l : Int, 0 ≤ l → l ≤ 3 → cev σ l (q : Int) = ev l (q : Int)) : zP' (g_c_run σ) (fun v t => v = runAns (runP ev (cT σ) (σ 120 1) 8 0 []) ∧ rnKc σ t (runP ev (cT σ) (σ 120 1) 8 0 [])) := by
  have ht := CI.ct H
  unfold g_c_run
  rw [c_begin]
  rw [Option.bind_some]
  try dsimp +instances only
  have Hb : CI (zu (zu σ 120 2 0) 120 3 (-1)) := (zP'.of (g_ta_begin_sp H) _ _ c_begin).1
  have PP : zP' (g_qu_readParts (zu (zu σ 120 2 0) 120 3 (-1))) (fun _ s => frQu σ s ∧ quPo I (zu (zu (zu σ 120 2 0) 120 3 (-1)) 122 5 0) (runP ev (cT σ) (σ 120 1) 8 0 []) s) := by
    unfold g_qu_readParts
    try dsimp +instances only
    have f0 : frQu σ (zu (zu (zu σ 120 2 0) 120 3 (-1)) 122 5 0) := fun a j k1 k2 k3 k4 k5 => by rw [zu_c k5, zu_c (by omega), zu_c (by omega)]
    have e2 : zu (zu (zu σ 120 2 0) 120 3 (-1)) 122 5 0 120 2 = 0 := by rw [zu_a (by decide), zu_i (by decide), zu_e rfl]
    have e3 : zu (zu (zu σ 120 2 0) 120 3 (-1)) 122 5 0 120 3 = -1 := by rw [zu_a (by decide), zu_e rfl]
    have e5 : zu (zu (zu σ 120 2 0) 120 3 (-1)) 122 5 0 122 5 = 0 := zu_e rfl
    generalize zu (zu (zu σ 120 2 0) 120 3 (-1)) 122 5 0 = s1 at f0 e2 e3 e5
    have t1 : tpL s1 := by
      have e121 : s1 121 = σ 121 := funext (fun j => f0 121 j (Or.inl (by decide)) (by decide) (by decide) (by decide) (Or.inl (by decide)))
      unfold tpL
      rw [f0.L, e2, e121]
      exact ⟨ht, by omega, hb⟩
    have H1 : CI s1 := CI_Qu H f0 (by omega) (by omega)
    have O1 : exOk I ev s1 := (show exOk I ev σ from ⟨H, S, hev⟩).q f0 H1
    have P := c_runP (I := I) (ev := ev) zK 8 [] s1 t1 e3 O1 rfl (by decide) (fun i hi => absurd hi (Nat.not_lt_zero _))
    rw [f0.T, f0.L, e2] at P
    have P : zP' (g_qu_readParts_L9 zK 1 0 s1) (fun _ s => quPo I s1 (runP ev (cT σ) (σ 120 1) 8 0 []) s) := P
    exact P.imp (fun _ s p => ⟨f0.trans p.1, p⟩)
  refine zP'.bind (PP.and (zP'.of (g_qu_readParts_sp Hb))) (fun _ s2 p2 => ?_)
  obtain ⟨⟨F2, f2, p2⟩, H2, -, -⟩ := p2
  try dsimp +instances only
  rw [p_isSound]
  rw [Option.bind_some]
  try dsimp +instances only
  have ok := runP_ok (ev := ev) (f := cT σ) (L := σ 120 1) 8 0 [] (by decide) (by omega) rfl (fun Q hQ => absurd hQ List.not_mem_nil)
  cases e : runP ev (cT σ) (σ 120 1) 8 0 [] with
  | inl q =>
    rw [e] at p2
    have p2 : s2 120 3 = q := p2
    have hq := ok.1 q e
    have n3 : ¬ s2 120 3 = -1 := by omega
    rw [if_neg n3, if_pos rfl]
    unfold g_c_run_L100
    try dsimp +instances only
    rw [c_end, if_neg n3, p2, w32_id (x := -100 - q) (by omega) (by omega)]
    rw [Option.bind_some]
    have g : ∀ a j, a ≠ 120 → a ≠ 123 → a ≠ 124 → a ≠ 125 → a ≠ 122 → zu s2 120 1 0 a j = σ a j := fun a j k1 k2 k3 k4 k5 => (zu_a (by omega)).trans (F2 a j (Or.inl k1) k2 k3 k4 (Or.inl k5))
    exact zP'.ret ⟨rfl, g 39 9 (by decide) (by decide) (by decide) (by decide) (by decide), g 60 2 (by decide) (by decide) (by decide) (by decide) (by decide), fun j => ⟨g 128 j (by decide) (by decide) (by decide) (by decide) (by decide), g 61 j (by decide) (by decide) (by decide) (by decide) (by decide), g 62 j (by decide) (by decide) (by decide) (by decide) (by decide)⟩⟩
  | inr l =>
    rw [e] at p2
    obtain ⟨q3, q5, q6⟩ := p2
    rw [if_pos q3, if_neg (by decide)]
    obtain ⟨l8, l0, lq⟩ := ok.2 l e
    have H3 : CI (zu s2 39 9 (s2 122 5)) := CI_zuy H2 (by decide) (by decide) (lo := 0) (hi := 8) rfl (by omega) (by omega)
    have z : ∀ a j, a ≠ 39 → zu s2 39 9 (s2 122 5) a j = s2 a j := fun a j ha => zu_a (by omega)
    have e2 : stE σ (zu s2 39 9 (s2 122 5)) := fun a j hh => by
      unfold stK at hh
      rw [z a j (by omega)]
      exact F2 a j (Or.inl (by omega)) (by omega) (by omega) (by omega) (Or.inl (by omega))
    exact c_run37T l8 (fun Q hQ => ⟨(lq Q hQ).1, (lq Q hQ).2.1⟩) S o4 zK 0 _ (Nat.zero_le _) H3 e2 ((z 120 3 (by decide)).trans q3) ((z 122 5 (by decide)).trans q5) ((zu_e rfl).trans q5) (fun i hi => by
      rw [z 123 _ (by decide), z 124 _ (by decide), z 125 _ (by decide)]
      exact q6 i hi) (fun i hi hik => absurd hik (Nat.not_lt_zero _)) (fun i hi hik => by omega)
/-- the answers of both sides are one -/
def ANe (s : zS) : Prop := s 39 9 = s 143 27 ∧ ∀ j : Nat, j < 8 → (j : Int) < s 39 9 → s 128 (j : Int) = s 162 (j : Int)
theorem RW_ev {σ : zS} (R : RW σ 41 144 147) : ∀ q : Nat, q < 60 → inS σ 144 q = true → ∀ l : Int, 0 ≤ l → l ≤ 3 → cev σ l (q : Int) = mev σ l (q : Int) := fun q hq hi l l1 l2 => by
  obtain ⟨-, g2, g3, g4, -⟩ := R.2 q hq
  have g2 : σ 42 (q : Int) = σ 144 (21 + 3 * (q : Int)) := g2
  have g3 : σ 43 (q : Int) = σ 144 (22 + 3 * (q : Int)) := g3
  have g4 : σ 44 (q : Int) = σ 147 (1 + (q : Int)) := g4
  unfold cev mev
  rw [g2, g3, g4]
/-- the line of queries, both sides -/
theorem run_two {σ : zS} (I : InvS σ) {v w : Int} {s1 s2 : zS} (e1 : g_c_run σ = some (v, s1)) (e2 : g_m_run s1 = some (w, s2)) : v = w ∧ ((s2 39 9 = σ 39 9 ∧ s2 60 2 = σ 60 2 ∧ s2 143 27 = σ 143 27 ∧ (∀ j, s2 128 j = σ 128 j ∧ s2 61 j = σ 61 j ∧ s2 62 j = σ 62 j ∧ s2 162 j = σ 162 j ∧ s2 144 j = σ 144 j ∧ s2 147 j = σ 147 j)) ∨ (ANe s2 ∧ FNe s2)) := by
  have H := I.1.1.1.1
  have R : RW σ 41 144 147 := I.1.1.2.1.1
  have B : BK σ 41 144 147 := I.1.1.2.1
  have hL : σ 120 1 = σ 143 20 := I.1.1.1.2.2.1
  obtain ⟨c1, c2⟩ := c_runA (I := inS σ 144) (ev := mev σ) H I.1.2.c R.1 B.ok (RW_ev R) v s1 e1
  obtain ⟨-, G1, -⟩ := zP'.of (g_c_run_sp H) v s1 e1
  have ref : ∀ a j, 143 ≤ a → a < 168 → s1 a j = σ a j := fun a j k1 k2 => G1 a j (Or.inl ⟨k1, k2⟩)
  have M1 : MI s1 := MI_cls I.1.1.1.2.1 ref
  have e159 : s1 159 = σ 159 := funext (fun j => ref 159 j (by decide) (by decide))
  have e144 : s1 144 = σ 144 := funext (fun j => ref 144 j (by decide) (by decide))
  have e147 : s1 147 = σ 147 := funext (fun j => ref 147 j (by decide) (by decide))
  have e20 : s1 143 20 = σ 143 20 := ref 143 20 (by decide) (by decide)
  have hR : tpR s1 := by
    unfold tpR
    rw [e20, e159]
    exact I.1.2.m hL
  have eT : mT s1 = cT σ := by
    rw [cT_mT hL I.1.2]
    unfold mT
    rw [e20, e159]
  have eE : mev s1 = mev σ := by
    funext l r
    unfold mev
    rw [e144, e147]
  obtain ⟨m1, m2⟩ := m_runA M1 hR (B.ok7 e147) w s2 e2
  have F2 := f_run M1 w s2 e2
  rw [eT, e20, eE, ← hL] at m1 m2
  refine ⟨c1.trans m1.symm, ?_⟩
  cases e : runP (mev σ) (cT σ) (σ 120 1) 8 0 [] with
  | inl q =>
    rw [e] at c2 m2
    obtain ⟨k1, k2, k3⟩ := c2
    have m2 : ∀ a j, a ≠ 161 → (a ≠ 143 ∨ (j ≠ 20 ∧ j ≠ 21 ∧ j ≠ 22 ∧ j ≠ 23)) → s2 a j = s1 a j := m2
    refine Or.inl ⟨by rw [m2 39 9 (by decide) (by omega)]; exact k1, by rw [m2 60 2 (by decide) (by omega)]; exact k2, by rw [m2 143 27 (by decide) (by omega)]; exact ref 143 27 (by decide) (by decide), fun j => ?_⟩
    obtain ⟨k4, k5, k6⟩ := k3 j
    rw [m2 128 j (by decide) (by omega), m2 61 j (by decide) (by omega), m2 62 j (by decide) (by omega), m2 162 j (by decide) (by omega), m2 144 j (by decide) (by omega), m2 147 j (by decide) (by omega)]
    exact ⟨k4, k5, k6, ref 162 j (by decide) (by decide), ref 144 j (by decide) (by decide), ref 147 j (by decide) (by decide)⟩
  | inr l =>
    rw [e] at c2 m2
    obtain ⟨k1, k2, k3⟩ := c2
    obtain ⟨n1, n2, n3⟩ := m2
    have ok := runP_ok (ev := mev σ) (f := cT σ) (L := σ 120 1) 8 0 [] (by decide) (CI.ct H).1 rfl (fun Q hQ => absurd hQ List.not_mem_nil)
    obtain ⟨l8, l0, -⟩ := ok.2 l e
    have cl : ∀ a j, a < 143 → s2 a j = s1 a j := fun a j k => F2 a j (by omega)
    refine Or.inr ⟨⟨by rw [cl 39 9 (by decide), k1, n1], fun j _ hj => ?_⟩, ?_⟩
    · rw [cl 39 9 (by decide), k1] at hj
      have hj : j < l.length := by omega
      rw [cl 128 _ (by decide), k2 j hj hj, n2 j hj hj, e144, e147]
      exact valT_eq R _ _ _
    · have g1 := k3 (l.length - 1) (by omega) (by omega)
      have g2 := n3 (l.length - 1) (by omega) (by omega)
      have g2 : fnR σ s2 l[l.length - 1].2.1 l[l.length - 1].2.2.2 := by
        unfold fnR at *
        rw [e144, e147] at g2
        exact g2
      exact FN_of R g1 g2 (fun a j k => cl a j (by omega))
theorem qd_run {σ : zS} (I : InvS σ) : two (g_c_run σ) g_m_run (fun v w s => InvS s ∧ v = w) := by
  obtain ⟨v, s1, e1, w, s2, e2, J⟩ := qs_run I
  exact ⟨v, s1, e1, w, s2, e2, J, (run_two I e1 e2).1⟩
