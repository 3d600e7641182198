/-! run() OF THE REFERENCE: its answers, its find -/
def anR (σ : zS) (l : List zQy) (k : Nat) (s : zS) : Prop := ∀ (i : Nat) (hi : i < l.length), i < k → s 162 (i : Int) = valR (σ 144) (σ 147) l[i].2.1 l[i].2.2.2 l[i].1
def fnRl (σ : zS) (l : List zQy) (k : Nat) (s : zS) : Prop := ∀ (i : Nat) (hi : i < l.length), i + 1 = k → fnR σ s l[i].2.1 l[i].2.2.2
theorem m_run86T {σ : zS} {l : List zQy} (hl : l.length ≤ 8) (h0 : 0 < l.length) (hL : 0 ≤ σ 143 20 ∧ σ 143 20 ≤ 160) (hb : tpR σ) (ok : ∀ Q ∈ l, qOkP (mev σ) (mT σ) (σ 143 20) Q) (o7 : ok147 σ) : ∀ (n k : Nat) (s : zS), k ≤ l.length → MI s → tpK σ s → s 143 22 = -1 → s 143 27 = (l.length : Int) → quR' l s → anR σ l k s → fnRl σ l k s → zP' (g_m_run_L86 n (l.length : Int) (k : Int) s) (fun v t => v = (l.length : Int) ∧ t 143 27 = (l.length : Int) ∧ anR σ l l.length t ∧ fnRl σ l l.length t)
  | 0, _, _, _, _, _, _, _, _, _, _ => zP'.no
  | n + 1, k, s, hk, h, kp, hs, h27, hq, ha, hf => by
    have l161 : zLI 161 = 48 := rfl
    have l152 : zLI 152 = 4 := rfl
    unfold g_m_run_L86
    by_cases c : (l.length : Int) ≤ (k : Int)
    · have ek : k = l.length := by omega
      subst ek
      rw [if_pos c]
      unfold g_m_run_L145
      try dsimp +instances only
      have e22 : zu s 143 20 0 143 22 = -1 := (zu_i (by decide)).trans hs
      rw [if_neg (by rw [e22]; decide)]
      refine zP'.ret ⟨rfl, (zu_i (by decide)).trans h27, fun i hi hik => ?_, fun i hi hik => ?_⟩
      · rw [zu_a (by decide)]
        exact ha i hi hik
      · obtain ⟨f1, f2, f3⟩ := hf i hi hik
        refine ⟨(zu_a (by decide)).trans f1, ?_, fun j hj => (zu_a (by decide)).trans (f3 j hj)⟩
        have e : (fun j => zu s 143 20 0 144 (200 + j)) = fun j => s 144 (200 + j) := funext (fun j => zu_a (by decide))
        show sg (fun j => zu s 143 20 0 144 (200 + j)) 0 _ = _
        rw [e]
        exact f2
    · have hk' : k < l.length := by omega
      have okQ := ok l[k] (List.getElem_mem hk')
      obtain ⟨q1, q2, q3⟩ := hq k hk'
      rw [if_neg c, w32_id (x := 6 * (k : Int)) (by omega) (by omega), w32_id (x := 6 * (k : Int) + 1) (by omega) (by omega), s_copies (by omega) (by omega) (by omega) (by omega) (by omega) (by omega)]
      rw [Option.bind_some]
      try dsimp +instances only
      rw [if_pos (by omega), w32_id (x := 6 * (k : Int) + 5) (by omega) (by omega), if_pos (by omega)]
      generalize hs1 : zb s 152 0 (bxA s 161 (6 * (k : Int) + 1)) = s1
      have f1 : ∀ a j, a ≠ 152 → s1 a j = s a j := fun a j ha => by rw [← hs1]; exact zb_a ha
      have hb1 : bxA s1 152 0 = l[k].2.1 := by rw [← hs1, ← q2]; exact zb_bx rfl
      have h1 : MI s1 := MI_144 h (fun a j hh => f1 a j (by omega))
      have k1 : tpK σ s1 := kp.trans ⟨f1 143 20 (by decide), fun j => f1 159 j (by decide), fun j _ _ => f1 144 j (by decide), fun j _ _ => f1 147 j (by decide)⟩
      rw [f1 161 _ (by decide), f1 161 _ (by decide), q1, q3]
      obtain ⟨N, n1, n2, n3⟩ := h1.1
      have hp : plR s1 := fun r hr => h1.2.1.2.2.2.2.2.2 r hr
      have o71 : ok147 s1 := fun r hr => by
        rw [k1.2.2.2 _ (by omega) (by omega)]
        exact o7 r hr
      obtain ⟨t, N', e1, e2, e3, e4, e5, e6, e7, e8⟩ := t_askedQ hL hb k1 okQ n3 n2 n1 hb1 h1.2.1.2.1.1 h1.2.1.2.1.2 h1.2.1.1.1 hp o71
      rw [e1]
      rw [Option.bind_some]
      try dsimp +instances only
      rw [if_pos (by omega), w32_id (x := (k : Int) + 1) (by omega) (by omega)]
      have q : ∀ a j, (a < 143 ∨ 168 ≤ a ∨ a = 159 ∨ a = 161 ∨ a = 162 ∨ a = 166 ∨ a = 167 ∨ a = 145 ∨ a = 148 ∨ (a = 144 ∧ ((9 ≤ j ∧ j < 200) ∨ (260 ≤ j ∧ j < 340))) ∨ (a = 147 ∧ 1 ≤ j ∧ j < 61) ∨ (a = 143 ∧ (j = 6 ∨ j = 20 ∨ j = 27 ∨ j = 29 ∨ j = 32))) → t a j = s1 a j := fun a j hh => e7 a j (by omega) (by omega) (by omega) (by omega) (by omega) (by omega) (by omega) (by omega)
      have hH2 : HI t := HI_fr h1.2.1 (fun j hj => q 144 j (by omega)) e8
      have h2 : MI t := MI_q h1 ⟨N', e6, e5, e4⟩ hH2 (fun a j hh => q a j (by omega))
      generalize hv : valR (σ 144) (σ 147) l[k].2.1 l[k].2.2.2 l[k].1 = v
      have h3 : MI (zu t 162 (k : Int) v) := MI_144 h2 (fun a j hh => zu_a (by omega))
      have z : ∀ a j, a ≠ 162 → zu t 162 (k : Int) v a j = t a j := fun a j ha => zu_a (by omega)
      rw [show (k : Int) + 1 = ((k + 1 : Nat) : Int) by omega]
      refine m_run86T hl h0 hL hb ok o7 n (k + 1) _ (by omega) h3 (k1.trans ⟨?_, fun j => ?_, fun j j1 j2 => ?_, fun j j1 j2 => ?_⟩) ?_ ?_ ?_ ?_ ?_
      · rw [z 143 20 (by decide)]
        exact q 143 20 (by omega)
      · rw [z 159 j (by decide)]
        exact q 159 j (by omega)
      · rw [z 144 j (by decide)]
        exact q 144 j (by omega)
      · rw [z 147 j (by decide)]
        exact q 147 j (by omega)
      · rw [z 143 22 (by decide), e3, f1 143 22 (by decide)]
        exact hs
      · rw [z 143 27 (by decide), q 143 27 (by omega), f1 143 27 (by decide)]
        exact h27
      · intro i hi
        have g := hq i hi
        have e : ∀ j, zu t 162 (k : Int) v 161 j = s 161 j := fun j => (z 161 j (by decide)).trans ((q 161 j (by omega)).trans (f1 161 j (by decide)))
        have eb : bxA (zu t 162 (k : Int) v) 161 (6 * (i : Int) + 1) = bxA s 161 (6 * (i : Int) + 1) := by
          unfold bxA
          rw [e, e, e, e]
        rw [e, e, eb]
        exact g
      · intro i hi hik
        by_cases ci : i = k
        · subst ci
          rw [zu_e rfl, ← hv]
        · rw [zu_i (by omega), q 162 _ (by omega), f1 162 _ (by decide)]
          exact ha i hi (by omega)
      · intro i hi hik
        have ci : i = k := by omega
        subst ci
        obtain ⟨g1, g2, g3⟩ := e2
        refine ⟨(z 144 8 (by decide)).trans g1, ?_, fun j hj => (z 147 _ (by decide)).trans (g3 j hj)⟩
        have e : (fun j => zu t 162 (i : Int) v 144 (200 + j)) = fun j => t 144 (200 + j) := funext (fun j => z 144 _ (by decide))
        show sg (fun j => zu t 162 (i : Int) v 144 (200 + j)) 0 _ = _
        rw [e]
        exact g2
def rnM (σ : zS) (t : zS) : Sum Int (List zQy) → Prop
  | .inl _ => ∀ a j, a ≠ 161 → (a ≠ 143 ∨ (j ≠ 20 ∧ j ≠ 21 ∧ j ≠ 22 ∧ j ≠ 23)) → t a j = σ a j
  | .inr l => t 143 27 = (l.length : Int) ∧ anR σ l l.length t ∧ fnRl σ l l.length t
theorem m_runA {σ : zS} (h : MI σ) (hb : tpR σ) (o7 : ok147 σ) : zP' (g_m_run σ) (fun v t => v = runAns (runP (mev σ) (mT σ) (σ 143 20) 8 0 []) ∧ rnM σ t (runP (mev σ) (mT σ) (σ 143 20) 8 0 [])) := by
  have h20 := h.2.2.1.1
  have ok := runP_ok (ev := mev σ) (f := mT σ) (L := σ 143 20) 8 0 [] (by decide) h20.1 rfl (fun Q hQ => absurd hQ List.not_mem_nil)
  unfold g_m_run g_m_begins
  rw [Option.bind_some]
  try dsimp +instances only
  have f3 : fr3 σ (zu (zu σ 143 21 0) 143 22 (-1)) := fun a j k2 => by rw [zu_c (by omega), zu_c (by omega)]
  have q21 : zu (zu σ 143 21 0) 143 22 (-1) 143 21 = 0 := by rw [zu_i (by omega), zu_e rfl]
  have q22 : zu (zu σ 143 21 0) 143 22 (-1) 143 22 = -1 := zu_e rfl
  generalize zu (zu σ 143 21 0) 143 22 (-1) = s1 at f3 q21 q22
  have e20 : s1 143 20 = σ 143 20 := f3 143 20 (by omega)
  have t1 : tpP s1 := by
    refine ⟨by rw [e20]; exact h20, by rw [e20, q21]; exact ⟨Int.le_refl 0, h20.1⟩, ?_⟩
    unfold tpR
    rw [e20]
    exact fun j j1 j2 => by rw [f3 159 j (Or.inl (by decide))]; exact hb j j1 j2
  refine m_runP (ev := mev σ) (σ0 := s1) zK 8 [] s1 t1 q22 rfl (by decide) (fun _ _ _ _ => rfl) (fun i hi => absurd hi (Nat.not_lt_zero _)) (fun r s f hr k => ?_)
  rw [mT_f f3, e20, q21] at hr
  have f : frQ2 σ s := (frQ2.of f3).trans f
  have hM := (MI_Q2 h f).1
  cases k with
  | zero => exact zP'.no
  | succ k =>
    unfold g_m_run_L8
    rw [if_pos rfl]
    cases e : runP (mev σ) (mT σ) (σ 143 20) 8 0 [] with
    | inl q =>
      rw [e] at hr
      have hr : s 143 22 = q := hr
      have bq := ok.1 q e
      try dsimp +instances only
      rw [if_pos (by omega)]
      unfold g_m_run_L145
      try dsimp +instances only
      have e22 : zu s 143 20 0 143 22 = q := (zu_i (by decide)).trans hr
      rw [e22, if_pos (by omega), w32_id (x := -100 - q) (by omega) (by omega)]
      exact zP'.ret ⟨rfl, fun a j k1 k2 => (zu_c (by omega)).trans (f a j k1 (by omega))⟩
    | inr l =>
      rw [e] at hr
      obtain ⟨rfl, h22, hq⟩ := hr
      obtain ⟨l8, l0, lq⟩ := ok.2 l e
      try dsimp +instances only
      rw [if_neg (by omega)]
      have z : ∀ a j, (a ≠ 143 ∨ j ≠ 27) → zu s 143 27 (l.length : Int) a j = s a j := fun a j hh => zu_c hh
      have kp : tpK σ (zu s 143 27 (l.length : Int)) := ⟨by rw [z 143 20 (by omega)]; exact f 143 20 (by decide) (by omega), fun j => by rw [z 159 j (by omega)]; exact f 159 j (by decide) (by omega), fun j _ _ => by rw [z 144 j (by omega)]; exact f 144 j (by decide) (by omega), fun j _ _ => by rw [z 147 j (by omega)]; exact f 147 j (by decide) (by omega)⟩
      have hM2 : MI (zu s 143 27 (l.length : Int)) := by
        refine ⟨NI_fr hM.1 (fun j _ => z 144 j (by omega)), HI_fr8 hM.2.1 (fun j _ _ => z 144 j (by omega)), ?_, II_fr hM.2.2.2 (z 143 6 (by omega)) (fun j => z 145 j (by omega))⟩
        obtain ⟨x1, x2, x3, x4, x5⟩ := hM.2.2.1
        refine ⟨by rw [z 143 20 (by omega)]; exact x1, by rw [zu_e rfl]; omega, by rw [z 143 29 (by omega)]; exact x3, by rw [z 143 32 (by omega)]; exact x4, fun k hk => ?_⟩
        rw [z 166 _ (by omega)]
        exact x5 k hk
      exact m_run86T l8 l0 h20 hb lq o7 zK 0 _ (Nat.zero_le _) hM2 kp ((z 143 22 (by omega)).trans h22) (zu_e rfl) (fun i hi => by
        have g := hq i hi
        have eb : bxA (zu s 143 27 (l.length : Int)) 161 (6 * (i : Int) + 1) = bxA s 161 (6 * (i : Int) + 1) := by
          unfold bxA
          rw [z 161 _ (by omega), z 161 _ (by omega), z 161 _ (by omega), z 161 _ (by omega)]
        rw [z 161 _ (by omega), z 161 _ (by omega), eb]
        exact g) (fun i hi hik => absurd hik (Nat.not_lt_zero _)) (fun i hi hik => by omega)
