/-! BOTH SIDES: what every pair of calls keeps -/
theorem rng_ref {a : Nat} {j : Int} (h : (143 ≤ a ∧ a < 168) ∨ 168 ≤ a) : rng a j = none := by
  unfold rng
  rw [if_neg (by omega)]
  rw [if_neg (by omega)]
  rw [if_neg (by omega)]
  rw [if_neg (by omega)]
  rw [if_neg (by omega)]
  rw [if_neg (by omega)]
  rw [if_neg (by omega)]
  rw [if_neg (by omega)]
  rw [if_neg (by omega)]
  rw [if_neg (by omega)]
  rw [if_neg (by omega)]
  rw [if_neg (by omega)]
  rw [if_neg (by omega)]
theorem CI_ref {σ s : zS} (H : CI σ) (e : ∀ a j, (a < 143 ∨ 168 ≤ a) → s a j = σ a j) : CI s := by
  refine ⟨fun a j => ?_, ?_⟩
  · by_cases c : a < 143
    · rw [e a j (Or.inl c)]; exact H.1 a j
    · intro lo hi h
      rw [rng_ref (by omega)] at h
      cases h
  · unfold PG
    rw [e 129 1 (by omega), e 129 3 (by omega), e 169 0 (by omega)]
    exact H.2
theorem MI_cls {σ s : zS} (h : MI σ) (e : ∀ a j, 143 ≤ a → a < 168 → s a j = σ a j) : MI s := MI_144 h (fun a j hh => e a j (by omega) (by omega))
/-- what stands between the calls -/
def Inv (σ : zS) : Prop := CI σ ∧ MI σ ∧ σ 120 1 = σ 143 20 ∧ ∀ k : Int, 0 ≤ k → k < 6 → σ 142 k = σ 166 k
/-- the reference's call leaves the tape's length, the lists' lengths and all that is not its own -/
def frI (σ s : zS) : Prop := ∀ a j, (a < 143 ∨ 168 ≤ a ∨ a = 166 ∨ (a = 143 ∧ j = 20)) → s a j = σ a j
theorem frC.i {σ s : zS} (h : frC σ s) : frI σ s := fun a j k => h a j (by omega)
theorem frL.i {σ s : zS} (h : frL σ s) : frI σ s := fun a j k => h a j (by omega)
theorem frI.refl (σ : zS) : frI σ σ := fun _ _ _ => rfl
def two (c : Option (Int × zS)) (m : zS → Option (Int × zS)) (Q : Int → Int → zS → Prop) : Prop := zO c (fun v s1 => zO (m s1) (fun w s2 => Q v w s2))
theorem inv_mid {F : Nat → Int → Bool} {σ s : zS} (I : Inv σ) (H : CI s) (G : fr F σ s) (f1 : F 120 1 = false) (f2 : ∀ k, F 142 k = false) : Inv s := by
  refine ⟨H, MI_cls I.2.1 (fun a j h1 h2 => G a j (Or.inl ⟨h1, h2⟩)), ?_, fun k h1 h2 => ?_⟩
  · rw [G 120 1 (Or.inr f1), G 143 20 (Or.inl (by decide))]; exact I.2.2.1
  · rw [G 142 k (Or.inr (f2 k)), G 166 k (Or.inl (by decide))]; exact I.2.2.2 k h1 h2
theorem inv_end {σ s : zS} (I : Inv σ) (M : MI s) (G : frI σ s) : Inv s := by
  refine ⟨CI_ref I.1 (fun a j h => G a j (by omega)), M, ?_, fun k h1 h2 => ?_⟩
  · rw [G 120 1 (by omega), G 143 20 (by omega)]; exact I.2.2.1
  · rw [G 142 k (by omega), G 166 k (by omega)]; exact I.2.2.2 k h1 h2
theorem op_i {F : Nat → Int → Bool} {σ : zS} {c : Option (Int × zS)} {m : zS → Option (Int × zS)} {P : Int → zS → Prop} (I : Inv σ) (hc : zO c (fun v s => CI s ∧ fr F σ s ∧ P v s)) (f1 : F 120 1 = false) (f2 : ∀ k, F 142 k = false) (hm : ∀ s, MI s → ∃ w s2, m s = some (w, s2) ∧ MI s2 ∧ frI s s2) : two c m (fun _ _ s => Inv s) := by
  refine hc.imp (fun v s p => ?_)
  have I1 := inv_mid I p.1 p.2.1 f1 f2
  obtain ⟨w, s2, e, h1, h2⟩ := hm s I1.2.1
  exact ⟨w, s2, e, inv_end I1 h1 h2⟩
theorem op_p {σ : zS} {c : Option (Int × zS)} {m : zS → Option (Int × zS)} {P : Int → Prop} (I : Inv σ) (hc : zOp c σ P) (hm : ∀ s, MI s → ∃ w s2, m s = some (w, s2) ∧ MI s2 ∧ frI s s2) : two c m (fun _ _ s => Inv s) := by
  obtain ⟨v, e, p⟩ := hc
  obtain ⟨w, s2, e2, h1, h2⟩ := hm σ I.2.1
  exact ⟨v, σ, e, w, s2, e2, inv_end I h1 h2⟩
theorem mC {m : zS → Option (Int × zS)} (h : ∀ s, MI s → ∃ w s2, m s = some (w, s2) ∧ MI s2 ∧ frC s s2) : ∀ s, MI s → ∃ w s2, m s = some (w, s2) ∧ MI s2 ∧ frI s s2 := fun s hs => by
  obtain ⟨w, s2, e, h1, h2⟩ := h s hs
  exact ⟨w, s2, e, h1, h2.i⟩
theorem mP {m : zS → Option (Int × zS)} (h : ∀ s, MI s → ∃ w, m s = some (w, s)) : ∀ s, MI s → ∃ w s2, m s = some (w, s2) ∧ MI s2 ∧ frI s s2 := fun s hs => by
  obtain ⟨w, e⟩ := h s hs
  exact ⟨w, s, e, hs, frI.refl s⟩
theorem o_put {a b c d : Int} {σ : zS} (I : Inv σ) : two (g_c_put a b c d σ) (g_m_put a b c d) (fun _ _ s => Inv s) := op_i I (g_c_put_sp I.1) rfl (fun _ => rfl) (mC (fun _ h => m_put h))
theorem o_take {a : Int} {σ : zS} (I : Inv σ) : two (g_c_take a σ) (g_m_take a) (fun _ _ s => Inv s) := op_i I (g_c_take_sp I.1) rfl (fun _ => rfl) (mC (fun _ h => m_take h))
theorem o_row {a b : Int} {σ : zS} (I : Inv σ) : two (g_c_row a b σ) (g_m_row a b) (fun _ _ s => Inv s) := op_p I (g_c_row_sp I.1) (mP (fun _ _ => m_row))
theorem o_worth {a : Int} {σ : zS} (I : Inv σ) : two (g_c_worth a σ) (g_m_worth a) (fun _ _ s => Inv s) := op_p I (g_c_worth_sp I.1) (mP (fun _ _ => m_worth))
theorem o_setting {a : Int} {σ : zS} (I : Inv σ) : two (g_c_setting a σ) (g_m_setting a) (fun _ _ s => Inv s) := op_p I (g_c_setting_sp I.1) (mP (fun _ _ => m_setting))
theorem o_answer {a : Int} {σ : zS} (I : Inv σ) : two (g_c_answer a σ) (g_m_answer a) (fun _ _ s => Inv s) := op_p I (g_c_answer_sp I.1) (mP (fun _ h => m_answer h))
theorem o_spell {σ : zS} (I : Inv σ) : two (g_c_spell σ) g_m_spell (fun _ _ s => Inv s) := op_i I (g_c_spell_sp I.1) rfl (fun _ => rfl) (mC (fun _ h => m_spell h))
theorem o_explain {a b c d : Int} {σ : zS} (I : Inv σ) : two (g_c_explain a b c d σ) (g_m_explain a b c d) (fun _ _ s => Inv s) := op_i I (g_c_explain_sp I.1) rfl (fun _ => rfl) (mC (fun _ h => m_explain h))
theorem o_paper {a : Int} {σ : zS} (I : Inv σ) : two (g_c_paper a σ) (g_m_paper a) (fun _ _ s => Inv s) := op_p I (g_c_paper_sp I.1) (mP (fun _ h => m_paper h))
theorem o_query {a b c d e : Int} {σ : zS} (I : Inv σ) : two (g_c_query a b c d e σ) (g_m_query a b c d e) (fun _ _ s => Inv s) := op_i I (g_c_query_sp I.1) rfl (fun _ => rfl) (mC (fun _ h => m_query h))
theorem o_find {a : Int} {σ : zS} (I : Inv σ) : two (g_c_find a σ) (g_m_find a) (fun _ _ s => Inv s) := op_p I (g_c_find_sp I.1) (mP (fun _ h => m_find h))
theorem o_probe {a b c d : Int} {σ : zS} (I : Inv σ) : two (g_c_probe a b c d σ) (g_m_probe a b c d) (fun _ _ s => Inv s) := op_i I (g_c_probe_sp I.1) rfl (fun _ => rfl) (mC (fun _ h => m_probe h))
theorem o_piece {a b : Int} {σ : zS} (I : Inv σ) : two (g_c_piece a b σ) (g_m_piece a b) (fun _ _ s => Inv s) := op_p I (g_c_piece_sp I.1) (mP (fun _ h => m_piece h))
theorem o_region {a b : Int} {σ : zS} (I : Inv σ) : two (g_c_region a b σ) (g_m_region_248 a b) (fun _ _ s => Inv s) := op_p I (g_c_region_sp I.1) (mP (fun _ h => m_region h))
theorem o_weight {a : Int} {σ : zS} (I : Inv σ) : two (g_c_weight a σ) (g_m_weight a) (fun _ _ s => Inv s) := op_p I (g_c_weight_sp I.1) (mP (fun _ h => m_weight h))
theorem o_told {a : Int} {σ : zS} (I : Inv σ) : two (g_c_told a σ) (g_m_told a) (fun _ _ s => Inv s) := op_p I (g_c_told_sp I.1) (mP (fun _ h => m_told h))
theorem o_flush {σ : zS} (I : Inv σ) : two (g_c_flush σ) g_m_flush (fun _ _ s => Inv s) := op_i I (g_c_flush_sp I.1) rfl (fun _ => rfl) (mC (fun _ h => m_flush h))
theorem o_keep {a : Int} {σ : zS} (I : Inv σ) : two (g_c_keep a σ) (g_m_keep a) (fun _ _ s => Inv s) := op_p I (g_c_keep_sp I.1) (mP (fun _ h => m_keep h))
theorem o_trace {a b c d : Int} {σ : zS} (I : Inv σ) : two (g_c_trace a b c d σ) (g_m_trace a b c d) (fun _ _ s => Inv s) := op_i I (g_c_trace_sp I.1) rfl (fun _ => rfl) (mC (fun _ h => m_trace h))
theorem o_again {a b : Int} {σ : zS} (I : Inv σ) : two (g_c_again a b σ) (g_m_again a b) (fun _ _ s => Inv s) := op_i I (g_c_again_sp I.1) rfl (fun _ => rfl) (mC (fun _ h => m_again h))
theorem o_least {a : Int} {σ : zS} (I : Inv σ) : two (g_c_least a σ) (g_m_least a) (fun _ _ s => Inv s) := op_i I (g_c_least_sp I.1) rfl (fun _ => rfl) (mC (fun _ h => m_least h))
theorem o_watch {a b c d e : Int} {σ : zS} (I : Inv σ) : two (g_c_watch a b c d e σ) (g_m_watch a b c d e) (fun _ _ s => Inv s) := op_i I (g_c_watch_sp I.1) rfl (fun _ => rfl) (mC (fun _ h => m_watch h))
theorem o_value {a : Int} {σ : zS} (I : Inv σ) : two (g_c_value a σ) (g_m_value a) (fun _ _ s => Inv s) := op_i I (g_c_value_sp I.1) rfl (fun _ => rfl) (mC (fun _ h => m_value h))
theorem o_changes {a : Int} {σ : zS} (I : Inv σ) : two (g_c_changes a σ) (g_m_changes a) (fun _ _ s => Inv s) := op_p I (g_c_changes_sp I.1) (mP (fun _ h => m_changes h))
theorem o_get {a b : Int} {σ : zS} (I : Inv σ) : two (g_c_get a b σ) (g_m_get a b) (fun _ _ s => Inv s) := op_p I (g_c_get_sp I.1) (mP (fun _ h => m_get h))
theorem o_lay {a b : Int} {σ : zS} (hb : -2147483648 ≤ b ∧ b < 2147483648) (I : Inv σ) : two (g_c_lay a b σ) (g_m_lay a b) (fun _ _ s => Inv s) := op_i I (g_c_lay_sp I.1) rfl (fun _ => rfl) (fun s h => by
  obtain ⟨w, s2, e, h1, h2⟩ := m_lay (l := a) h hb
  exact ⟨w, s2, e, h1, h2.i⟩)
theorem o_judge {a b : Int} {σ : zS} (hb : -2147483648 ≤ b ∧ b < 2147483648) (I : Inv σ) : two (g_c_judge a b σ) (g_m_judge a b) (fun _ _ s => Inv s) := op_p I (g_c_judge_sp I.1) (mP (fun _ h => m_judge h hb))
theorem o_image {σ : zS} (I : Inv σ) : two (g_c_image σ) g_m_image (fun _ _ s => Inv s) := op_i I (g_c_image_sp I.1) rfl (fun _ => rfl) (mC (fun _ h => m_image h))
theorem o_undo {σ : zS} (I : Inv σ) : two (g_c_undo σ) g_m_undo (fun _ _ s => Inv s) := op_i I (g_c_undo_sp I.1) rfl (fun _ => rfl) (mC (fun _ h => m_undo h))
/-- the readers of the tape: it is empty then on both sides -/
theorem op_r {F : Nat → Int → Bool} {σ : zS} {c : Option (Int × zS)} {m : zS → Option (Int × zS)} (I : Inv σ) (hc : zO c (fun v s => CI s ∧ fr F σ s ∧ (s 120 1 = 0))) (f2 : ∀ k, F 142 k = false) (hm : ∀ s, MI s → ∃ w s2, m s = some (w, s2) ∧ MI s2 ∧ s2 143 20 = 0 ∧ frT s s2) : two c m (fun _ _ s => Inv s) := by
  refine hc.imp (fun v s p => ?_)
  obtain ⟨H, G, q⟩ := p
  have M1 : MI s := MI_cls I.2.1 (fun a j h1 h2 => G a j (Or.inl ⟨h1, h2⟩))
  obtain ⟨w, s2, e, h1, h2, h3⟩ := hm s M1
  refine ⟨w, s2, e, CI_ref H (fun a j h => h3 a j (by omega)), h1, ?_, fun k k1 k2 => ?_⟩
  · rw [h3 120 1 (by omega), q, h2]
  · rw [h3 142 k (by omega), h3 166 k (by omega), G 142 k (Or.inr (f2 k)), G 166 k (Or.inl (by decide))]
    exact I.2.2.2 k k1 k2
theorem o_settings {σ : zS} (I : Inv σ) : two (g_c_settings σ) g_m_settings (fun _ _ s => Inv s) := op_r I (g_c_settings_sp I.1) (fun _ => rfl) (fun _ h => m_settings h)
theorem o_run {σ : zS} (I : Inv σ) : two (g_c_run σ) g_m_run (fun _ _ s => Inv s) := op_r I (g_c_run_sp I.1) (fun _ => rfl) (fun _ h => m_run h)
theorem o_load {σ : zS} (I : Inv σ) : two (g_c_load σ) g_m_load (fun _ _ s => Inv s) := op_r I (g_c_load_sp I.1) (fun _ => rfl) (fun _ h => m_load h)
theorem o_clear {σ : zS} (I : Inv σ) : two (g_c_clear σ) g_m_clear (fun v w s => Inv s ∧ v = w) := by
  refine (g_c_clear_sp I.1).imp (fun v s p => ?_)
  obtain ⟨H, G, q1, q2⟩ := p
  have M1 : MI s := MI_cls I.2.1 (fun a j h1 h2 => G a j (Or.inl ⟨h1, h2⟩))
  obtain ⟨s2, e, h1, h2, h3⟩ := m_clear M1
  refine ⟨_, s2, e, ⟨CI_ref H (fun a j h => h3 a j (by omega)), h1, ?_, fun k k1 k2 => ?_⟩, ?_⟩
  · rw [h3 120 1 (by omega), q2, h2]
  · rw [h3 142 k (by omega), h3 166 k (by omega), G 142 k (Or.inr rfl), G 166 k (Or.inl (by decide))]
    exact I.2.2.2 k k1 k2
  · rw [G 143 20 (Or.inl (by decide)), q1]; exact I.2.2.1
theorem o_feed {x : Int} {σ : zS} (I : Inv σ) : two (g_c_feed x σ) (g_m_feed x) (fun v w s => Inv s ∧ v = w) := by
  refine (g_c_feed_sp I.1).imp (fun v s p => ?_)
  obtain ⟨H, G, q1, q2, q3⟩ := p
  have M1 : MI s := MI_cls I.2.1 (fun a j h1 h2 => G a j (Or.inl ⟨h1, h2⟩))
  obtain ⟨s2, e, h1, h2, h3⟩ := m_feed (x := x) M1
  have hn : s 143 20 = σ 120 1 := by rw [G 143 20 (Or.inl (by decide))]; exact I.2.2.1.symm
  have hr := I.1.ct
  have key : v = feedA (s 143 20) x ∧ s 120 1 = feedN (s 143 20) x := by
    unfold feedA feedN
    rw [hn]
    by_cases c : 1 ≤ x ∧ x ≤ 127
    · rw [if_pos c, if_pos c]
      by_cases c2 : σ 120 1 ≠ 160
      · rw [if_pos c2, if_pos c2]; exact q2 ⟨c.1, c.2, by omega⟩
      · rw [if_neg c2, if_neg c2]
        have c2 : σ 120 1 = 160 := by omega
        exact q3 ⟨c.1, c.2, c2⟩
    · rw [if_neg c, if_neg c]; exact q1 c
  refine ⟨_, s2, e, ⟨CI_ref H (fun a j h => h3 a j (by omega) (by omega)), h1, ?_, fun k k1 k2 => ?_⟩, key.1⟩
  · rw [h3 120 1 (by decide) (by omega), h2]; exact key.2
  · rw [h3 142 k (by decide) (by omega), h3 166 k (by decide) (by omega), G 142 k (Or.inr rfl), G 166 k (Or.inl (by decide))]
    exact I.2.2.2 k k1 k2
theorem o_set {l i v0 : Int} {σ : zS} (I : Inv σ) : two (g_c_set l i v0 σ) (g_m_set l i v0) (fun v w s => Inv s ∧ v = w) := by
  refine (g_c_set_sp I.1).imp (fun v s p => ?_)
  obtain ⟨H, G, q1, q2, q3, q4⟩ := p
  have I1 := inv_mid I H G rfl (fun _ => rfl)
  obtain ⟨s2, e, h1, h2⟩ := m_set (l := l) (i := i) (v := v0) I1.2.1
  refine ⟨_, s2, e, inv_end I1 h1 h2.i, ?_⟩
  have hs : s 166 l = σ 166 l := G 166 l (Or.inl (by decide))
  rw [hs]
  unfold setA
  by_cases c : 0 ≤ l ∧ l < 6
  · have hl := I.2.2.2 l c.1 c.2
    rw [hl] at q2 q3 q4
    rw [if_pos c]
    by_cases c1 : 0 ≤ σ 166 l
    · rw [if_pos c1]
      by_cases c2 : 0 ≤ i ∧ i ≤ σ 166 l - 1
      · rw [if_pos c2]; exact q3 ⟨c.1, c.2, c1, by omega⟩
      · rw [if_neg c2]; exact q4 ⟨c.1, c.2, c1, by omega⟩
    · rw [if_neg c1]; exact q2 ⟨c.1, c.2, by omega⟩
  · rw [if_neg c]; exact q1 c
theorem o_move {l i o j x : Int} {σ : zS} (hi : i < 2147483648) (hj : j < 2147483648) (I : Inv σ) : two (g_c_move l i o j x σ) (g_m_move l i o j x) (fun v w s => Inv s ∧ v = w) := by
  refine (g_c_move_sp I.1).imp (fun v s p => ?_)
  obtain ⟨H, G, q1, q2, q3, q4, q5⟩ := p
  have I1 := inv_mid I H G rfl (fun _ => rfl)
  obtain ⟨s2, e, h1, h2⟩ := m_move (l := l) (i := i) (o := o) (j0 := j) (x := x) I1.2.1 hi hj
  refine ⟨_, s2, e, inv_end I1 h1 h2.i, ?_⟩
  rw [G 166 l (Or.inl (by decide)), G 166 o (Or.inl (by decide))]
  unfold moveA
  by_cases c : 0 ≤ l ∧ l < 6
  · rw [if_pos c]
    by_cases c' : 0 ≤ o ∧ o < 6
    · rw [if_pos c']
      rw [I.2.2.2 l c.1 c.2, I.2.2.2 o c'.1 c'.2] at q3 q4 q5
      by_cases c1 : σ 166 l < 0
      · rw [if_pos c1]; exact q3 ⟨c.1, c.2, c'.1, c'.2, Or.inl c1⟩
      · rw [if_neg c1]
        by_cases c2 : 0 ≤ σ 166 o
        · rw [if_pos c2]
          by_cases c3 : x < 0
          · rw [if_pos c3]; exact q5 (by omega)
          · rw [if_neg c3]
            by_cases c4 : i < 0
            · rw [if_pos c4]; exact q5 (by omega)
            · rw [if_neg c4]
              by_cases c5 : j < 0
              · rw [if_pos c5]; exact q5 (by omega)
              · rw [if_neg c5]
                by_cases c6 : σ 166 l - i < x
                · rw [if_pos c6]; exact q5 (by omega)
                · rw [if_neg c6]
                  by_cases c7 : x ≤ σ 166 o - j
                  · rw [if_pos c7]; exact q4 (by omega)
                  · rw [if_neg c7]; exact q5 (by omega)
        · rw [if_neg c2]; exact q3 ⟨c.1, c.2, c'.1, c'.2, Or.inr (by omega)⟩
    · rw [if_neg c']; exact q2 c'
  · rw [if_neg c]; exact q1 c
theorem li27 : ∀ (n : Nat) (x1 x2 x3 : Int) (σ : zS) (o : Unit × zS), g_li_make_L27 n x1 x2 x3 σ = some o → ∀ j, o.2 142 j = σ 142 j
  | 0, _, _, _, _, _, h => by cases h
  | n + 1, x1, x2, x3, σ, o, h => by
    intro j
    unfold g_li_make_L27 at h
    by_cases c : x2 ≤ x3
    · rw [if_pos c] at h; cases h; rfl
    · rw [if_neg c] at h
      by_cases c1 : 0 ≤ x1 ∧ x1 < 6
      · rw [if_pos c1] at h
        dsimp only at h
        by_cases c2 : 0 ≤ x3 ∧ x3 < 60
        · rw [if_pos c2] at h
          rw [li27 n _ _ _ _ _ h j, zu_a (by omega)]
        · rw [if_neg c2] at h; cases h
      · rw [if_neg c1] at h; cases h
theorem c_list142 {l x : Int} {σ : zS} {o : Int × zS} (h : g_c_list l x σ = some o) : ∀ j, o.2 142 j = if (0 ≤ l ∧ l < 6 ∧ 0 ≤ x ∧ x ≤ 60) ∧ j = l then x else σ 142 j := by
  intro j
  unfold g_c_list at h
  obtain ⟨r, e1, p1⟩ := g_li_isList_sp (x0 := l) (σ := σ)
  rw [e1] at h
  rw [Option.bind_some] at h
  dsimp +instances only at h
  by_cases c : r ≠ 0
  · have hl := p1.mp c
    rw [if_pos c] at h
    by_cases c1 : x ≤ 60
    · rw [if_pos c1] at h
      by_cases c2 : 0 ≤ x
      · rw [if_pos c2] at h
        unfold g_li_make at h
        rw [e1] at h
        rw [Option.bind_some] at h
        dsimp +instances only at h
        rw [if_neg (show ¬ r = 0 from c), if_neg (by omega), if_pos c1, if_pos hl] at h
        cases hq : g_li_make_L27 zK l x 0 (zu σ 142 l x) with
        | none => rw [hq] at h; cases h
        | some q =>
          rw [hq] at h
          rw [Option.bind_some] at h
          cases h
          show q.2 142 j = _
          rw [li27 _ _ _ _ _ _ hq j]
          by_cases ck : j = l
          · rw [zu_e ck, if_pos ⟨⟨hl.1, hl.2, c2, c1⟩, ck⟩]
          · rw [zu_i ck, if_neg (fun hh => ck hh.2)]
      · rw [if_neg c2] at h; cases h
        rw [if_neg (fun hh => by omega)]
    · rw [if_neg c1] at h; cases h
      rw [if_neg (fun hh => by omega)]
  · rw [if_neg c] at h; cases h
    have hl : ¬ (0 ≤ l ∧ l < 6) := fun hh => c (p1.mpr hh)
    rw [if_neg (fun hh => by omega)]
theorem o_list {l x : Int} {σ : zS} (I : Inv σ) : two (g_c_list l x σ) (g_m_list l x) (fun v w s => Inv s ∧ v = w) := by
  obtain ⟨v, s, e0, H, G, q1, q2, q3, q4⟩ := g_c_list_sp (x1 := l) (x2 := x) I.1
  have hl : ∀ j, s 142 j = if (0 ≤ l ∧ l < 6 ∧ 0 ≤ x ∧ x ≤ 60) ∧ j = l then x else σ 142 j := c_list142 e0
  refine ⟨v, s, e0, ?_⟩
  have M1 : MI s := MI_cls I.2.1 (fun a j h1 h2 => G a j (Or.inl ⟨h1, h2⟩))
  obtain ⟨s2, e, h1, h2, h3⟩ := m_list (l := l) (x := x) M1
  refine ⟨_, s2, e, ⟨CI_ref H (fun a j h => h2 a j (by omega)), h1, ?_, fun k k1 k2 => ?_⟩, ?_⟩
  · rw [h2 120 1 (by decide), h2 143 20 (by decide), G 120 1 (Or.inr rfl), G 143 20 (Or.inl (by decide))]; exact I.2.2.1
  · rw [h2 142 k (by decide), h3 k, hl k, G 166 k (Or.inl (by decide)), I.2.2.2 k k1 k2]
  · unfold listA
    by_cases c : 0 ≤ l ∧ l < 6
    · rw [if_pos c]
      by_cases c1 : x ≤ 60
      · rw [if_pos c1]
        by_cases c2 : 0 ≤ x
        · rw [if_pos c2]; exact q4 ⟨c.1, c.2, c2, c1⟩
        · rw [if_neg c2]; exact q3 ⟨c.1, c.2, by omega⟩
      · rw [if_neg c1]; exact q2 ⟨c.1, c.2, by omega⟩
    · rw [if_neg c]; exact q1 c
/-! THE START -/
def iv (v : Value) : Int := match v with
  | .int x => x.toInt
  | .long x => x.toInt
  | _ => 0
def s0rng (a : Nat) (lo hi : Int) : Bool := match w_row w_T0 a with
  | some r => r.2.2.1.all (fun q => decide (lo ≤ iv q.2 ∧ iv q.2 ≤ hi)) && (match r.2.2.2 with
    | some v => decide (lo ≤ iv v ∧ iv v ≤ hi)
    | none => true)
  | none => true
theorem s0_in {a : Nat} {lo hi : Int} (h : s0rng a lo hi = true) (h0 : lo ≤ 0 ∧ 0 ≤ hi) (ha : a ≠ 169) (j : Int) : lo ≤ s0 a j ∧ s0 a j ≤ hi := by
  unfold s0
  rw [if_neg (fun hh => ha hh.1)]
  unfold s0rng at h
  cases hr : w_row w_T0 a with
  | none => exact h0
  | some r =>
    rw [hr] at h
    dsimp only at h ⊢
    rw [Bool.and_eq_true] at h
    cases hv : w_at r j.toNat with
    | none => exact h0
    | some v =>
      have key : lo ≤ iv v ∧ iv v ≤ hi := by
        rcases w_at_mem hv with ⟨q, hq, rfl⟩ | hd
        · exact of_decide_eq_true (List.all_eq_true.mp h.1 q hq)
        · have h2 := h.2
          rw [hd] at h2
          exact of_decide_eq_true h2
      cases v <;> first | exact key | exact h0
theorem s0_CR {a : Nat} {lo hi : Int} (h : s0rng a lo hi = true) (h0 : lo ≤ 0 ∧ 0 ≤ hi) (ha : a ≠ 169) (j : Int) (e : rng a j = some (lo, hi)) : CR a j (s0 a j) := fun l2 h2 e2 => by
  rw [e] at e2
  cases e2
  exact s0_in h h0 ha j
theorem CI_s0 : CI s0 := by
  refine ⟨fun a j lo hi h => ?_, by unfold PG; decide +kernel⟩
  unfold rng at h
  by_cases c0 : (a = 48 ∨ a = 81 ∨ a = 106) ∧ j = 2
  · rw [if_pos c0] at h
    cases h
    obtain ⟨c, rfl⟩ := c0
    rcases c with rfl | rfl | rfl <;> decide +kernel
  rw [if_neg c0] at h
  by_cases c1 : (a = 56 ∨ a = 58 ∨ a = 63 ∨ a = 89 ∨ a = 91 ∨ a = 96 ∨ a = 114 ∨ a = 116 ∨ a = 126 ∨ a = 131) ∧ j = 1
  · rw [if_pos c1] at h
    cases h
    obtain ⟨c, rfl⟩ := c1
    rcases c with rfl | rfl | rfl | rfl | rfl | rfl | rfl | rfl | rfl | rfl <;> decide +kernel
  rw [if_neg c1] at h
  by_cases c2 : (a = 41 ∨ a = 74) ∧ j = 4
  · rw [if_pos c2] at h
    cases h
    obtain ⟨c, rfl⟩ := c2
    rcases c with rfl | rfl <;> decide +kernel
  rw [if_neg c2] at h
  by_cases c3 : a = 42 ∨ a = 43 ∨ a = 75 ∨ a = 76
  · rw [if_pos c3] at h
    cases h
    rcases c3 with rfl | rfl | rfl | rfl <;> exact s0_in (by decide +kernel) (by decide) (by decide) j
  rw [if_neg c3] at h
  by_cases c4 : (a = 60 ∨ a = 70 ∨ a = 93 ∨ a = 103) ∧ j = 2
  · rw [if_pos c4] at h
    cases h
    obtain ⟨c, rfl⟩ := c4
    rcases c with rfl | rfl | rfl | rfl <;> decide +kernel
  rw [if_neg c4] at h
  by_cases c5 : (a = 65 ∨ a = 98) ∧ j = 5
  · rw [if_pos c5] at h
    cases h
    obtain ⟨c, rfl⟩ := c5
    rcases c with rfl | rfl <;> decide +kernel
  rw [if_neg c5] at h
  by_cases c6 : a = 120 ∧ j = 1
  · rw [if_pos c6] at h
    cases h
    obtain ⟨rfl, rfl⟩ := c6
    all_goals decide +kernel
  rw [if_neg c6] at h
  by_cases c7 : a = 120 ∧ j = 2
  · rw [if_pos c7] at h
    cases h
    obtain ⟨rfl, rfl⟩ := c7
    all_goals decide +kernel
  rw [if_neg c7] at h
  by_cases c8 : a = 122 ∧ j = 5
  · rw [if_pos c8] at h
    cases h
    obtain ⟨rfl, rfl⟩ := c8
    all_goals decide +kernel
  rw [if_neg c8] at h
  by_cases c9 : a = 39 ∧ j = 9
  · rw [if_pos c9] at h
    cases h
    obtain ⟨rfl, rfl⟩ := c9
    all_goals decide +kernel
  rw [if_neg c9] at h
  by_cases c10 : a = 142
  · rw [if_pos c10] at h
    cases h
    subst c10
    exact s0_in (by decide +kernel) (by decide) (by decide) j
  rw [if_neg c10] at h
  by_cases c11 : (a = 48 ∨ a = 81 ∨ a = 106) ∧ j = 8
  · rw [if_pos c11] at h
    cases h
    obtain ⟨c, rfl⟩ := c11
    rcases c with rfl | rfl | rfl <;> decide +kernel
  rw [if_neg c11] at h
  by_cases c12 : a = 51 ∨ a = 84 ∨ a = 109
  · rw [if_pos c12] at h
    cases h
    rcases c12 with rfl | rfl | rfl <;> exact s0_in (by decide +kernel) (by decide) (by decide) j
  rw [if_neg c12] at h
  cases h
theorem MI_s0 : MI s0 := by
  refine ⟨⟨0, by decide, by decide +kernel, fun k hk => absurd hk (Nat.not_lt_zero _), fun k1 k2 h1 h2 => absurd h2 (Nat.not_lt_zero _)⟩, ?_, ?_, ?_⟩
  · refine ⟨by decide +kernel, by decide +kernel, by decide +kernel, by decide +kernel, by decide +kernel, fun t ht => ?_, fun r hr => ?_⟩
    · have h : s0 144 9 = 0 := by decide +kernel
      rw [h] at ht
      omega
    · have h : ∀ i : Fin 60, (0 ≤ s0 144 (21 + 3 * ((i.val : Nat) : Int)) ∧ s0 144 (21 + 3 * ((i.val : Nat) : Int)) ≤ 31) ∧ (0 ≤ s0 144 (22 + 3 * ((i.val : Nat) : Int)) ∧ s0 144 (22 + 3 * ((i.val : Nat) : Int)) ≤ 31) := by decide +kernel
      exact h ⟨r, hr⟩
  · refine ⟨by decide +kernel, by decide +kernel, by decide +kernel, by decide +kernel, fun k hk => ?_⟩
    have h : ∀ i : Fin 6, -1 ≤ s0 166 ((i.val : Nat) : Int) ∧ s0 166 ((i.val : Nat) : Int) ≤ 60 := by decide +kernel
    exact h ⟨k, hk⟩
  · intro h
    exact absurd (by decide +kernel : s0 143 6 = 0) h
theorem Inv_s0 : Inv s0 := by
  refine ⟨CI_s0, MI_s0, by decide +kernel, fun k h1 h2 => ?_⟩
  obtain ⟨n, rfl⟩ : ∃ n : Nat, k = (n : Int) := ⟨k.toNat, by omega⟩
  have h : ∀ i : Fin 6, s0 142 ((i.val : Nat) : Int) = s0 166 ((i.val : Nat) : Int) := by decide +kernel
  exact h ⟨n, by omega⟩
