/-! THE TAPES alike: the calls that touch them -/
theorem T_zero {σ : zS} {c : Option (Int × zS)} {m : zS → Option (Int × zS)} {Q : Int → Int → zS → Prop} (I : InvT σ) (o : two c m (fun v w s => Inv2 s ∧ Q v w s)) (hc : zP' c (fun _ s1 => s1 120 1 = 0 ∧ ∀ a j, (143 ≤ a ∧ a < 168) → s1 a j = σ a j)) (hm : ∀ s, MI s → zP' (m s) (fun _ s2 => s2 120 1 = s 120 1)) : two c m (fun v w s => InvT s ∧ Q v w s) := by
  obtain ⟨v, s1, e1, w, s2, e2, J, q⟩ := o
  obtain ⟨h0, h1⟩ := hc v s1 e1
  have M1 : MI s1 := MI_cls I.1.1.2.1 (fun a j k1 k2 => h1 a j ⟨k1, k2⟩)
  have h2 := hm s1 M1 w s2 e2
  exact ⟨v, s1, e1, w, s2, e2, ⟨J, fun j j1 j2 => absurd j2 (by rw [h2, h0]; omega)⟩, q⟩
theorem qt_clear {σ : zS} (I : InvT σ) : two (g_c_clear σ) g_m_clear (fun v w s => InvT s ∧ v = w) := T_zero I (q_clear I.1) (zP'.ret ⟨zu_e rfl, fun a j k => zu_a (by omega)⟩) (fun s h => (f_clear h).imp (fun _ t g => g 120 1 (Or.inl (by decide))))
theorem qt_settings {σ : zS} (I : InvT σ) : two (g_c_settings σ) g_m_settings (fun _ _ s => InvT s) := ft2 (T_zero I (tt2 (q_settings I.1)) ((zP'.of (g_c_settings_sp I.1.1.1)).imp (fun _ s p => ⟨p.2.2, fun a j k => p.2.1 a j (Or.inl k)⟩)) (fun s h => (f_settings h).imp (fun _ t g => g 120 1 (by omega))))
theorem qt_run {σ : zS} (I : InvT σ) : two (g_c_run σ) g_m_run (fun _ _ s => InvT s) := ft2 (T_zero I (tt2 (q_run I.1)) ((zP'.of (g_c_run_sp I.1.1.1)).imp (fun _ s p => ⟨p.2.2, fun a j k => p.2.1 a j (Or.inl k)⟩)) (fun s h => (f_run h).imp (fun _ t g => g 120 1 (by omega))))
theorem qt_load {σ : zS} (I : InvT σ) : two (g_c_load σ) g_m_load (fun _ _ s => InvT s) := ft2 (T_zero I (tt2 (q_load I.1)) ((zP'.of (g_c_load_sp I.1.1.1)).imp (fun _ s p => ⟨p.2.2, fun a j k => p.2.1 a j (Or.inl k)⟩)) (fun s h => (f_load h).imp (fun _ t g => g 120 1 (by omega))))
theorem qt_feed {x : Int} {σ : zS} (I : InvT σ) : two (g_c_feed x σ) (g_m_feed x) (fun v w s => InvT s ∧ v = w) := by
  obtain ⟨v, s1, e1, w, s2, e2, J, q⟩ := q_feed (x := x) I.1
  refine ⟨v, s1, e1, w, s2, e2, ⟨J, ?_⟩, q⟩
  have ht := CI.ct I.1.1.1
  have hL : σ 120 1 = σ 143 20 := I.1.1.2.2.1
  obtain ⟨p1, p2⟩ := p_feedF ht v s1 e1
  by_cases c : (1 ≤ x ∧ x ≤ 127) ∧ σ 120 1 < 160
  · have p1 := p1 c
    subst p1
    have f : ∀ a j, a ≠ 121 → a ≠ 120 → fedS σ 121 120 1 x a j = σ a j := fun a j k1 k2 => by
      unfold fedS
      rw [zu_a k2, zu_a k1]
    have hx := I.1.1.2.1.2.2.1.1
    obtain ⟨r1, -⟩ := t_feedF (x := x) (σ := fedS σ 121 120 1 x) (by rw [f 143 20 (by decide) (by decide)]; exact hx) w s2 e2
    have r1 := r1 (by rw [f 143 20 (by decide) (by decide)]; omega)
    subst r1
    intro j j1 j2
    have z120 : fedS (fedS σ 121 120 1 x) 159 143 20 x 120 1 = σ 120 1 + 1 := by
      unfold fedS
      rw [zu_a (by decide), zu_a (by decide), zu_e rfl]
    rw [z120] at j2
    have z121 : ∀ j, fedS (fedS σ 121 120 1 x) 159 143 20 x 121 j = if j = σ 120 1 then x else σ 121 j := fun j => by
      unfold fedS
      rw [zu_a (by decide), zu_a (by decide), zu_a (by decide)]
      by_cases cj : j = σ 120 1
      · rw [zu_e cj, if_pos cj]
      · rw [zu_i cj, if_neg cj]
    have z159 : ∀ j, fedS (fedS σ 121 120 1 x) 159 143 20 x 159 j = if j = σ 120 1 then x else σ 159 j := fun j => by
      unfold fedS
      rw [zu_a (by decide)]
      have e20 : zu (zu σ 121 (σ 120 1) x) 120 1 (σ 120 1 + 1) 143 20 = σ 120 1 := by rw [zu_a (by decide), zu_a (by decide), hL]
      by_cases cj : j = σ 120 1
      · rw [zu_e (by rw [e20]; exact cj), if_pos cj]
      · rw [zu_i (by rw [e20]; exact cj), if_neg cj, zu_a (by decide), zu_a (by decide)]
    rw [z121, z159]
    by_cases cj : j = σ 120 1
    · rw [if_pos cj, if_pos cj]
      exact ⟨rfl, c.1⟩
    · rw [if_neg cj, if_neg cj]
      exact I.2 j j1 (by omega)
  · have p2 := p2 c
    rw [p2] at e2
    have hx := I.1.1.2.1.2.2.1.1
    obtain ⟨-, r2⟩ := t_feedF (x := x) (σ := σ) hx w s2 e2
    have r2 := r2 (by rw [← hL]; exact c)
    rw [r2]
    exact I.2
