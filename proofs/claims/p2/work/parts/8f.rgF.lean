/-! COMPONENT Rg: RGp is kept by every call that does not touch it (printed by wip/zc.py) -/
def KRg (a : Nat) (j : Int) : Prop := (a = 48 ∨ (50 ≤ a ∧ a ≤ 55) ∨ a = 81 ∨ (83 ≤ a ∧ a ≤ 88)) ∨ (a = 144 ∧ ((0 ≤ j ∧ j < 8) ∨ (340 ≤ j ∧ j < 2740))) ∨ (a = 147 ∧ (j = 0 ∨ (121 ≤ j ∧ j < 361))) ∨ a = 145 ∨ a = 148 ∨ (a = 143 ∧ j = 6)
def cFRg (F : Nat → Int → Bool) : Prop := ∀ j : Int, F 48 j = false ∧ F 50 j = false ∧ F 51 j = false ∧ F 52 j = false ∧ F 53 j = false ∧ F 54 j = false ∧ F 55 j = false ∧ F 81 j = false ∧ F 83 j = false ∧ F 84 j = false ∧ F 85 j = false ∧ F 86 j = false ∧ F 87 j = false ∧ F 88 j = false
theorem hcRg {F : Nat → Int → Bool} {σ : zS} {c : Option (Int × zS)} {P : Int → zS → Prop} (hc : zO c (fun v s => CI s ∧ fr F σ s ∧ P v s)) (f : cFRg F) : zP' c (fun _ s1 => ∀ a j, (KRg a j ∨ (143 ≤ a ∧ a < 168)) → s1 a j = σ a j) := (zP'.of hc).imp (fun v s p a j k => by
  have G := p.2.1
  rcases k with k | k
  · unfold KRg at k
    obtain ⟨h0, h1, h2, h3, h4, h5, h6, h7, h8, h9, h10, h11, h12, h13⟩ := f j
    by_cases ca : 143 ≤ a
    · exact G _ _ (Or.inl (by omega))
    · have cs : a = 48 ∨ a = 50 ∨ a = 51 ∨ a = 52 ∨ a = 53 ∨ a = 54 ∨ a = 55 ∨ a = 81 ∨ a = 83 ∨ a = 84 ∨ a = 85 ∨ a = 86 ∨ a = 87 ∨ a = 88 := by omega
      rcases cs with rfl | rfl | rfl | rfl | rfl | rfl | rfl | rfl | rfl | rfl | rfl | rfl | rfl | rfl
      · exact G _ _ (Or.inr h0)
      · exact G _ _ (Or.inr h1)
      · exact G _ _ (Or.inr h2)
      · exact G _ _ (Or.inr h3)
      · exact G _ _ (Or.inr h4)
      · exact G _ _ (Or.inr h5)
      · exact G _ _ (Or.inr h6)
      · exact G _ _ (Or.inr h7)
      · exact G _ _ (Or.inr h8)
      · exact G _ _ (Or.inr h9)
      · exact G _ _ (Or.inr h10)
      · exact G _ _ (Or.inr h11)
      · exact G _ _ (Or.inr h12)
      · exact G _ _ (Or.inr h13)
  · exact G _ _ (Or.inl k))
theorem hpRg {σ : zS} {c : Option (Int × zS)} {P : Int → Prop} (hc : zOp c σ P) : zP' c (fun _ s1 => ∀ a j, (KRg a j ∨ (143 ≤ a ∧ a < 168)) → s1 a j = σ a j) := fun v s e => by
  obtain ⟨v0, e0, -⟩ := hc
  rw [e0] at e
  cases e
  exact fun _ _ _ => rfl
theorem hmRg {m : zS → Option (Int × zS)} (h : ∀ s, MI s → ∃ w, m s = some (w, s)) : ∀ s, MI s → zP' (m s) (fun _ s2 => ∀ a j, KRg a j → s2 a j = s a j) := fun s hs v t e => by
  obtain ⟨w, e0⟩ := h s hs
  rw [e0] at e
  cases e
  exact fun _ _ _ => rfl
def InvR (K : Int) (σ : zS) : Prop := InvS σ ∧ RGp K σ
theorem liftRg {K : Int} {σ : zS} {c : Option (Int × zS)} {m : zS → Option (Int × zS)} {Q : Int → Int → zS → Prop} (I : InvR K σ) (o : two c m (fun v w s => InvS s ∧ Q v w s)) (hc : zP' c (fun _ s1 => ∀ a j, (KRg a j ∨ (143 ≤ a ∧ a < 168)) → s1 a j = σ a j)) (hm : ∀ s, MI s → zP' (m s) (fun _ s2 => ∀ a j, KRg a j → s2 a j = s a j)) : two c m (fun v w s => InvR K s ∧ Q v w s) := by
  obtain ⟨v, s1, e1, w, s2, e2, J, q⟩ := o
  have h1 := hc v s1 e1
  have M1 : MI s1 := MI_cls ((fun (s : zS) (h : InvS s) => h.1.1) σ I.1).1.2.1 (fun a j k1 k2 => h1 a j (Or.inr ⟨k1, k2⟩))
  have h2 := hm s1 M1 w s2 e2
  exact ⟨v, s1, e1, w, s2, e2, ⟨J, RGp_keep I.2 (fun a j k => (h2 a j k).trans (h1 a j (Or.inl k)))⟩, q⟩
theorem qr_row {K : Int} {a b : Int} {σ : zS} (I : InvR K σ) : two (g_c_row a b σ) (g_m_row a b) (fun v w s => InvR K s ∧ v = w) := liftRg I (qs_row I.1) (hpRg (g_c_row_sp ((fun (s : zS) (h : InvS s) => h.1.1) σ I.1).1.1)) (hmRg (fun _ _ => m_row))
theorem qr_worth {K : Int} {a : Int} {σ : zS} (I : InvR K σ) : two (g_c_worth a σ) (g_m_worth a) (fun v w s => InvR K s ∧ v = w) := liftRg I (qs_worth I.1) (hpRg (g_c_worth_sp ((fun (s : zS) (h : InvS s) => h.1.1) σ I.1).1.1)) (hmRg (fun _ _ => m_worth))
theorem qr_feed {K : Int} {a : Int} {σ : zS} (I : InvR K σ) : two (g_c_feed a σ) (g_m_feed a) (fun v w s => InvR K s ∧ v = w) := liftRg I (qs_feed I.1) (hcRg (g_c_feed_sp ((fun (s : zS) (h : InvS s) => h.1.1) σ I.1).1.1) (fun _ => ⟨rfl, rfl, rfl, rfl, rfl, rfl, rfl, rfl, rfl, rfl, rfl, rfl, rfl, rfl⟩)) (fun s h => (f_feed h).imp (fun _ t g a j k => g a j (by unfold KRg at k; omega) (by unfold KRg at k; omega)))
theorem qr_clear {K : Int} {σ : zS} (I : InvR K σ) : two (g_c_clear σ) g_m_clear (fun v w s => InvR K s ∧ v = w) := liftRg I (qs_clear I.1) (hcRg (g_c_clear_sp ((fun (s : zS) (h : InvS s) => h.1.1) σ I.1).1.1) (fun _ => ⟨rfl, rfl, rfl, rfl, rfl, rfl, rfl, rfl, rfl, rfl, rfl, rfl, rfl, rfl⟩)) (fun s h => (f_clear h).imp (fun _ t g a j k => g a j (by unfold KRg at k; omega)))
theorem qr_setting {K : Int} {a : Int} {σ : zS} (I : InvR K σ) : two (g_c_setting a σ) (g_m_setting a) (fun v w s => InvR K s ∧ v = w) := liftRg I (qs_setting I.1) (hpRg (g_c_setting_sp ((fun (s : zS) (h : InvS s) => h.1.1) σ I.1).1.1)) (hmRg (fun _ _ => m_setting))
theorem qr_answer {K : Int} {a : Int} {σ : zS} (I : InvR K σ) : two (g_c_answer a σ) (g_m_answer a) (fun _ _ s => InvR K s) := ft2 (liftRg I (tt2 (qs_answer I.1)) (hpRg (g_c_answer_sp ((fun (s : zS) (h : InvS s) => h.1.1) σ I.1).1.1)) (hmRg (fun _ h => m_answer h)))
theorem qr_spell {K : Int} {σ : zS} (I : InvR K σ) : two (g_c_spell σ) g_m_spell (fun _ _ s => InvR K s) := ft2 (liftRg I (tt2 (qs_spell I.1)) (hcRg (g_c_spell_sp ((fun (s : zS) (h : InvS s) => h.1.1) σ I.1).1.1) (fun _ => ⟨rfl, rfl, rfl, rfl, rfl, rfl, rfl, rfl, rfl, rfl, rfl, rfl, rfl, rfl⟩)) (fun s h => (f_spell h).imp (fun _ t g a j k => g a j (by unfold KRg at k; omega) (by unfold KRg at k; omega))))
theorem qr_explain {K : Int} {a b c d : Int} {σ : zS} (I : InvR K σ) : two (g_c_explain a b c d σ) (g_m_explain a b c d) (fun _ _ s => InvR K s) := ft2 (liftRg I (tt2 (qs_explain I.1)) (hcRg (g_c_explain_sp ((fun (s : zS) (h : InvS s) => h.1.1) σ I.1).1.1) (fun _ => ⟨rfl, rfl, rfl, rfl, rfl, rfl, rfl, rfl, rfl, rfl, rfl, rfl, rfl, rfl⟩)) (fun s h => (f_explain h).imp (fun _ t g a j k => g a j (by unfold KRg at k; omega) (by unfold KRg at k; omega) (by unfold KRg at k; omega) (by unfold KRg at k; omega) (by unfold KRg at k; omega) (by unfold KRg at k; omega))))
theorem qr_paper {K : Int} {a : Int} {σ : zS} (I : InvR K σ) : two (g_c_paper a σ) (g_m_paper a) (fun _ _ s => InvR K s) := ft2 (liftRg I (tt2 (qs_paper I.1)) (hpRg (g_c_paper_sp ((fun (s : zS) (h : InvS s) => h.1.1) σ I.1).1.1)) (hmRg (fun _ h => m_paper h)))
theorem qr_find {K : Int} {a : Int} {σ : zS} (I : InvR K σ) : two (g_c_find a σ) (g_m_find a) (fun _ _ s => InvR K s) := ft2 (liftRg I (tt2 (qs_find I.1)) (hpRg (g_c_find_sp ((fun (s : zS) (h : InvS s) => h.1.1) σ I.1).1.1)) (hmRg (fun _ h => m_find h)))
theorem qr_probe {K : Int} {a b c d : Int} {σ : zS} (I : InvR K σ) : two (g_c_probe a b c d σ) (g_m_probe a b c d) (fun _ _ s => InvR K s) := ft2 (liftRg I (tt2 (qs_probe I.1)) (hcRg (g_c_probe_sp ((fun (s : zS) (h : InvS s) => h.1.1) σ I.1).1.1) (fun _ => ⟨rfl, rfl, rfl, rfl, rfl, rfl, rfl, rfl, rfl, rfl, rfl, rfl, rfl, rfl⟩)) (fun s h => (f_probe h).imp (fun _ t g a j k => g a j (by unfold KRg at k; omega) (by unfold KRg at k; omega) (by unfold KRg at k; omega) (by unfold KRg at k; omega) (by unfold KRg at k; omega))))
theorem qr_piece {K : Int} {a b : Int} {σ : zS} (I : InvR K σ) : two (g_c_piece a b σ) (g_m_piece a b) (fun _ _ s => InvR K s) := ft2 (liftRg I (tt2 (qs_piece I.1)) (hpRg (g_c_piece_sp ((fun (s : zS) (h : InvS s) => h.1.1) σ I.1).1.1)) (hmRg (fun _ h => m_piece h)))
theorem qr_region {K : Int} {a b : Int} {σ : zS} (I : InvR K σ) : two (g_c_region a b σ) (g_m_region_248 a b) (fun _ _ s => InvR K s) := ft2 (liftRg I (tt2 (qs_region I.1)) (hpRg (g_c_region_sp ((fun (s : zS) (h : InvS s) => h.1.1) σ I.1).1.1)) (hmRg (fun _ h => m_region h)))
theorem qr_weight {K : Int} {a : Int} {σ : zS} (I : InvR K σ) : two (g_c_weight a σ) (g_m_weight a) (fun _ _ s => InvR K s) := ft2 (liftRg I (tt2 (qs_weight I.1)) (hpRg (g_c_weight_sp ((fun (s : zS) (h : InvS s) => h.1.1) σ I.1).1.1)) (hmRg (fun _ h => m_weight h)))
theorem qr_told {K : Int} {a : Int} {σ : zS} (I : InvR K σ) : two (g_c_told a σ) (g_m_told a) (fun _ _ s => InvR K s) := ft2 (liftRg I (tt2 (qs_told I.1)) (hpRg (g_c_told_sp ((fun (s : zS) (h : InvS s) => h.1.1) σ I.1).1.1)) (hmRg (fun _ h => m_told h)))
theorem qr_keep {K : Int} {a : Int} {σ : zS} (I : InvR K σ) : two (g_c_keep a σ) (g_m_keep a) (fun _ _ s => InvR K s) := ft2 (liftRg I (tt2 (qs_keep I.1)) (hpRg (g_c_keep_sp ((fun (s : zS) (h : InvS s) => h.1.1) σ I.1).1.1)) (hmRg (fun _ h => m_keep h)))
theorem qr_trace {K : Int} {a b c d : Int} {σ : zS} (I : InvR K σ) : two (g_c_trace a b c d σ) (g_m_trace a b c d) (fun v w s => InvR K s ∧ v = w) := liftRg I (qs_trace I.1) (hcRg (g_c_trace_sp ((fun (s : zS) (h : InvS s) => h.1.1) σ I.1).1.1) (fun _ => ⟨rfl, rfl, rfl, rfl, rfl, rfl, rfl, rfl, rfl, rfl, rfl, rfl, rfl, rfl⟩)) (fun s h => (f_trace h).imp (fun _ t g a j k => g a j (by unfold KRg at k; omega)))
theorem qr_again {K : Int} {a b : Int} {σ : zS} (I : InvR K σ) : two (g_c_again a b σ) (g_m_again a b) (fun _ _ s => InvR K s) := ft2 (liftRg I (tt2 (qs_again I.1)) (hcRg (g_c_again_sp ((fun (s : zS) (h : InvS s) => h.1.1) σ I.1).1.1) (fun _ => ⟨rfl, rfl, rfl, rfl, rfl, rfl, rfl, rfl, rfl, rfl, rfl, rfl, rfl, rfl⟩)) (fun s h => (f_again h).imp (fun _ t g a j k => g a j (by unfold KRg at k; omega) (by unfold KRg at k; omega) (by unfold KRg at k; omega) (by unfold KRg at k; omega) (by unfold KRg at k; omega) (by unfold KRg at k; omega) (by unfold KRg at k; omega) (by unfold KRg at k; omega) (by unfold KRg at k; omega))))
theorem qr_least {K : Int} {a : Int} {σ : zS} (I : InvR K σ) : two (g_c_least a σ) (g_m_least a) (fun _ _ s => InvR K s) := ft2 (liftRg I (tt2 (qs_least I.1)) (hcRg (g_c_least_sp ((fun (s : zS) (h : InvS s) => h.1.1) σ I.1).1.1) (fun _ => ⟨rfl, rfl, rfl, rfl, rfl, rfl, rfl, rfl, rfl, rfl, rfl, rfl, rfl, rfl⟩)) (fun s h => (f_least h).imp (fun _ t g a j k => g a j (by unfold KRg at k; omega) (by unfold KRg at k; omega) (by unfold KRg at k; omega) (by unfold KRg at k; omega) (by unfold KRg at k; omega) (by unfold KRg at k; omega) (by unfold KRg at k; omega) (by unfold KRg at k; omega) (by unfold KRg at k; omega))))
theorem qr_watch {K : Int} {a b c d e : Int} {σ : zS} (I : InvR K σ) : two (g_c_watch a b c d e σ) (g_m_watch a b c d e) (fun v w s => InvR K s ∧ v = w) := liftRg I (qs_watch I.1) (hcRg (g_c_watch_sp ((fun (s : zS) (h : InvS s) => h.1.1) σ I.1).1.1) (fun _ => ⟨rfl, rfl, rfl, rfl, rfl, rfl, rfl, rfl, rfl, rfl, rfl, rfl, rfl, rfl⟩)) (fun s h => (f_watch h).imp (fun _ t g a j k => g a j (by unfold KRg at k; omega)))
theorem qr_value {K : Int} {a : Int} {σ : zS} (I : InvR K σ) : two (g_c_value a σ) (g_m_value a) (fun v w s => InvR K s ∧ v = w) := liftRg I (qs_value I.1) (hcRg (g_c_value_sp ((fun (s : zS) (h : InvS s) => h.1.1) σ I.1).1.1) (fun _ => ⟨rfl, rfl, rfl, rfl, rfl, rfl, rfl, rfl, rfl, rfl, rfl, rfl, rfl, rfl⟩)) (fun s h => (f_value h).imp (fun _ t g a j k => g a j (by unfold KRg at k; omega) (by unfold KRg at k; omega) (by unfold KRg at k; omega)))
theorem qr_changes {K : Int} {a : Int} {σ : zS} (I : InvR K σ) : two (g_c_changes a σ) (g_m_changes a) (fun v w s => InvR K s ∧ v = w) := liftRg I (qs_changes I.1) (hpRg (g_c_changes_sp ((fun (s : zS) (h : InvS s) => h.1.1) σ I.1).1.1)) (hmRg (fun _ h => m_changes h))
theorem qr_list {K : Int} {a b : Int} {σ : zS} (I : InvR K σ) : two (g_c_list a b σ) (g_m_list a b) (fun v w s => InvR K s ∧ v = w) := liftRg I (qs_list I.1) (hcRg (g_c_list_sp ((fun (s : zS) (h : InvS s) => h.1.1) σ I.1).1.1) (fun _ => ⟨rfl, rfl, rfl, rfl, rfl, rfl, rfl, rfl, rfl, rfl, rfl, rfl, rfl, rfl⟩)) (fun s h => (f_list h).imp (fun _ t g a j k => g a j (by unfold KRg at k; omega) (by unfold KRg at k; omega)))
theorem qr_set {K : Int} {a b c : Int} {σ : zS} (I : InvR K σ) : two (g_c_set a b c σ) (g_m_set a b c) (fun v w s => InvR K s ∧ v = w) := liftRg I (qs_set I.1) (hcRg (g_c_set_sp ((fun (s : zS) (h : InvS s) => h.1.1) σ I.1).1.1) (fun _ => ⟨rfl, rfl, rfl, rfl, rfl, rfl, rfl, rfl, rfl, rfl, rfl, rfl, rfl, rfl⟩)) (fun s h => (f_set h).imp (fun _ t g a j k => g a j (by unfold KRg at k; omega)))
theorem qr_get {K : Int} {a b : Int} {σ : zS} (I : InvR K σ) : two (g_c_get a b σ) (g_m_get a b) (fun _ _ s => InvR K s) := ft2 (liftRg I (tt2 (qs_get I.1)) (hpRg (g_c_get_sp ((fun (s : zS) (h : InvS s) => h.1.1) σ I.1).1.1)) (hmRg (fun _ h => m_get h)))
theorem qr_move {K : Int} {a b c d e : Int} {σ : zS} (hb : b < 2147483648) (hd : d < 2147483648) (I : InvR K σ) : two (g_c_move a b c d e σ) (g_m_move a b c d e) (fun v w s => InvR K s ∧ v = w) := liftRg I (qs_move hb hd I.1) (hcRg (g_c_move_sp ((fun (s : zS) (h : InvS s) => h.1.1) σ I.1).1.1) (fun _ => ⟨rfl, rfl, rfl, rfl, rfl, rfl, rfl, rfl, rfl, rfl, rfl, rfl, rfl, rfl⟩)) (fun s h => (f_move hb hd h).imp (fun _ t g a j k => g a j (by unfold KRg at k; omega)))
theorem qr_lay {K : Int} {a b : Int} {σ : zS} (hb : -2147483648 ≤ b ∧ b < 2147483648) (I : InvR K σ) : two (g_c_lay a b σ) (g_m_lay a b) (fun _ _ s => InvR K s) := ft2 (liftRg I (tt2 (qs_lay hb I.1)) (hcRg (g_c_lay_sp ((fun (s : zS) (h : InvS s) => h.1.1) σ I.1).1.1) (fun _ => ⟨rfl, rfl, rfl, rfl, rfl, rfl, rfl, rfl, rfl, rfl, rfl, rfl, rfl, rfl⟩)) (fun s h => (f_lay hb h).imp (fun _ t g a j k => g a j (by unfold KRg at k; omega))))
theorem qr_judge {K : Int} {a b : Int} {σ : zS} (hb : -2147483648 ≤ b ∧ b < 2147483648) (I : InvR K σ) : two (g_c_judge a b σ) (g_m_judge a b) (fun _ _ s => InvR K s) := ft2 (liftRg I (tt2 (qs_judge hb I.1)) (hpRg (g_c_judge_sp ((fun (s : zS) (h : InvS s) => h.1.1) σ I.1).1.1)) (hmRg (fun _ h => m_judge h hb)))
