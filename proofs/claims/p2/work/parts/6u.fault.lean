/-! A QUERY DONE by the reference leaves the fault as it was -/
theorem ord_same {v : Int} {σ : zS} : zP' (g_m_orderOf v σ) (fun _ s => s = σ) := by
  unfold g_m_orderOf g_m_rowAt
  simp only [Option.bind_some]
  exact zP'.gd (fun _ => zP'.gd (fun _ => zP'.ret rfl))
theorem ga_139 {a : Nat} {g : Int → Int → Int → zS → Option (Unit × zS)} {i t x4 x5 F : Int} {s : zS} (hg : ∀ s', frG s s' → s' 143 22 = s 143 22 → zP' (g i t (w32 (x4 + 1)) s') (fun _ u => u 143 22 = F)) : zP' (g_m_gathers_L139 a g i t x4 x5 s) (fun _ u => u 143 22 = F) := by
  unfold g_m_gathers_L139 g_m_gathers_L158
  refine zP'.gd (fun _ => ?_)
  try dsimp +instances only
  exact hg _ (fun a j k1 k2 k3 => by rw [zu_c (by omega), zu_c (by omega)]) (by rw [zu_i (by decide), zu_a (by decide)])
theorem ga_90 {a : Nat} {g : Int → Int → Int → zS → Option (Unit × zS)} {i t x4 F : Int} : ∀ (m : Nat) (x5 : Int) (s : zS), (∀ s', frG s s' → s' 143 22 = s 143 22 → zP' (g i t (w32 (x4 + 1)) s') (fun _ u => u 143 22 = F)) → zP' (g_m_gathers_L90 a g m i t x4 x5 s) (fun _ u => u 143 22 = F)
  | 0, _, _, _ => zP'.no
  | m + 1, x5, s, hg => by
    unfold g_m_gathers_L90
    refine zP'.ite (fun _ => ga_139 hg) (fun _ => zP'.gd (fun _ => ?_))
    try dsimp +instances only
    refine zP'.bind ord_same (fun o1 s1 p1 => ?_)
    try dsimp +instances only
    rw [p1]
    refine zP'.bind ord_same (fun o2 s2 p2 => ?_)
    try dsimp +instances only
    rw [p2]
    refine zP'.ite (fun _ => ga_139 hg) (fun _ => zP'.gd (fun _ => zP'.gd (fun _ => ?_)))
    try dsimp +instances only
    refine ga_90 m _ _ (fun s' f e => hg s' (fun a j k1 k2 k3 => (f a j k1 k2 k3).trans (zu_c (by omega))) (e.trans (zu_a (by decide))))
theorem ga_8 {t : Int} {σ0 : zS} (hev : t < 0 ∨ ∀ (s : zS) (r : Int), 0 ≤ r → r < 60 → frG σ0 s → zP' (g_grp231 zR 231 r (zu s 143 21 t)) (fun _ s' => fr3 (zu s 143 21 t) s' ∧ s' 143 22 = s 143 22)) : ∀ (n : Nat) (k : Nat) (s : zS), k ≤ 60 → frG σ0 s → zP' (g_m_gathers_L8 152 n 0 t (k : Int) s) (fun _ u => u 143 22 = s 143 22)
  | 0, _, _, _, _ => zP'.no
  | n + 1, k, s, hk, hf => by
    have l152 : zLI 152 = 4 := rfl
    have l167 : ∀ (m : Nat) (x : Int) (s : zS), zP' (g_m_gathers_L167 152 m x s) (fun _ u => u 143 22 = s 143 22) := by
      intro m
      induction m with
      | zero => exact fun _ _ => zP'.no
      | succ m ih =>
        intro x s
        unfold g_m_gathers_L167
        refine zP'.ite (fun _ => zP'.ret rfl) (fun _ => zP'.gd (fun _ => zP'.gd (fun _ => zP'.gd (fun _ => ?_))))
        try dsimp +instances only
        exact (ih _ _).imp (fun _ u e => e.trans (zu_a (by decide)))
    unfold g_m_gathers_L8
    refine zP'.ite (fun _ => l167 _ _ _) (fun c => ?_)
    have ek := w32_id (x := (k : Int) + 1) (by omega) (by omega)
    have rc : ∀ s', frG s s' → s' 143 22 = s 143 22 → zP' (g_m_gathers_L8 152 n 0 t (w32 ((k : Int) + 1)) s') (fun _ u => u 143 22 = s 143 22) := fun s' f e => by
      rw [ek, show (k : Int) + 1 = ((k + 1 : Nat) : Int) by omega]
      exact (ga_8 hev n (k + 1) s' (by omega) (hf.trans f)).imp (fun _ u h => h.trans e)
    rw [s_rowAt (by omega) (by omega)]
    rw [Option.bind_some]
    try dsimp +instances only
    refine zP'.gd (fun _ => ?_)
    unfold g_m_gathers_L158 g_m_gathers_L84
    refine zP'.ite (fun _ => rc s (frG.refl s) rfl) (fun _ => ?_)
    rw [s_rowAt (by omega) (by omega)]
    rw [Option.bind_some]
    try dsimp +instances only
    refine zP'.gd (fun _ => ?_)
    rw [s_rowAt (by omega) (by omega)]
    rw [Option.bind_some]
    try dsimp +instances only
    refine zP'.gd (fun _ => ?_)
    rw [s_has (by omega) (by rw [l152]; omega) (by rw [l152]; omega)]
    rw [Option.bind_some]
    try dsimp +instances only
    refine zP'.ite (fun _ => ?_) (fun _ => rc s (frG.refl s) rfl)
    have f21 : frG s (zu s 143 21 t) := fun a j k1 k2 k3 => zu_c (by omega)
    have e22 : zu s 143 21 t 143 22 = s 143 22 := zu_i (by decide)
    refine zP'.ite (fun _ => ga_90 _ _ _ (fun s' f e => rc s' (f21.trans f) (e.trans e22))) (fun c3 => ?_)
    have hv := (hev.resolve_left c3) s (k : Int) (by omega) (by omega) hf
    refine zP'.bind hv (fun b s2 p => ?_)
    obtain ⟨p1, p2⟩ := p
    have f2 : frG s s2 := f21.trans (fun a j k1 k2 k3 => p1 a j (by omega))
    try dsimp +instances only
    exact zP'.ite (fun _ => ga_90 _ _ _ (fun s' f e => rc s' (f2.trans f) (e.trans p2))) (fun _ => rc s2 f2 p2)
theorem ga_fault {t : Int} {σ : zS} (hev : t < 0 ∨ ∀ (s : zS) (r : Int), 0 ≤ r → r < 60 → frG σ s → zP' (g_grp231 zR 231 r (zu s 143 21 t)) (fun _ s' => fr3 (zu s 143 21 t) s' ∧ s' 143 22 = s 143 22)) : zP' (g_m_gathers 152 0 t σ) (fun _ u => u 143 22 = σ 143 22) := by
  unfold g_m_gathers
  try dsimp +instances only
  exact (ga_8 hev zK 0 (zu σ 143 14 0) (by omega) (fun a j k1 _ _ => zu_c (by omega))).imp (fun _ u e => e.trans (zu_i (by decide)))
