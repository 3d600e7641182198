/-! E OF THE CLASS: the rows for which it holds, as bits -/
def idxF (c : Int → Int) (x : Int) : Nat → Int → Int
  | 0, _ => -1
  | n + 1, i => if c i = x then i else idxF c x n (i + 1)
theorem p_idxL {a : Nat} {len x : Int} {σ : zS} (hl : len = zLI a) (hl2 : len ≤ 100) : ∀ (n d : Nat) (i : Int), 0 ≤ i → i + (d : Int) = len → zP' (g_jStringLatin1_indexOfChar_L7 a n len x i σ) (fun v s => s = σ ∧ v = idxF (zs0 a) x d i)
  | 0, _, _, _, _ => zP'.no
  | n + 1, d, i, h0, hd => by
    unfold g_jStringLatin1_indexOfChar_L7
    refine zP'.ite (fun c => zP'.ret ⟨rfl, ?_⟩) (fun c => ?_)
    · rw [show d = 0 by omega]
      rfl
    · obtain ⟨d, rfl⟩ : ∃ q, d = q + 1 := ⟨d - 1, by omega⟩
      refine zP'.gd (fun _ => ?_)
      try dsimp +instances only
      refine zP'.ite (fun c2 => ?_) (fun c2 => zP'.ret ⟨rfl, ?_⟩)
      · rw [w32_id (x := i + 1) (by omega) (by omega)]
        refine (p_idxL hl hl2 n d (i + 1) (by omega) (by omega)).imp (fun v s p => ⟨p.1, p.2.trans ?_⟩)
        exact (if_neg c2).symm
      · have c2 : zs0 a i = x := Classical.byContradiction (fun h => c2 h)
        exact (if_pos c2).symm
theorem p_idx {a Ln : Nat} (hw : swk a Ln) (h0 : 0 < Ln) {x : Int} {σ : zS} (hx : 0 ≤ x ∧ x ≤ 127) : zP' (g_jString_indexOf_295 a (w16 x) σ) (fun v s => s = σ ∧ v = idxF (zs0 (a + 18)) x Ln 0) := by
  obtain ⟨w1, w2, w3⟩ := hw
  have e16 : w16 x = x := by
    unfold w16
    omega
  have pass : ∀ {y : Option (Int × zS)} {Q : Int → zS → Prop}, zP' y Q → zP' (y.bind fun o => some (o.1, o.2)) Q := fun hy => zP'.bind hy (fun v s p => zP'.ret p)
  unfold g_jString_indexOf_295
  rw [e16]
  refine pass ?_
  unfold g_jString_indexOf_296
  have e : g_jString_isLatin1 a σ = some (1, σ) := by
    unfold g_jString_isLatin1
    rw [if_neg (by decide), if_neg (by decide)]
  rw [e]
  rw [Option.bind_some]
  try dsimp +instances only
  rw [if_neg (by decide), s_length w2]
  rw [Option.bind_some]
  try dsimp +instances only
  refine pass ?_
  unfold g_jStringLatin1_indexOf
  have e2 : g_jStringLatin1_canEncode_310 x σ = some (1, σ) := by
    unfold g_jStringLatin1_canEncode_310
    rw [if_neg (by omega), if_neg (by omega)]
  rw [e2]
  rw [Option.bind_some]
  try dsimp +instances only
  rw [if_pos (by decide)]
  have e3 : g_jMath_max_289 0 0 σ = some (0, σ) := rfl
  rw [e3]
  rw [Option.bind_some]
  try dsimp +instances only
  have e4 : g_jMath_min_291 (zLI (a + 18)) (zLI (a + 18)) σ = some (zLI (a + 18), σ) := by
    unfold g_jMath_min_291
    rw [if_neg (by omega)]
  rw [e4]
  rw [Option.bind_some]
  try dsimp +instances only
  rw [if_pos (by omega)]
  refine pass ?_
  unfold g_jStringLatin1_indexOfChar
  rw [w8_id (by omega) (by omega)]
  exact p_idxL rfl (by omega) zK Ln 0 (by omega) (by omega)
theorem swk6 : swk 6 4 := ⟨by decide +kernel, by decide +kernel, by decide⟩
theorem swk7 : swk 7 3 := ⟨by decide +kernel, by decide +kernel, by decide⟩
theorem idx6 {x : Int} : idxF (zs0 24) x 4 0 = if 119 = x then 0 else if 120 = x then 1 else if 121 = x then 2 else if 114 = x then 3 else -1 := by
  have h0 : zs0 24 0 = 119 := by decide +kernel
  have h1 : zs0 24 (0 + 1) = 120 := by decide +kernel
  have h2 : zs0 24 (0 + 1 + 1) = 121 := by decide +kernel
  have h3 : zs0 24 (0 + 1 + 1 + 1) = 114 := by decide +kernel
  unfold idxF idxF idxF idxF idxF
  rw [h0, h1, h2, h3]
  rfl
theorem idx7 {x : Int} : idxF (zs0 25) x 3 0 = if 60 = x then 0 else if 61 = x then 1 else if 62 = x then 2 else -1 := by
  have h0 : zs0 25 0 = 60 := by decide +kernel
  have h1 : zs0 25 (0 + 1) = 61 := by decide +kernel
  have h2 : zs0 25 (0 + 1 + 1) = 62 := by decide +kernel
  unfold idxF idxF idxF idxF
  rw [h0, h1, h2]
  rfl
theorem tpH_cT {σ : zS} (h : tpL σ) : tpH σ = if σ 120 2 < σ 120 1 then cT σ (σ 120 2) else 0 := by
  unfold tpH
  by_cases c : σ 120 2 < σ 120 1
  · rw [if_pos c, if_pos c]
    exact cT_e h.2.1.1 _ (Int.le_refl _) c
  · rw [if_neg c, if_neg c]
theorem tpH_rg {σ : zS} (h : tpL σ) : 0 ≤ tpH σ ∧ tpH σ ≤ 127 := by
  unfold tpH
  split
  · rename_i c
    have := h.2.2 _ h.2.1.1 c
    omega
  · omega
theorem c_oneOf {a Ln : Nat} (hw : swk a Ln) (h0 : 0 < Ln) {σ : zS} (h : tpL σ) (hs : σ 120 3 = -1) : zP' (g_ta_oneOf a σ) (fun v s => frTa σ s ∧ v = idxF (zs0 (a + 18)) (tpH σ) Ln 0 ∧ (0 ≤ v → s 120 2 = σ 120 2 + 1 ∧ s 120 3 = -1) ∧ (v < 0 → s 120 3 = σ 120 2)) := by
  have h1 := h.1
  have h2 := h.2.1
  unfold g_ta_oneOf
  rw [p_here h.i hs]
  rw [Option.bind_some]
  try dsimp +instances only
  refine zP'.bind (p_idx hw h0 (tpH_rg h)) (fun v s p => ?_)
  obtain ⟨p1, p2⟩ := p
  try dsimp +instances only
  rw [p1]
  refine zP'.ite (fun c => ?_) (fun c => ?_)
  · rw [w32_id (x := σ 120 2 + 1) (by omega) (by omega)]
    exact zP'.ret ⟨frTa.u (Or.inl rfl), p2, fun _ => ⟨zu_e rfl, (zu_i (by decide)).trans hs⟩, fun k => absurd c (by omega)⟩
  · rw [p_blame, if_pos hs]
    rw [Option.bind_some]
    exact zP'.ret ⟨frTa.u (Or.inr rfl), p2, fun k => absurd k c, fun _ => by dsimp only; exact zu_e rfl⟩
theorem c_ltr {σ : zS} (h : tpL σ) (hs : σ 120 3 = -1) : zP' (g_ta_oneOf 6 σ) (cPo σ (ltrR (cT σ) (σ 120 1) (σ 120 2))) := by
  refine (c_oneOf swk6 (by decide) h hs).imp (fun v s p => ?_)
  obtain ⟨p1, p2, p3, p4⟩ := p
  have p2 : v = idxF (zs0 24) (tpH σ) 4 0 := p2
  rw [idx6, tpH_cT h] at p2
  unfold ltrR
  by_cases c : σ 120 2 < σ 120 1
  · rw [if_pos c] at p2 ⊢
    by_cases c1 : cT σ (σ 120 2) = 119
    · rw [if_pos c1.symm] at p2
      rw [if_pos c1]
      exact ⟨p1, p2, p3 (by omega)⟩
    · rw [if_neg (fun e => c1 e.symm)] at p2
      rw [if_neg c1]
      by_cases c2 : cT σ (σ 120 2) = 120
      · rw [if_pos c2.symm] at p2
        rw [if_pos c2]
        exact ⟨p1, p2, p3 (by omega)⟩
      · rw [if_neg (fun e => c2 e.symm)] at p2
        rw [if_neg c2]
        by_cases c3 : cT σ (σ 120 2) = 121
        · rw [if_pos c3.symm] at p2
          rw [if_pos c3]
          exact ⟨p1, p2, p3 (by omega)⟩
        · rw [if_neg (fun e => c3 e.symm)] at p2
          rw [if_neg c3]
          by_cases c4 : cT σ (σ 120 2) = 114
          · rw [if_pos c4.symm] at p2
            rw [if_pos c4]
            exact ⟨p1, p2, p3 (by omega)⟩
          · rw [if_neg (fun e => c4 e.symm)] at p2
            rw [if_neg c4]
            exact ⟨p1, p4 (by omega)⟩
  · rw [if_neg c] at p2 ⊢
    rw [if_neg (by decide), if_neg (by decide), if_neg (by decide), if_neg (by decide)] at p2
    exact ⟨p1, p4 (by omega)⟩
theorem c_cmp {σ : zS} (h : tpL σ) (hs : σ 120 3 = -1) : zP' (g_ta_oneOf 7 σ) (cPo σ (cmpR (cT σ) (σ 120 1) (σ 120 2))) := by
  refine (c_oneOf swk7 (by decide) h hs).imp (fun v s p => ?_)
  obtain ⟨p1, p2, p3, p4⟩ := p
  have p2 : v = idxF (zs0 25) (tpH σ) 3 0 := p2
  rw [idx7, tpH_cT h] at p2
  unfold cmpR
  by_cases c : σ 120 2 < σ 120 1
  · rw [if_pos c] at p2 ⊢
    by_cases c1 : cT σ (σ 120 2) = 60
    · rw [if_pos c1.symm] at p2
      rw [if_pos c1]
      exact ⟨p1, p2, p3 (by omega)⟩
    · rw [if_neg (fun e => c1 e.symm)] at p2
      rw [if_neg c1]
      by_cases c2 : cT σ (σ 120 2) = 61
      · rw [if_pos c2.symm] at p2
        rw [if_pos c2]
        exact ⟨p1, p2, p3 (by omega)⟩
      · rw [if_neg (fun e => c2 e.symm)] at p2
        rw [if_neg c2]
        by_cases c3 : cT σ (σ 120 2) = 62
        · rw [if_pos c3.symm] at p2
          rw [if_pos c3]
          exact ⟨p1, p2, p3 (by omega)⟩
        · rw [if_neg (fun e => c3 e.symm)] at p2
          rw [if_neg c3]
          exact ⟨p1, p4 (by omega)⟩
  · rw [if_neg c] at p2 ⊢
    rw [if_neg (by decide), if_neg (by decide), if_neg (by decide)] at p2
    exact ⟨p1, p4 (by omega)⟩
theorem c_oneOf0 {a Ln : Nat} (hw : swk a Ln) (h0 : 0 < Ln) (hz : idxF (zs0 (a + 18)) 0 Ln 0 < 0) {σ : zS} (hs : σ 120 3 ≠ -1) : zP' (g_ta_oneOf a σ) (fun _ s => s = σ) := by
  unfold g_ta_oneOf
  rw [p_here0 hs]
  rw [Option.bind_some]
  try dsimp +instances only
  refine zP'.bind (p_idx hw h0 (x := 0) (by decide)) (fun v s p => ?_)
  obtain ⟨p1, p2⟩ := p
  try dsimp +instances only
  rw [p1, if_neg (by omega), p_blame0 hs]
  rw [Option.bind_some]
  exact zP'.ret rfl
/-! rows by their letters -/
def cev (σ : zS) (l r : Int) : Int := if l = 0 then σ 44 r else if l = 1 then σ 42 r else if l = 2 then σ 43 r else r
theorem p_read {r l : Int} {σ : zS} (hr : 0 ≤ r ∧ r < 60) : g_so_read r l σ = some (cev σ l r, σ) := by
  unfold g_so_read cev
  rw [if_neg (by omega), if_pos hr.2]
  by_cases c0 : l = 0
  · rw [if_pos c0, if_pos c0, if_pos hr]
  · rw [if_neg c0, if_neg c0]
    by_cases c1 : l = 1
    · rw [if_pos c1, if_pos c1, if_pos hr]
    · rw [if_neg c1, if_neg c1]
      by_cases c2 : l = 2
      · rw [if_pos c2, if_pos c2, if_pos hr]
      · rw [if_neg c2, if_neg c2]
theorem p_cmp {a b : Int} {σ : zS} : g_jLong_compare a b σ = some (if a < b then -1 else if a = b then 0 else 1, σ) := by
  unfold g_jLong_compare
  by_cases c : a < b
  · rw [if_pos c, if_neg (fun h => lCmp_0.mp h c)]
  · rw [if_neg c, if_pos (lCmp_0.mpr c)]
    by_cases c2 : a = b
    · rw [if_pos c2, if_neg (fun h => h (lCmp_eq.mpr c2))]
    · rw [if_neg c2, if_pos (fun h => c2 (lCmp_eq.mp h))]
def rwF (σ : zS) (l c v : Int) (q : Nat) : Nat → Int → Bool
  | 0, _ => false
  | d + 1, i => (decide (σ 45 i = (q : Int)) && cmpB c (cev σ l (q : Int)) v) || rwF σ l c v q d (i + 1)
theorem p_rows6 {l c v : Int} {C : Nat} {σ : zS} (hC : σ 41 4 = (C : Int)) (hc : 0 ≤ c ∧ c ≤ 2) (hv : ∀ j : Nat, (j : Int) < σ 41 4 → 0 ≤ σ 45 (j : Int) ∧ σ 45 (j : Int) < 60) : ∀ (n d : Nat) (y i : Int), 0 ≤ i → i + (d : Int) = (C : Int) → zP' (g_so_rowsWith_L6 n l c v y i σ) (fun w s => s = σ ∧ ∀ q : Nat, q < 60 → bq w q = (bq y q || rwF σ l c v q d i))
  | 0, _, _, _, _, _ => zP'.no
  | n + 1, d, y, i, h0, hd => by
    unfold g_so_rowsWith_L6
    try dsimp +instances only
    rw [hC]
    refine zP'.ite (fun c1 => zP'.ret ⟨rfl, fun q hq => ?_⟩) (fun c1 => ?_)
    · rw [show d = 0 by omega]
      exact (Bool.or_false _).symm
    · obtain ⟨d, rfl⟩ : ∃ q, d = q + 1 := ⟨d - 1, by omega⟩
      refine zP'.gd (fun c2 => ?_)
      have hr := hv i.toNat (by omega)
      rw [show ((i.toNat : Nat) : Int) = i by omega] at hr
      try dsimp +instances only
      rw [p_read hr]
      rw [Option.bind_some]
      try dsimp +instances only
      rw [p_cmp]
      rw [Option.bind_some]
      try dsimp +instances only
      have ei := w32_id (x := i + 1) (by omega) (by omega)
      have key : w32 (1 + if cev σ l (σ 45 i) < v then -1 else if cev σ l (σ 45 i) = v then 0 else 1) = c ↔ cmpB c (cev σ l (σ 45 i)) v = true := by
        unfold cmpB
        by_cases k1 : cev σ l (σ 45 i) < v
        · rw [if_pos k1]
          have e : w32 (1 + -1) = 0 := by decide
          rw [e]
          by_cases k2 : c = 0
          · rw [if_pos k2, decide_eq_true k1]
            exact ⟨fun _ => rfl, fun _ => k2.symm⟩
          · rw [if_neg k2]
            by_cases k3 : c = 1
            · rw [if_pos k3, decide_eq_false (by omega)]
              exact ⟨fun e => absurd e.symm k2, fun e => by cases e⟩
            · rw [if_neg k3, decide_eq_false (by omega)]
              exact ⟨fun e => absurd e.symm k2, fun e => by cases e⟩
        · rw [if_neg k1]
          by_cases k2 : cev σ l (σ 45 i) = v
          · rw [if_pos k2]
            have e : w32 (1 + 0) = 1 := by decide
            rw [e]
            by_cases k3 : c = 0
            · rw [if_pos k3, decide_eq_false k1]
              exact ⟨fun e => by omega, fun e => by cases e⟩
            · rw [if_neg k3]
              by_cases k4 : c = 1
              · rw [if_pos k4, decide_eq_true k2]
                exact ⟨fun _ => rfl, fun _ => k4.symm⟩
              · rw [if_neg k4, decide_eq_false (by omega)]
                exact ⟨fun e => absurd e.symm k4, fun e => by cases e⟩
          · rw [if_neg k2]
            have e : w32 (1 + 1) = 2 := by decide
            rw [e]
            by_cases k3 : c = 0
            · rw [if_pos k3, decide_eq_false k1]
              exact ⟨fun e => by omega, fun e => by cases e⟩
            · rw [if_neg k3]
              by_cases k4 : c = 1
              · rw [if_pos k4, decide_eq_false k2]
                exact ⟨fun e => by omega, fun e => by cases e⟩
              · rw [if_neg k4, decide_eq_true (by omega)]
                exact ⟨fun _ => rfl, fun _ => by omega⟩
      have stepF : ∀ q : Nat, rwF σ l c v q (d + 1) i = ((decide (σ 45 i = (q : Int)) && cmpB c (cev σ l (q : Int)) v) || rwF σ l c v q d (i + 1)) := fun _ => rfl
      refine zP'.ite (fun k => ?_) (fun k => ?_)
      · unfold g_so_rowsWith_L51
        rw [ei]
        refine (p_rows6 hC hc hv n d y (i + 1) (by omega) (by omega)).imp (fun w s p => ⟨p.1, fun q hq => ?_⟩)
        rw [p.2 q hq, stepF]
        by_cases cq : σ 45 i = (q : Int)
        · have : cmpB c (cev σ l (q : Int)) v = false := by
            rw [← cq]
            exact Bool.eq_false_iff.mpr (fun h => k (key.mpr h))
          rw [this, Bool.and_false, Bool.false_or]
        · rw [decide_eq_false cq, Bool.false_and, Bool.false_or]
      · have k := key.mp (Classical.byContradiction (fun h => k h))
        unfold g_so_rowsWith_L51
        rw [ei]
        refine (p_rows6 hC hc hv n d _ (i + 1) (by omega) (by omega)).imp (fun w s p => ⟨p.1, fun q hq => ?_⟩)
        rw [p.2 q hq, stepF, bq_or]
        obtain ⟨r, hr'⟩ : ∃ r : Nat, σ 45 i = (r : Int) := ⟨(σ 45 i).toNat, by omega⟩
        rw [hr'] at k ⊢
        rw [bq_bit (by omega), Bool.or_assoc]
        by_cases cq : q = r
        · subst cq
          rw [k, decide_eq_true rfl, decide_eq_true rfl]
          rfl
        · rw [decide_eq_false cq, decide_eq_false (by omega), Bool.false_and]
theorem rwF_mem {σ : zS} {l c v : Int} {q : Nat} : ∀ (d : Nat) (i : Int), rwF σ l c v q d i = true ↔ cmpB c (cev σ l (q : Int)) v = true ∧ (q : Int) ∈ sg (σ 45) i d
  | 0, i => ⟨fun h => (by cases h), fun h => (by cases h.2)⟩
  | d + 1, i => by
    show ((decide (σ 45 i = (q : Int)) && cmpB c (cev σ l (q : Int)) v) || rwF σ l c v q d (i + 1)) = true ↔ cmpB c (cev σ l (q : Int)) v = true ∧ (q : Int) ∈ σ 45 i :: sg (σ 45) (i + 1) d
    rw [Bool.or_eq_true, Bool.and_eq_true, rwF_mem d (i + 1), decide_eq_true_iff, List.mem_cons]
    constructor
    · rintro (⟨h1, h2⟩ | ⟨h1, h2⟩)
      · exact ⟨h2, Or.inl h1.symm⟩
      · exact ⟨h1, Or.inr h2⟩
    · rintro ⟨h1, h2 | h2⟩
      · exact Or.inl ⟨h2.symm, h1⟩
      · exact Or.inr ⟨h1, h2⟩
theorem p_rows {l c v : Int} {I : Nat → Bool} {σ : zS} (H : CI σ) (S : ST σ 41 I) (hc : 0 ≤ c ∧ c ≤ 2) : zP' (g_so_rowsWith l c v σ) (fun w s => s = σ ∧ ∀ q : Nat, q < 60 → I q = true → bq w q = cmpB c (cev σ l (q : Int)) v) := by
  have h4 := CI.c4 (a := 41) H (by omega)
  unfold g_so_rowsWith
  refine (p_rows6 (C := (σ 41 4).toNat) (by omega) hc (ST_val S) zK (σ 41 4).toNat 0 0 (by omega) (by omega)).imp (fun w s p => ⟨p.1, fun q hq hI => ?_⟩)
  rw [p.2 q hq, bq_0, Bool.false_or]
  have hm : (q : Int) ∈ sg (σ 45) 0 (σ 41 4).toNat := (S.2.2.2 (q : Int)).mpr ⟨q, rfl, hI⟩
  cases e : cmpB c (cev σ l (q : Int)) v with
  | true => exact (rwF_mem _ _).mpr ⟨e, hm⟩
  | false => exact Bool.eq_false_iff.mpr (fun h => by
      have := ((rwF_mem _ _).mp h).1
      rw [e] at this
      cases this)
theorem p_rows0 {l c v : Int} {σ : zS} : zP' (g_so_rowsWith l c v σ) (fun _ s => s = σ) := by
  have lp : ∀ (n : Nat) (y i : Int), zP' (g_so_rowsWith_L6 n l c v y i σ) (fun _ s => s = σ) := by
    intro n
    induction n with
    | zero => exact fun _ _ => zP'.no
    | succ n ih =>
      intro y i
      unfold g_so_rowsWith_L6 g_so_rowsWith_L51
      refine zP'.ite (fun _ => zP'.ret rfl) (fun _ => zP'.gd (fun _ => ?_))
      try dsimp +instances only
      refine zP'.bind (P := fun _ s => s = σ) ?_ (fun a s p => ?_)
      · unfold g_so_read
        refine zP'.ite (fun _ => zP'.ret rfl) (fun _ => zP'.ite (fun _ => ?_) (fun _ => zP'.ret rfl))
        exact zP'.ite (fun _ => zP'.gd (fun _ => zP'.ret rfl)) (fun _ => zP'.ite (fun _ => zP'.gd (fun _ => zP'.ret rfl)) (fun _ => zP'.ite (fun _ => zP'.gd (fun _ => zP'.ret rfl)) (fun _ => zP'.ret rfl)))
      · try dsimp +instances only
        rw [p, p_cmp]
        rw [Option.bind_some]
        try dsimp +instances only
        exact zP'.ite (fun _ => ih _ _) (fun _ => ih _ _)
  exact lp zK 0 0
