/-! READING THE TAPE: words, told once for both sides -/
def wend (f : Int → Int) (L : Int) : Nat → Int → Int
  | 0, p => p
  | n + 1, p => if p < L ∧ 97 ≤ f p ∧ f p ≤ 122 then wend f L n (p + 1) else p
theorem wend_le {f : Int → Int} {L : Int} : ∀ (n : Nat) (p : Int), p ≤ wend f L n p
  | 0, p => Int.le_refl p
  | n + 1, p => by
    show p ≤ (if p < L ∧ 97 ≤ f p ∧ f p ≤ 122 then wend f L n (p + 1) else p)
    split
    · have := wend_le (f := f) (L := L) n (p + 1)
      omega
    · exact Int.le_refl p
theorem wend_L {f : Int → Int} {L : Int} : ∀ (n : Nat) (p : Int), p ≤ L → wend f L n p ≤ L
  | 0, p, h => h
  | n + 1, p, h => by
    show (if p < L ∧ 97 ≤ f p ∧ f p ≤ 122 then wend f L n (p + 1) else p) ≤ L
    split
    · rename_i c
      exact wend_L n (p + 1) (by omega)
    · exact h
theorem wend_ext {f g : Int → Int} {L : Int} : ∀ (n : Nat) (p : Int), (∀ j, p ≤ j → j < L → f j = g j) → wend f L n p = wend g L n p
  | 0, _, _ => rfl
  | n + 1, p, h => by
    show (if p < L ∧ 97 ≤ f p ∧ f p ≤ 122 then wend f L n (p + 1) else p) = (if p < L ∧ 97 ≤ g p ∧ g p ≤ 122 then wend g L n (p + 1) else p)
    by_cases c : p < L
    · rw [h p (Int.le_refl p) c, wend_ext n (p + 1) (fun j h1 h2 => h j (by omega) h2)]
    · rw [if_neg (fun e => c e.1), if_neg (fun e => c e.1)]
/-- n signs of a row from i on are those of the tape from b on -/
def wsm (c f : Int → Int) : Nat → Int → Int → Bool
  | 0, _, _ => true
  | n + 1, b, i => decide (f b = c i) && wsm c f n (b + 1) (i + 1)
theorem wsm_ext {c c' f g : Int → Int} : ∀ (n : Nat) (b i : Int), (∀ j, b ≤ j → j < b + (n : Int) → f j = g j) → (∀ j, i ≤ j → j < i + (n : Int) → c j = c' j) → wsm c f n b i = wsm c' g n b i
  | 0, _, _, _, _ => rfl
  | n + 1, b, i, h, h2 => by
    show (decide (f b = c i) && wsm c f n (b + 1) (i + 1)) = (decide (g b = c' i) && wsm c' g n (b + 1) (i + 1))
    rw [h b (by omega) (by omega), h2 i (by omega) (by omega), wsm_ext n (b + 1) (i + 1) (fun j h3 h4 => h j (by omega) (by omega)) (fun j h3 h4 => h2 j (by omega) (by omega))]
def wsE (c f : Int → Int) (b e st i : Int) : Bool := decide (e - b = i - st) && wsm c f (i - st).toNat b st
/-- which word of a row of n signs more, from i on, the word begun at st, the which-th -/
def wordG (c f : Int → Int) (b e : Int) : Nat → Int → Int → Int → Int
  | 0, i, st, w => if wsE c f b e st i = true then w else -1
  | n + 1, i, st, w => if c i = 32 then (if wsE c f b e st i = true then w else wordG c f b e n (i + 1) (i + 1) (w + 1)) else wordG c f b e n (i + 1) st w
def wordV (a Ln : Nat) (f : Int → Int) (L p : Int) : Int := wordG (charC a) f p (wend f L 160 p) Ln 0 0 0
theorem wordG_ge {c f : Int → Int} {b e : Int} : ∀ (n : Nat) (i st w : Int), wordG c f b e n i st w = -1 ∨ w ≤ wordG c f b e n i st w
  | 0, i, st, w => by
    show (if wsE c f b e st i = true then w else -1) = -1 ∨ w ≤ (if wsE c f b e st i = true then w else -1)
    split
    · exact Or.inr (Int.le_refl w)
    · exact Or.inl rfl
  | n + 1, i, st, w => by
    show (if c i = 32 then (if wsE c f b e st i = true then w else wordG c f b e n (i + 1) (i + 1) (w + 1)) else wordG c f b e n (i + 1) st w) = -1 ∨ w ≤ (if c i = 32 then (if wsE c f b e st i = true then w else wordG c f b e n (i + 1) (i + 1) (w + 1)) else wordG c f b e n (i + 1) st w)
    split
    · split
      · exact Or.inr (Int.le_refl w)
      · rcases wordG_ge (c := c) (f := f) (b := b) (e := e) n (i + 1) (i + 1) (w + 1) with h | h
        · exact Or.inl h
        · exact Or.inr (by omega)
    · exact wordG_ge n (i + 1) st w
theorem wordG_ext {c c' f g : Int → Int} {b e : Int} (h : ∀ j, b ≤ j → j < e → f j = g j) : ∀ (n : Nat) (i st w : Int), st ≤ i → (∀ j, st ≤ j → j < i + (n : Int) → c j = c' j) → wordG c f b e n i st w = wordG c' g b e n i st w := by
  have hE : ∀ st i : Int, st ≤ i → (∀ j, st ≤ j → j < i → c j = c' j) → wsE c f b e st i = wsE c' g b e st i := fun st i hs h2 => by
    unfold wsE
    by_cases ce : e - b = i - st
    · rw [wsm_ext (i - st).toNat b st (fun j h3 h4 => h j h3 (by omega)) (fun j h3 h4 => h2 j h3 (by omega))]
    · rw [decide_eq_false ce, Bool.false_and, Bool.false_and]
  intro n
  induction n with
  | zero =>
    intro i st w hs h2
    show (if wsE c f b e st i = true then w else -1) = (if wsE c' g b e st i = true then w else -1)
    rw [hE st i hs (fun j h3 h4 => h2 j h3 (by omega))]
  | succ n ih =>
    intro i st w hs h2
    show (if c i = 32 then (if wsE c f b e st i = true then w else wordG c f b e n (i + 1) (i + 1) (w + 1)) else wordG c f b e n (i + 1) st w) = (if c' i = 32 then (if wsE c' g b e st i = true then w else wordG c' g b e n (i + 1) (i + 1) (w + 1)) else wordG c' g b e n (i + 1) st w)
    rw [hE st i hs (fun j h3 h4 => h2 j h3 (by omega)), h2 i hs (by omega), ih (i + 1) (i + 1) (w + 1) (Int.le_refl _) (fun j h3 h4 => h2 j (by omega) (by omega)), ih (i + 1) st w (by omega) (fun j h3 h4 => h2 j h3 (by omega))]
theorem wordV_ext {a a' Ln : Nat} {f g : Int → Int} {L p : Int} (hp : p ≤ L) (h : ∀ j, p ≤ j → j < L → f j = g j) (hc : ∀ j : Int, 0 ≤ j → j < (Ln : Int) → charC a j = charC a' j) : wordV a Ln f L p = wordV a' Ln g L p := by
  unfold wordV
  rw [wend_ext 160 p h]
  exact wordG_ext (fun j h1 h2 => h j h1 (by have := wend_L (f := g) (L := L) 160 p hp; omega)) Ln 0 0 0 (Int.le_refl 0) (fun j h1 h2 => hc j h1 (by omega))
/-- the tape of the class, its place not behind its end -/
def tpL (σ : zS) : Prop := (0 ≤ σ 120 1 ∧ σ 120 1 ≤ 160) ∧ (0 ≤ σ 120 2 ∧ σ 120 2 ≤ σ 120 1) ∧ ∀ j : Int, 0 ≤ j → j < σ 120 1 → 1 ≤ σ 121 j ∧ σ 121 j ≤ 127
theorem tpL.i {σ : zS} (h : tpL σ) : tpI σ := ⟨h.1, ⟨h.2.1.1, Int.le_trans h.2.1.2 h.1.2⟩, h.2.2⟩
theorem tpL.mv {σ s : zS} (h : tpL σ) (e : frTa σ s) (h2 : 0 ≤ s 120 2 ∧ s 120 2 ≤ σ 120 1) : tpL s := by
  have e1 : s 120 1 = σ 120 1 := e 120 1 (Or.inr (by decide))
  have e2 : s 121 = σ 121 := funext (fun j => e 121 j (Or.inl (by decide)))
  unfold tpL
  rw [e1, e2]
  exact ⟨h.1, h2, h.2.2⟩
/-! the class's word -/
def swk (a Ln : Nat) : Prop := zLI (a + 18) = (Ln : Int) ∧ iShr (zLI (a + 18)) 0 = zLI (a + 18) ∧ Ln ≤ 100
theorem p_same40 {a Ln : Nat} (hw : swk a Ln) {i j b : Int} {σ : zS} (hi : 0 ≤ i ∧ i ≤ j ∧ j ≤ (Ln : Int)) (hb : 0 ≤ b ∧ b + (j - i) ≤ 160) : ∀ (n k : Nat), (k : Int) ≤ j - i → zP' (g_ta_isSame_L40 a n i j b (k : Int) σ) (fun v s => s = σ ∧ v = bI (wsm (charC a) (σ 121) (j - i - (k : Int)).toNat (b + (k : Int)) (i + (k : Int))))
  | 0, _, _ => zP'.no
  | n + 1, k, hk => by
    obtain ⟨w1, w2, w3⟩ := hw
    unfold g_ta_isSame_L40
    rw [w32_id (x := j - i) (by omega) (by omega)]
    refine zP'.ite (fun c => zP'.ret ⟨rfl, ?_⟩) (fun c => ?_)
    · rw [show (j - i - (k : Int)).toNat = 0 by omega]
      rfl
    · obtain ⟨m, hm⟩ : ∃ m, (j - i - (k : Int)).toNat = m + 1 := ⟨(j - i - (k : Int)).toNat - 1, by omega⟩
      have hm2 : (j - i - ((k + 1 : Nat) : Int)).toNat = m := by omega
      rw [s_length w2]
      rw [Option.bind_some]
      try dsimp +instances only
      rw [w32_id (x := i + (k : Int)) (by omega) (by omega), if_neg (by omega)]
      refine zP'.gd (fun _ => ?_)
      try dsimp +instances only
      rw [w32_id (x := b + (k : Int)) (by omega) (by omega), s_charAt (by omega)]
      rw [Option.bind_some]
      try dsimp +instances only
      rw [hm]
      refine zP'.ite (fun c2 => ?_) (fun c2 => zP'.ret ⟨rfl, ?_⟩)
      · rw [w32_id (x := (k : Int) + 1) (by omega) (by omega), show (k : Int) + 1 = ((k + 1 : Nat) : Int) by omega]
        refine (p_same40 ⟨w1, w2, w3⟩ hi hb n (k + 1) (by omega)).imp (fun v s p => ⟨p.1, ?_⟩)
        rw [p.2, hm2]
        show _ = bI (decide (σ 121 (b + (k : Int)) = charC a (i + (k : Int))) && wsm (charC a) (σ 121) m (b + (k : Int) + 1) (i + (k : Int) + 1))
        rw [decide_eq_true c2, Bool.true_and, show b + ((k + 1 : Nat) : Int) = b + (k : Int) + 1 by omega, show i + ((k + 1 : Nat) : Int) = i + (k : Int) + 1 by omega]
      · show 0 = bI (decide (σ 121 (b + (k : Int)) = charC a (i + (k : Int))) && wsm (charC a) (σ 121) m (b + (k : Int) + 1) (i + (k : Int) + 1))
        rw [decide_eq_false c2, Bool.false_and]
        rfl
theorem p_same {a Ln : Nat} (hw : swk a Ln) {i j b : Int} {σ : zS} (hs : σ 120 3 = -1) (hi : 0 ≤ i ∧ i ≤ j ∧ j ≤ (Ln : Int)) (hb : 0 ≤ b ∧ b ≤ σ 120 2 ∧ σ 120 2 ≤ 160) : zP' (g_ta_isSame a i j b σ) (fun v s => s = σ ∧ v = bI (wsE (charC a) (σ 121) b (σ 120 2) i j)) := by
  have w3 := hw.2.2
  unfold g_ta_isSame
  have e : g_ta_isSound σ = some (1, σ) := by
    unfold g_ta_isSound
    exact if_neg (fun h => h hs)
  rw [e]
  rw [Option.bind_some]
  try dsimp +instances only
  rw [if_neg (by decide), if_neg (by omega), if_neg (by omega), w32_id (x := σ 120 2 - b) (by omega) (by omega), w32_id (x := j - i) (by omega) (by omega)]
  unfold wsE
  refine zP'.ite (fun c => ?_) (fun c => zP'.ret ⟨rfl, ?_⟩)
  · refine (p_same40 hw (σ := σ) (i := i) (j := j) (b := b) hi ⟨hb.1, by omega⟩ zK 0 (by omega)).imp (fun v s p => ⟨p.1, ?_⟩)
    rw [p.2, decide_eq_true c, Bool.true_and, show j - i - ((0 : Nat) : Int) = j - i by omega, show b + ((0 : Nat) : Int) = b by omega, show i + ((0 : Nat) : Int) = i by omega]
  · rw [decide_eq_false c, Bool.false_and]
    rfl
theorem p_word56 {a Ln : Nat} (hw : swk a Ln) {b : Int} {σ : zS} (hs : σ 120 3 = -1) (hb : 0 ≤ b ∧ b ≤ σ 120 2 ∧ σ 120 2 ≤ 160) : ∀ (n d : Nat) (w st i : Int), 0 ≤ st ∧ st ≤ i → i + (d : Int) = (Ln : Int) → 0 ≤ w ∧ w ≤ i → zP' (g_ta_word_L56 a n b w st i σ) (fun v s => v = wordG (charC a) (σ 121) b (σ 120 2) d i st w ∧ (v = -1 → s = zu σ 120 3 b) ∧ (v ≠ -1 → s = σ))
  | 0, _, _, _, _, _, _, _ => zP'.no
  | n + 1, d, w, st, i, hst, hi, hwh => by
    have w1 := hw.1
    have w2 := hw.2.1
    have w3 := hw.2.2
    have stop : ∀ (w' st' i' : Int), (Ln : Int) < i' → zP' (g_ta_word_L56 a n b w' st' i' σ) (fun v s => v = -1 ∧ s = zu σ 120 3 b) := fun w' st' i' hh => by
      cases n with
      | zero => exact zP'.no
      | succ n =>
        unfold g_ta_word_L56
        rw [s_length w2]
        rw [Option.bind_some]
        try dsimp +instances only
        rw [if_pos (by omega), p_blame, if_pos hs]
        rw [Option.bind_some]
        exact zP'.ret ⟨rfl, rfl⟩
    unfold g_ta_word_L56
    rw [s_length w2]
    rw [Option.bind_some]
    try dsimp +instances only
    rw [if_neg (by omega), s_length w2]
    rw [Option.bind_some]
    try dsimp +instances only
    have es := w32_id (x := i + 1) (by omega) (by omega)
    have ew := w32_id (x := w + 1) (by omega) (by omega)
    cases d with
    | zero =>
      rw [if_pos (by omega)]
      unfold g_ta_word_L85
      refine zP'.bind (p_same hw hs (i := st) (j := i) (b := b) ⟨hst.1, hst.2, by omega⟩ hb) (fun v s p => ?_)
      obtain ⟨p1, p2⟩ := p
      try dsimp +instances only
      rw [p1, p2]
      show zP' _ (fun v s => v = (if wsE (charC a) (σ 121) b (σ 120 2) st i = true then w else -1) ∧ (v = -1 → s = zu σ 120 3 b) ∧ (v ≠ -1 → s = σ))
      cases hE : wsE (charC a) (σ 121) b (σ 120 2) st i with
      | true =>
        rw [if_neg (by decide), if_pos rfl]
        exact zP'.ret ⟨rfl, fun h => by omega, fun _ => rfl⟩
      | false =>
        rw [if_pos (by decide), if_neg (by decide)]
        unfold g_ta_word_L109
        rw [es, ew]
        exact (stop (w + 1) (i + 1) (i + 1) (by omega)).imp (fun v s q => ⟨q.1, fun _ => q.2, fun h => absurd q.1 h⟩)
    | succ d =>
      rw [if_neg (by omega), s_charAt (by omega)]
      rw [Option.bind_some]
      try dsimp +instances only
      show zP' _ (fun v s => v = (if charC a i = 32 then (if wsE (charC a) (σ 121) b (σ 120 2) st i = true then w else wordG (charC a) (σ 121) b (σ 120 2) d (i + 1) (i + 1) (w + 1)) else wordG (charC a) (σ 121) b (σ 120 2) d (i + 1) st w) ∧ (v = -1 → s = zu σ 120 3 b) ∧ (v ≠ -1 → s = σ))
      refine zP'.ite (fun c => ?_) (fun c => ?_)
      · rw [if_neg c]
        unfold g_ta_word_L109
        rw [es]
        exact p_word56 hw hs hb n d w st (i + 1) ⟨hst.1, by omega⟩ (by omega) ⟨hwh.1, by omega⟩
      · have c : charC a i = 32 := Classical.byContradiction (fun h => c h)
        rw [if_pos c]
        unfold g_ta_word_L85
        refine zP'.bind (p_same hw hs (i := st) (j := i) (b := b) ⟨hst.1, hst.2, by omega⟩ hb) (fun v s p => ?_)
        obtain ⟨p1, p2⟩ := p
        try dsimp +instances only
        rw [p1, p2]
        cases hE : wsE (charC a) (σ 121) b (σ 120 2) st i with
        | true =>
          rw [if_neg (by decide), if_pos rfl]
          exact zP'.ret ⟨rfl, fun h => by omega, fun _ => rfl⟩
        | false =>
          rw [if_pos (by decide), if_neg (by decide)]
          unfold g_ta_word_L109
          rw [es, ew]
          exact p_word56 hw hs hb n d (w + 1) (i + 1) (i + 1) ⟨by omega, by omega⟩ (by omega) ⟨by omega, by omega⟩
theorem p_word7 {a : Nat} {b : Int} {Q : Int → zS → Prop} : ∀ (n k : Nat) (σ : zS), tpL σ → σ 120 3 = -1 → k ≤ 160 → (∀ s, frTa σ s → s 120 3 = -1 → s 120 2 = wend (σ 121) (σ 120 1) (160 - k) (σ 120 2) → zP' (g_ta_word_L48 a b s) Q) → zP' (g_ta_word_L7 a n b (k : Int) σ) Q
  | 0, _, _, _, _, _, _ => zP'.no
  | n + 1, k, σ, h, hs, hk, kk => by
    have fin : wend (σ 121) (σ 120 1) (160 - k) (σ 120 2) = σ 120 2 → zP' (g_ta_word_L48 a b σ) Q := fun e => kk σ (frTa.refl σ) hs e.symm
    unfold g_ta_word_L7
    refine zP'.ite (fun c => fin (by rw [show 160 - k = 0 by omega]; rfl)) (fun c => ?_)
    obtain ⟨m, hm⟩ : ∃ m, 160 - k = m + 1 := ⟨160 - k - 1, by omega⟩
    have hm2 : 160 - (k + 1) = m := by omega
    have hstop : ¬ (σ 120 2 < σ 120 1 ∧ 97 ≤ σ 121 (σ 120 2) ∧ σ 121 (σ 120 2) ≤ 122) → wend (σ 121) (σ 120 1) (160 - k) (σ 120 2) = σ 120 2 := fun hn => by
      rw [hm]
      exact if_neg hn
    have hH : tpH σ = if σ 120 2 < σ 120 1 then σ 121 (σ 120 2) else 0 := rfl
    rw [p_here h.i hs]
    rw [Option.bind_some]
    try dsimp +instances only
    refine zP'.ite (fun c1 => fin (hstop (fun hn => by rw [hH, if_pos hn.1] at c1; omega))) (fun c1 => ?_)
    rw [p_here h.i hs]
    rw [Option.bind_some]
    try dsimp +instances only
    refine zP'.ite (fun c2 => fin (hstop (fun hn => by rw [hH, if_pos hn.1] at c2; omega))) (fun c2 => ?_)
    have hpl : σ 120 2 < σ 120 1 := by
      by_cases cp : σ 120 2 < σ 120 1
      · exact cp
      · rw [hH, if_neg cp] at c1
        exact absurd c1 (by omega)
    rw [hH, if_pos hpl] at c1 c2
    have h1 := h.1
    have h2 := h.2.1
    rw [w32_id (x := σ 120 2 + 1) (by omega) (by omega), w32_id (x := (k : Int) + 1) (by omega) (by omega), show (k : Int) + 1 = ((k + 1 : Nat) : Int) by omega]
    generalize hz : zu σ 120 2 (σ 120 2 + 1) = s1
    have f1 : frTa σ s1 := by rw [← hz]; exact frTa.u (Or.inl rfl)
    have q1 : s1 120 1 = σ 120 1 := f1 120 1 (Or.inr (by decide))
    have q2 : s1 120 2 = σ 120 2 + 1 := by rw [← hz]; exact zu_e rfl
    have q3 : s1 120 3 = -1 := by rw [← hz, zu_i (by decide)]; exact hs
    have q121 : s1 121 = σ 121 := funext (fun j => f1 121 j (Or.inl (by decide)))
    refine p_word7 n (k + 1) s1 (h.mv f1 (by rw [q2]; omega)) q3 (by omega) (fun s g1 g2 g3 => kk s (f1.trans g1) g2 ?_)
    rw [g3, q121, q1, q2, hm2, hm]
    exact (if_pos ⟨hpl, by omega, by omega⟩).symm
theorem p_word {a Ln : Nat} (hw : swk a Ln) {σ : zS} (h : tpL σ) (hs : σ 120 3 = -1) : zP' (g_ta_word a σ) (fun v s => frTa σ s ∧ v = wordV a Ln (σ 121) (σ 120 1) (σ 120 2) ∧ (v = -1 → s 120 3 = σ 120 2) ∧ (v ≠ -1 → s 120 2 = wend (σ 121) (σ 120 1) 160 (σ 120 2) ∧ s 120 3 = -1)) := by
  have h1 := h.1
  have h2 := h.2.1
  unfold g_ta_word
  refine p_word7 zK 0 σ h hs (by omega) (fun s g1 g2 g3 => ?_)
  have g3 : s 120 2 = wend (σ 121) (σ 120 1) 160 (σ 120 2) := g3
  have l1 := wend_le (f := σ 121) (L := σ 120 1) 160 (σ 120 2)
  have l2 := wend_L (f := σ 121) (L := σ 120 1) 160 (σ 120 2) h2.2
  have q121 : s 121 = σ 121 := funext (fun j => g1 121 j (Or.inl (by decide)))
  unfold g_ta_word_L48
  refine (p_word56 hw (b := σ 120 2) g2 ⟨h2.1, by omega, by omega⟩ zK Ln 0 0 0 ⟨by omega, by omega⟩ (by omega) ⟨by omega, by omega⟩).imp (fun v t p => ?_)
  obtain ⟨p1, p2, p3⟩ := p
  rw [q121, g3] at p1
  refine ⟨?_, p1, fun e => ?_, fun e => ?_⟩
  · by_cases e : v = -1
    · rw [p2 e]
      exact g1.trans (frTa.u (Or.inr rfl))
    · rw [p3 e]
      exact g1
  · rw [p2 e]
    exact zu_e rfl
  · rw [p3 e]
    exact ⟨g3, g2⟩
theorem p_word0 {a Ln : Nat} (hw : swk a Ln) {σ : zS} (hs : σ 120 3 ≠ -1) : zP' (g_ta_word a σ) (fun v s => s = σ ∧ v = -1) := by
  have w1 := hw.1
  have w2 := hw.2.1
  have w3 := hw.2.2
  have e : ∀ i j b, g_ta_isSame a i j b σ = some (0, σ) := fun i j b => by
    unfold g_ta_isSame
    have e : g_ta_isSound σ = some (0, σ) := by
      unfold g_ta_isSound
      exact if_pos hs
    rw [e]
    rw [Option.bind_some]
    try dsimp +instances only
    rw [if_pos rfl]
  have lp : ∀ (n : Nat) (b w st i : Int), 0 ≤ i → zP' (g_ta_word_L56 a n b w st i σ) (fun v s => s = σ ∧ v = -1) := by
    intro n
    induction n with
    | zero => exact fun _ _ _ _ _ => zP'.no
    | succ n ih =>
      intro b w st i hi
      unfold g_ta_word_L56
      rw [s_length w2]
      rw [Option.bind_some]
      try dsimp +instances only
      refine zP'.ite (fun c => ?_) (fun c => ?_)
      · rw [p_blame0 hs]
        rw [Option.bind_some]
        exact zP'.ret ⟨rfl, rfl⟩
      · have es := w32_id (x := i + 1) (by omega) (by omega)
        rw [s_length w2]
        rw [Option.bind_some]
        try dsimp +instances only
        have g : zP' (g_ta_word_L85 a (g_ta_word_L56 a n) b w st i σ) (fun v s => s = σ ∧ v = -1) := by
          unfold g_ta_word_L85
          rw [e]
          rw [Option.bind_some]
          try dsimp +instances only
          rw [if_pos rfl]
          unfold g_ta_word_L109
          rw [es]
          exact ih _ _ _ _ (by omega)
        refine zP'.ite (fun _ => g) (fun c2 => ?_)
        rw [s_charAt (by omega)]
        rw [Option.bind_some]
        try dsimp +instances only
        refine zP'.ite (fun _ => ?_) (fun _ => g)
        unfold g_ta_word_L109
        rw [es]
        exact ih _ _ _ _ (by omega)
  unfold g_ta_word
  show zP' (g_ta_word_L7 a (999999 + 1) (σ 120 2) 0 σ) _
  unfold g_ta_word_L7
  rw [if_neg (by decide), p_here0 hs]
  rw [Option.bind_some]
  try dsimp +instances only
  rw [if_pos (by decide)]
  unfold g_ta_word_L48
  exact lp _ _ _ _ _ (Int.le_refl 0)
/-! the reference's word -/
def tpP (σ : zS) : Prop := (0 ≤ σ 143 20 ∧ σ 143 20 ≤ 160) ∧ (0 ≤ σ 143 21 ∧ σ 143 21 ≤ σ 143 20) ∧ tpR σ
theorem tpP.i {σ : zS} (h : tpP σ) : pI σ := ⟨h.1.1, h.1.2, h.2.1.1⟩
theorem tpP.mv {σ s : zS} (h : tpP σ) (e1 : s 143 20 = σ 143 20) (e2 : s 159 = σ 159) (h2 : 0 ≤ s 143 21 ∧ s 143 21 ≤ σ 143 20) : tpP s := by
  unfold tpP tpR
  rw [e1, e2]
  exact ⟨h.1, h2, h.2.2⟩
theorem t_wordEnd5 {σ : zS} (h : tpP σ) : ∀ (n m : Nat) (k : Int), 0 ≤ k → k ≤ σ 143 20 → σ 143 20 - k ≤ (m : Int) → zP' (g_m_wordEnd_L5 n k σ) (fun e s => s = σ ∧ e = wend (σ 159) (σ 143 20) m k)
  | 0, _, _, _, _, _ => zP'.no
  | n + 1, m, k, h0, h1, hm => by
    have hh := h.1
    unfold g_m_wordEnd_L5
    try dsimp +instances only
    have hstop : ¬ (k < σ 143 20 ∧ 97 ≤ σ 159 k ∧ σ 159 k ≤ 122) → k = wend (σ 159) (σ 143 20) m k := fun hn => by
      cases m with
      | zero => rfl
      | succ m => exact (if_neg hn).symm
    refine zP'.ite (fun c => zP'.ret ⟨rfl, hstop (fun e => by omega)⟩) (fun c => ?_)
    rw [if_pos (by omega)]
    by_cases c2 : 97 ≤ σ 159 k ∧ σ 159 k ≤ 122
    · rw [s_isIn_t c2.1 c2.2]
      rw [Option.bind_some]
      try dsimp +instances only
      rw [if_neg (by decide), w32_id (x := k + 1) (by omega) (by omega)]
      obtain ⟨m, rfl⟩ : ∃ q, m = q + 1 := ⟨m - 1, by omega⟩
      refine (t_wordEnd5 h n m (k + 1) (by omega) (by omega) (by omega)).imp (fun e s p => ⟨p.1, p.2.trans ?_⟩)
      exact (if_pos ⟨by omega, c2.1, c2.2⟩).symm
    · rw [s_isIn_f (by omega)]
      rw [Option.bind_some]
      try dsimp +instances only
      rw [if_pos rfl]
      exact zP'.ret ⟨rfl, hstop (fun e => c2 e.2)⟩
theorem t_word75 {a Ln : Nat} (hw : swk a Ln) {g : Int → Int → Int → zS → Option (Int × zS)} {e w k len : Int} {σ : zS} {Q : Int → zS → Prop} (h : tpP σ) (hk : 0 ≤ k ∧ 0 ≤ len ∧ k + len ≤ (Ln : Int)) (hl : σ 143 21 + len ≤ 160) (yes : wsm (charC a) (σ 159) len.toNat (σ 143 21) k = true → Q w (zu σ 143 21 e)) (no : wsm (charC a) (σ 159) len.toNat (σ 143 21) k = false → zP' (g e (w32 (w + 1)) (w32 (k + w32 (len + 1))) σ) Q) : ∀ (n d : Nat) (j : Int), 0 ≤ j → j + (d : Int) = len → wsm (charC a) (σ 159) len.toNat (σ 143 21) k = wsm (charC a) (σ 159) d (σ 143 21 + j) (k + j) → zP' (g_m_word_L75 a g n e w k len 1 j σ) Q
  | 0, _, _, _, _, _ => zP'.no
  | n + 1, d, j, h0, hd, he => by
    have h1 := h.1
    have h2 := h.2.1
    have w1 := hw.1
    have w3 := hw.2.2
    have out : ∀ f : Int, (f = 0 → wsm (charC a) (σ 159) len.toNat (σ 143 21) k = false) → (f ≠ 0 → wsm (charC a) (σ 159) len.toNat (σ 143 21) k = true) → zP' (g_m_word_L124 a g e w k len f σ) Q := fun f f1 f2 => by
      unfold g_m_word_L124
      exact zP'.ite (fun c => no (f1 c)) (fun c => zP'.ret (yes (f2 c)))
    unfold g_m_word_L75
    refine zP'.ite (fun c => out 1 (fun c1 => absurd c1 (by decide)) (fun _ => ?_)) (fun c => ?_)
    · rw [he, show d = 0 by omega]
      rfl
    · obtain ⟨d, rfl⟩ : ∃ q, d = q + 1 := ⟨d - 1, by omega⟩
      rw [if_neg (by decide), w32_id (x := k + j) (by omega) (by omega), s_charAt (by omega)]
      rw [Option.bind_some]
      try dsimp +instances only
      rw [w32_id (x := σ 143 21 + j) (by omega) (by omega)]
      refine zP'.gd (fun _ => ?_)
      try dsimp +instances only
      have he : wsm (charC a) (σ 159) len.toNat (σ 143 21) k = (decide (σ 159 (σ 143 21 + j) = charC a (k + j)) && wsm (charC a) (σ 159) d (σ 143 21 + j + 1) (k + j + 1)) := he
      refine zP'.ite (fun c2 => ?_) (fun c2 => ?_)
      · have hf : wsm (charC a) (σ 159) len.toNat (σ 143 21) k = false := by
          rw [he, decide_eq_false (fun x => c2 x.symm), Bool.false_and]
        unfold g_m_word_L116
        cases n with
        | zero => exact zP'.no
        | succ n =>
          unfold g_m_word_L75
          refine zP'.ite (fun _ => out 0 (fun _ => hf) (fun c3 => absurd rfl c3)) (fun _ => ?_)
          rw [if_pos rfl]
          exact out 0 (fun _ => hf) (fun c3 => absurd rfl c3)
      · have c2 : charC a (k + j) = σ 159 (σ 143 21 + j) := Classical.byContradiction (fun x => c2 x)
        unfold g_m_word_L116
        rw [w32_id (x := j + 1) (by omega) (by omega)]
        refine t_word75 hw h hk hl yes no n d (j + 1) (by omega) (by omega) ?_
        rw [he, decide_eq_true c2.symm, Bool.true_and, show σ 143 21 + (j + 1) = σ 143 21 + j + 1 by omega, show k + (j + 1) = k + j + 1 by omega]
theorem t_word54 {a Ln : Nat} (hw : swk a Ln) {g : Int → Int → Int → zS → Option (Int × zS)} {e w k len : Int} {σ : zS} {Q : Int → zS → Prop} (h : tpP σ) (hk : 0 ≤ k ∧ 0 ≤ len ∧ k + len ≤ (Ln : Int)) (he : σ 143 21 ≤ e ∧ e ≤ 160) (yes : wsE (charC a) (σ 159) (σ 143 21) e k (k + len) = true → Q w (zu σ 143 21 e)) (no : wsE (charC a) (σ 159) (σ 143 21) e k (k + len) = false → zP' (g e (w32 (w + 1)) (w32 (k + w32 (len + 1))) σ) Q) : zP' (g_m_word_L54 a g e w k len σ) Q := by
  have h2 := h.2.1
  have w3 := hw.2.2
  unfold wsE at yes no
  rw [show k + len - k = len by omega] at yes no
  unfold g_m_word_L54 g_m_word_L70
  try dsimp +instances only
  rw [w32_id (x := e - σ 143 21) (by omega) (by omega)]
  refine zP'.ite (fun c => ?_) (fun c => ?_)
  · have hf : decide (e - σ 143 21 = len) = false := decide_eq_false (fun x => c x.symm)
    rw [hf, Bool.false_and] at no
    have hz : ∀ n, zP' (g_m_word_L75 a g (n + 1) e w k len 0 0 σ) Q := fun n => by
      have out : zP' (g_m_word_L124 a g e w k len 0 σ) Q := by
        unfold g_m_word_L124
        rw [if_pos rfl]
        exact no rfl
      unfold g_m_word_L75
      refine zP'.ite (fun _ => out) (fun _ => ?_)
      rw [if_pos rfl]
      exact out
    exact hz 999999
  · have c : len = e - σ 143 21 := Classical.byContradiction (fun x => c x)
    have ht : decide (e - σ 143 21 = len) = true := decide_eq_true c.symm
    rw [ht, Bool.true_and] at yes no
    exact t_word75 hw h hk (by omega) yes no zK len.toNat 0 (Int.le_refl 0) (by omega) (by rw [show σ 143 21 + 0 = σ 143 21 by omega, show k + 0 = k by omega])
theorem t_word10 {a Ln : Nat} (hw : swk a Ln) (hT : charC a ((Ln : Int) - 1) ≠ 32) {e : Int} {σ : zS} (h : tpP σ) (hs : σ 143 22 < 0) (he : σ 143 21 ≤ e ∧ e ≤ 160) : ∀ (n d : Nat) (w k : Int), 0 ≤ k ∧ 0 ≤ w ∧ w ≤ k → k + (d : Int) = (Ln : Int) → 0 < d → zP' (g_m_word_L10 a n e w k σ) (fun v s => v = wordG (charC a) (σ 159) (σ 143 21) e d k k w ∧ (v = -1 → s = zu σ 143 22 (σ 143 21)) ∧ (v ≠ -1 → s = zu σ 143 21 e)) := by
  intro n
  have w1 := hw.1
  have w2 := hw.2.1
  have w3 := hw.2.2
  induction n with
  | zero => exact fun _ _ _ _ _ _ => zP'.no
  | succ n ih =>
    intro d w k hk hd hd0
    have l22 : ∀ (m q : Nat) (j : Int), 0 ≤ j → k + j + (q : Int) = (Ln : Int) → wordG (charC a) (σ 159) (σ 143 21) e d k k w = wordG (charC a) (σ 159) (σ 143 21) e q (k + j) k w → zP' (g_m_word_L22 a (g_m_word_L10 a n) m e w k j σ) (fun v s => v = wordG (charC a) (σ 159) (σ 143 21) e d k k w ∧ (v = -1 → s = zu σ 143 22 (σ 143 21)) ∧ (v ≠ -1 → s = zu σ 143 21 e)) := by
      intro m
      induction m with
      | zero => exact fun _ _ _ _ _ => zP'.no
      | succ m ihm =>
        intro q j hj hq hG
        have fail : ∀ w' k' : Int, (Ln : Int) ≤ k' → zP' (g_m_word_L10 a n e w' k' σ) (fun v s => v = -1 ∧ s = zu σ 143 22 (σ 143 21)) := fun w' k' hh => by
          cases n with
          | zero => exact zP'.no
          | succ n =>
            unfold g_m_word_L10
            rw [s_length w2]
            rw [Option.bind_some]
            try dsimp +instances only
            rw [if_pos (by omega)]
            unfold g_m_fails
            try dsimp +instances only
            rw [if_neg (by omega)]
            rw [Option.bind_some]
            exact zP'.ret ⟨rfl, rfl⟩
        unfold g_m_word_L22
        rw [s_length w2]
        rw [Option.bind_some]
        try dsimp +instances only
        rw [w32_id (x := k + j) (by omega) (by omega)]
        have e1 := w32_id (x := j + 1) (by omega) (by omega)
        have e2 := w32_id (x := k + (j + 1)) (by omega) (by omega)
        have e3 := w32_id (x := w + 1) (by omega) (by omega)
        refine zP'.ite (fun c => ?_) (fun c => ?_)
        · have q0 : q = 0 := by omega
          subst q0
          have hG : wordG (charC a) (σ 159) (σ 143 21) e d k k w = if wsE (charC a) (σ 159) (σ 143 21) e k (k + j) = true then w else -1 := hG
          rw [hG]
          refine t_word54 hw h ⟨hk.1, hj, by omega⟩ he (fun y => ?_) (fun y => ?_)
          · rw [if_pos y]
            exact ⟨rfl, fun x => by omega, fun _ => rfl⟩
          · rw [y, if_neg (by decide), e1, e2, e3]
            exact (fail (w + 1) (k + (j + 1)) (by omega)).imp (fun v s p => ⟨p.1, fun _ => p.2, fun x => absurd p.1 x⟩)
        · obtain ⟨q, rfl⟩ : ∃ r, q = r + 1 := ⟨q - 1, by omega⟩
          rw [s_charAt (by omega)]
          rw [Option.bind_some]
          try dsimp +instances only
          have hG : wordG (charC a) (σ 159) (σ 143 21) e d k k w = if charC a (k + j) = 32 then (if wsE (charC a) (σ 159) (σ 143 21) e k (k + j) = true then w else wordG (charC a) (σ 159) (σ 143 21) e q (k + j + 1) (k + j + 1) (w + 1)) else wordG (charC a) (σ 159) (σ 143 21) e q (k + j + 1) k w := hG
          refine zP'.ite (fun c2 => ?_) (fun c2 => ?_)
          · rw [if_pos c2] at hG
            rw [hG]
            refine t_word54 hw h ⟨hk.1, hj, by omega⟩ he (fun y => ?_) (fun y => ?_)
            · rw [if_pos y]
              exact ⟨rfl, fun x => by omega, fun _ => rfl⟩
            · rw [y, if_neg (by decide), e1, e2, e3, show k + (j + 1) = k + j + 1 by omega]
              have hq1 : 0 < q := by
                refine Nat.pos_of_ne_zero (fun q0 => hT ?_)
                rw [show (Ln : Int) - 1 = k + j by omega]
                exact c2
              exact ih q (w + 1) (k + j + 1) ⟨by omega, by omega, by omega⟩ (by omega) hq1
          · rw [if_neg c2] at hG
            rw [e1]
            exact ihm q (j + 1) (by omega) (by omega) (by rw [hG, show k + (j + 1) = k + j + 1 by omega])
    unfold g_m_word_L10
    rw [s_length w2]
    rw [Option.bind_some]
    try dsimp +instances only
    rw [if_neg (by omega)]
    exact l22 zK d 0 (Int.le_refl 0) (by omega) (by rw [show k + 0 = k by omega])
theorem t_word {a Ln : Nat} (hw : swk a Ln) (hT : charC a ((Ln : Int) - 1) ≠ 32) (hL : 0 < Ln) {σ : zS} (h : tpP σ) (hs : σ 143 22 < 0) : zP' (g_m_word a σ) (fun v s => fr3 σ s ∧ v = wordV a Ln (σ 159) (σ 143 20) (σ 143 21) ∧ (v = -1 → s 143 22 = σ 143 21) ∧ (v ≠ -1 → s 143 21 = wend (σ 159) (σ 143 20) 160 (σ 143 21) ∧ s 143 22 = σ 143 22)) := by
  have h1 := h.1
  have h2 := h.2.1
  unfold g_m_word g_m_wordEnd
  try dsimp +instances only
  refine zP'.bind (t_wordEnd5 h zK 160 (σ 143 21) h2.1 h2.2 (by omega)) (fun e s p => ?_)
  obtain ⟨p1, pe⟩ := p
  try dsimp +instances only
  rw [p1]
  have l1 := wend_le (f := σ 159) (L := σ 143 20) 160 (σ 143 21)
  have l2 := wend_L (f := σ 159) (L := σ 143 20) 160 (σ 143 21) h2.2
  refine (t_word10 hw hT (e := e) h hs ⟨by omega, by omega⟩ zK Ln 0 0 ⟨by omega, by omega, by omega⟩ (by omega) hL).imp (fun v t q => ?_)
  obtain ⟨q1, q2, q3⟩ := q
  rw [pe] at q1
  refine ⟨?_, q1, fun x => ?_, fun x => ?_⟩
  · by_cases x : v = -1
    · rw [q2 x]
      exact fr3.u (by omega)
    · rw [q3 x]
      exact fr3.u (by omega)
  · rw [q2 x]
    exact zu_e rfl
  · rw [q3 x]
    exact ⟨(zu_e rfl).trans pe, zu_i (by decide)⟩
