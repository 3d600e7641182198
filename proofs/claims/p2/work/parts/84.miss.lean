/-! WHAT IS MISSING, of the class: its boxes as lists -/
def bsR (σ : zS) (a : Nat) (L : List Bx) : Prop := σ a 1 = (L.length : Int) ∧ ∀ (k : Nat) (hk : k < L.length), σ (a + 1) (k : Int) = enc L[k]
def frBs (a : Nat) (σ s : zS) : Prop := ∀ c j, c ≠ a + 1 → (c ≠ a ∨ j ≠ 1) → s c j = σ c j
theorem frBs.refl (a : Nat) (σ : zS) : frBs a σ σ := fun _ _ _ _ => rfl
theorem frBs.trans {a : Nat} {σ s t : zS} (h1 : frBs a σ s) (h2 : frBs a s t) : frBs a σ t := fun c j k1 k2 => (h2 c j k1 k2).trans (h1 c j k1 k2)
theorem bsR.fr {a b : Nat} {σ s : zS} {L : List Bx} (h : bsR σ a L) (f : frBs b σ s) (h1 : a ≠ b + 1) (h2 : a ≠ b) (h3 : a + 1 ≠ b) : bsR s a L := ⟨(f a 1 h1 (Or.inl h2)).trans h.1, fun k hk => (f (a + 1) _ (by omega) (Or.inl h3)).trans (h.2 k hk)⟩
theorem bs_add {a : Nat} {L : List Bx} {b : Bx} {σ : zS} (hz : zLI (a + 1) = 169) (h : bsR σ a L) (hL : L.length < 169) : zP' (g_bs_add a (enc b) σ) (fun _ s => bsR s a (L ++ [b]) ∧ frBs a σ s) := by
  unfold g_bs_add
  try dsimp +instances only
  rw [h.1, hz, if_neg (by omega), if_pos (by omega), if_pos (by omega)]
  have e : zu σ (a + 1) (L.length : Int) (enc b) a 1 = (L.length : Int) := (zu_a (by omega)).trans h.1
  rw [e, w32_id (x := (L.length : Int) + 1) (by omega) (by omega)]
  refine zP'.ret ⟨⟨?_, fun k hk => ?_⟩, fun c j k1 k2 => by rw [zu_c (by omega), zu_a k1]⟩
  · rw [zu_e rfl, List.length_append]
    show (L.length : Int) + 1 = ((L.length + 1 : Nat) : Int)
    omega
  · rw [List.length_append] at hk
    have hk : k < L.length + 1 := hk
    rw [zu_a (by omega)]
    by_cases ck : k < L.length
    · rw [zu_i (by omega), List.getElem_append_left ck]
      exact h.2 k ck
    · have ek : k = L.length := by omega
      subst ek
      rw [zu_e rfl, List.getElem_append_right (Nat.le_refl _)]
      have e0 : ([b] : List Bx)[L.length - L.length]'(by rw [Nat.sub_self]; exact Nat.one_pos) = b := by simp
      rw [e0]
def rsD (b r : Bx) (lo hi : Int) : List Bx := if r.2.1 < b.2.1 then [(r.2.1 + 1, b.2.1, lo, hi)] else []
def rsC (b r : Bx) (lo hi : Int) : List Bx := if b.1 < r.1 then [(b.1, r.1 - 1, lo, hi)] else []
def rsB (b r : Bx) : List Bx := if r.2.2.2 < b.2.2.2 then [(b.1, b.2.1, r.2.2.2 + 1, b.2.2.2)] else []
def rsA (b r : Bx) : List Bx := if b.2.2.1 < r.2.2.1 then [(b.1, b.2.1, b.2.2.1, r.2.2.1 - 1)] else []
theorem bs_135 {a : Nat} {L : List Bx} {b r : Bx} {lo hi : Int} {σ : zS} (hz : zLI (a + 1) = 169) (hb : bOk b) (hr : bOk r) (hlo : 0 ≤ lo ∧ lo ≤ 31) (hhi : 0 ≤ hi ∧ hi ≤ 31) (h : bsR σ a L) (hL : (L ++ rsD b r lo hi).length ≤ 169) : zP' (g_bs_addRest_L135 a (enc r) b.2.1 lo hi σ) (fun _ s => bsR s a (L ++ rsD b r lo hi) ∧ frBs a σ s) := by
  have hB := hb
  have hR := hr
  dsimp only [bOk] at hB hR
  unfold g_bs_addRest_L135
  rw [b_x1 hr.s]
  rw [Option.bind_some]
  try dsimp +instances only
  unfold rsD at *
  by_cases c : r.2.1 < b.2.1
  · rw [if_pos c] at hL ⊢
    rw [if_neg (by omega), b_x1 hr.s]
    rw [Option.bind_some]
    try dsimp +instances only
    rw [w32_id (x := r.2.1 + 1) (by omega) (by omega)]
    have e := b_of (b := (r.2.1 + 1, b.2.1, lo, hi)) (by dsimp only [sOk]; omega) σ
    have e : g_b_of (r.2.1 + 1) b.2.1 lo hi σ = some (enc (r.2.1 + 1, b.2.1, lo, hi), σ) := e
    rw [e]
    rw [Option.bind_some]
    try dsimp +instances only
    rw [List.length_append] at hL
    have hL : L.length + 1 ≤ 169 := hL
    exact zP'.bind (bs_add hz h (by omega)) (fun _ s p => zP'.ret p)
  · rw [if_neg c, if_pos (by omega), List.append_nil]
    exact zP'.ret ⟨h, frBs.refl a σ⟩
theorem bs_108 {a : Nat} {L : List Bx} {b r : Bx} {lo hi : Int} {σ : zS} (hz : zLI (a + 1) = 169) (hb : bOk b) (hr : bOk r) (hlo : 0 ≤ lo ∧ lo ≤ 31) (hhi : 0 ≤ hi ∧ hi ≤ 31) (h : bsR σ a L) (hL : (L ++ (rsC b r lo hi ++ rsD b r lo hi)).length ≤ 169) : zP' (g_bs_addRest_L108 a (enc r) b.1 b.2.1 lo hi σ) (fun _ s => bsR s a (L ++ (rsC b r lo hi ++ rsD b r lo hi)) ∧ frBs a σ s) := by
  have hB := hb
  have hR := hr
  dsimp only [bOk] at hB hR
  unfold g_bs_addRest_L108
  rw [b_x0 hr.s]
  rw [Option.bind_some]
  try dsimp +instances only
  unfold rsC at *
  by_cases c : b.1 < r.1
  · rw [if_pos c] at hL ⊢
    rw [if_neg (by omega), b_x0 hr.s]
    rw [Option.bind_some]
    try dsimp +instances only
    rw [w32_id (x := r.1 - 1) (by omega) (by omega)]
    have e := b_of (b := (b.1, r.1 - 1, lo, hi)) (by dsimp only [sOk]; omega) σ
    have e : g_b_of b.1 (r.1 - 1) lo hi σ = some (enc (b.1, r.1 - 1, lo, hi), σ) := e
    rw [e]
    rw [Option.bind_some]
    try dsimp +instances only
    rw [← List.append_assoc] at hL ⊢
    have hl : (L ++ [(b.1, r.1 - 1, lo, hi)]).length = L.length + 1 := by rw [List.length_append]; rfl
    have hl2 : (L ++ [(b.1, r.1 - 1, lo, hi)]).length ≤ 169 := Nat.le_trans (by rw [List.length_append (as := L ++ [(b.1, r.1 - 1, lo, hi)])]; exact Nat.le_add_right _ _) hL
    refine zP'.bind (bs_add hz h (by omega)) (fun _ s p => ?_)
    try dsimp +instances only
    exact (bs_135 hz hb hr hlo hhi p.1 hL).imp (fun _ t q => ⟨q.1, p.2.trans q.2⟩)
  · rw [if_neg c, List.nil_append] at hL ⊢
    rw [if_pos (by omega)]
    exact bs_135 hz hb hr hlo hhi h hL
theorem bs_84 {a : Nat} {L : List Bx} {b r : Bx} {lo hi : Int} {σ : zS} (hz : zLI (a + 1) = 169) (hb : bOk b) (hr : bOk r) (hlo : 0 ≤ lo ∧ lo ≤ 31) (hhi : hi = zmn b.2.2.2 r.2.2.2) (h : bsR σ a L) (hL : (L ++ (rsB b r ++ (rsC b r lo hi ++ rsD b r lo hi))).length ≤ 169) : zP' (g_bs_addRest_L84 a (enc r) b.1 b.2.1 b.2.2.2 lo hi σ) (fun _ s => bsR s a (L ++ (rsB b r ++ (rsC b r lo hi ++ rsD b r lo hi))) ∧ frBs a σ s) := by
  have hB := hb
  have hR := hr
  dsimp only [bOk] at hB hR
  have zm := zmn_le (a := b.2.2.2) (b := r.2.2.2)
  unfold g_bs_addRest_L84
  unfold rsB at *
  by_cases c : r.2.2.2 < b.2.2.2
  · have ehi : hi = r.2.2.2 := by omega
    rw [if_pos c] at hL ⊢
    rw [if_neg (by omega), ehi, w32_id (x := r.2.2.2 + 1) (by omega) (by omega)]
    have e := b_of (b := (b.1, b.2.1, r.2.2.2 + 1, b.2.2.2)) (by dsimp only [sOk]; omega) σ
    have e : g_b_of b.1 b.2.1 (r.2.2.2 + 1) b.2.2.2 σ = some (enc (b.1, b.2.1, r.2.2.2 + 1, b.2.2.2), σ) := e
    rw [e]
    rw [Option.bind_some]
    try dsimp +instances only
    rw [ehi, ← List.append_assoc] at hL
    rw [← List.append_assoc]
    have hl2 : (L ++ [(b.1, b.2.1, r.2.2.2 + 1, b.2.2.2)]).length ≤ 169 := Nat.le_trans (by rw [List.length_append (as := L ++ [(b.1, b.2.1, r.2.2.2 + 1, b.2.2.2)])]; exact Nat.le_add_right _ _) hL
    have hl : (L ++ [(b.1, b.2.1, r.2.2.2 + 1, b.2.2.2)]).length = L.length + 1 := by rw [List.length_append]; rfl
    refine zP'.bind (bs_add hz h (by omega)) (fun _ s p => ?_)
    try dsimp +instances only
    exact (bs_108 hz hb hr hlo (by omega) p.1 hL).imp (fun _ t q => ⟨q.1, p.2.trans q.2⟩)
  · rw [if_neg c, List.nil_append] at hL ⊢
    rw [if_pos (by omega)]
    exact bs_108 hz hb hr hlo (by omega) h hL
theorem bRest_eq {b r : Bx} (h : bMt b r) : bRest b r = rsA b r ++ (rsB b r ++ (rsC b r (zmx b.2.2.1 r.2.2.1) (zmn b.2.2.2 r.2.2.2) ++ rsD b r (zmx b.2.2.1 r.2.2.1) (zmn b.2.2.2 r.2.2.2))) := by
  unfold bRest
  rw [if_pos h]
  rfl
/-- the rest of a box by another one -/
theorem bs_addRest {a : Nat} {L : List Bx} {b r : Bx} {σ : zS} (hz : zLI (a + 1) = 169) (hb : bOk b) (hr : bOk r) (h : bsR σ a L) (hL : (L ++ bRest b r).length ≤ 169) : zP' (g_bs_addRest a (enc b) (enc r) σ) (fun _ s => bsR s a (L ++ bRest b r) ∧ frBs a σ s) := by
  have hB := hb
  have hR := hr
  dsimp only [bOk] at hB hR
  unfold g_bs_addRest
  rw [c_meet hb hr]
  rw [Option.bind_some]
  try dsimp +instances only
  by_cases c : bMt b r
  · rw [if_pos c, if_pos (show (1 : Int) ≠ 0 by decide), b_x0 hb.s]
    rw [Option.bind_some]
    try dsimp +instances only
    rw [b_x1 hb.s]
    rw [Option.bind_some]
    try dsimp +instances only
    rw [b_y0 hb.s]
    rw [Option.bind_some]
    try dsimp +instances only
    rw [b_y1 hb.s]
    rw [Option.bind_some]
    try dsimp +instances only
    rw [b_y0 hr.s]
    rw [Option.bind_some]
    try dsimp +instances only
    rw [p_max]
    rw [Option.bind_some]
    try dsimp +instances only
    rw [b_y1 hr.s]
    rw [Option.bind_some]
    try dsimp +instances only
    rw [p_min]
    rw [Option.bind_some]
    try dsimp +instances only
    have zx := zmx_le (a := b.2.2.1) (b := r.2.2.1)
    rw [bRest_eq c] at hL ⊢
    generalize hlo : zmx b.2.2.1 r.2.2.1 = lo at zx hL
    unfold rsA at *
    by_cases ca : b.2.2.1 < r.2.2.1
    · have elo : lo = r.2.2.1 := by omega
      rw [if_pos ca] at hL ⊢
      rw [if_neg (by omega), w32_id (x := lo - 1) (by omega) (by omega)]
      have e := b_of (b := (b.1, b.2.1, b.2.2.1, r.2.2.1 - 1)) (by dsimp only [sOk]; omega) σ
      have e : g_b_of b.1 b.2.1 b.2.2.1 (lo - 1) σ = some (enc (b.1, b.2.1, b.2.2.1, r.2.2.1 - 1), σ) := by rw [elo]; exact e
      rw [e]
      rw [Option.bind_some]
      try dsimp +instances only
      rw [← List.append_assoc] at hL ⊢
      have hl2 : (L ++ [(b.1, b.2.1, b.2.2.1, r.2.2.1 - 1)]).length ≤ 169 := Nat.le_trans (by rw [List.length_append (as := L ++ [(b.1, b.2.1, b.2.2.1, r.2.2.1 - 1)])]; exact Nat.le_add_right _ _) hL
      have hl : (L ++ [(b.1, b.2.1, b.2.2.1, r.2.2.1 - 1)]).length = L.length + 1 := by rw [List.length_append]; rfl
      refine zP'.bind (bs_add hz h (by omega)) (fun _ s p => ?_)
      try dsimp +instances only
      exact (bs_84 hz hb hr (by omega) rfl p.1 hL).imp (fun _ t q => ⟨q.1, p.2.trans q.2⟩)
    · rw [if_neg ca, List.nil_append] at hL ⊢
      rw [if_pos (by omega)]
      exact bs_84 hz hb hr (by omega) rfl h hL
  · have e : bRest b r = [b] := by
      unfold bRest
      rw [if_neg c]
    rw [if_neg c, if_neg (show ¬ (0 : Int) ≠ 0 by decide)]
    rw [e] at hL ⊢
    rw [List.length_append] at hL
    have hL : L.length + 1 ≤ 169 := hL
    exact zP'.bind (bs_add hz h (by omega)) (fun _ s p => zP'.ret p)
theorem bs_at {a : Nat} {L : List Bx} {k : Nat} {σ : zS} (hz : zLI (a + 1) = 169) (h : bsR σ a L) (hL : L.length ≤ 169) (hk : k < L.length) : g_bs_at a (k : Int) σ = some (enc L[k], σ) := by
  unfold g_bs_at
  try dsimp +instances only
  rw [if_neg (by omega), h.1, hz, if_neg (by omega), if_neg (by omega), if_pos (by omega), h.2 k hk]
theorem take_flat {S : List Bx} {f : Bx → List Bx} {k : Nat} (hk : k < S.length) : (S.take (k + 1)).flatMap f = (S.take k).flatMap f ++ f S[k] := by
  rw [List.take_succ_eq_append_getElem hk, List.flatMap_append, List.flatMap_singleton]
theorem take_flat_le {S : List Bx} {f : Bx → List Bx} (k : Nat) : ((S.take k).flatMap f).length ≤ (S.flatMap f).length := by
  have e : S.flatMap f = (S.take k).flatMap f ++ (S.drop k).flatMap f := by
    rw [← List.flatMap_append, List.take_append_drop]
  rw [e, List.length_append]
  exact Nat.le_add_right _ _
theorem bs_rest7 {a c : Nat} {S : List Bx} {r : Bx} (hz : zLI (a + 1) = 169) (hz2 : zLI (c + 1) = 169) (hd : c ≠ a + 1 ∧ c ≠ a ∧ c + 1 ≠ a) (hS : ∀ p ∈ S, bOk p) (hSl : S.length ≤ 169) (hr : bOk r) (hl : (bMiss S r).length ≤ 169) : ∀ (n k : Nat) (σ : zS), k ≤ S.length → bsR σ c S → bsR σ a ((S.take k).flatMap (fun p => bRest p r)) → zP' (g_bs_becomeRest_L7 a c n (enc r) (k : Int) σ) (fun _ s => bsR s a (bMiss S r) ∧ frBs a σ s)
  | 0, _, _, _, _, _ => zP'.no
  | n + 1, k, σ, hk, hc, ha => by
    unfold g_bs_becomeRest_L7
    try dsimp +instances only
    rw [hc.1]
    by_cases ck : (S.length : Int) ≤ (k : Int)
    · have ek : k = S.length := by omega
      rw [if_pos ck]
      rw [ek, List.take_length] at ha
      exact zP'.ret ⟨ha, frBs.refl a σ⟩
    · have hk' : k < S.length := by omega
      rw [if_neg ck, bs_at hz2 hc hSl hk']
      rw [Option.bind_some]
      try dsimp +instances only
      have hle := take_flat_le (S := S) (f := fun p => bRest p r) (k + 1)
      rw [take_flat hk'] at hle
      refine zP'.bind (bs_addRest hz (hS _ (List.getElem_mem hk')) hr ha (Nat.le_trans hle hl)) (fun _ s p => ?_)
      try dsimp +instances only
      rw [w32_id (x := (k : Int) + 1) (by omega) (by omega), show (k : Int) + 1 = ((k + 1 : Nat) : Int) by omega]
      refine (bs_rest7 hz hz2 hd hS hSl hr hl n (k + 1) s (by omega) (hc.fr p.2 hd.1 hd.2.1 hd.2.2) ?_).imp (fun _ t q => ⟨q.1, p.2.trans q.2⟩)
      rw [take_flat hk']
      exact p.1
theorem bs_becomeRest {a c : Nat} {S : List Bx} {r : Bx} {σ : zS} (hz : zLI (a + 1) = 169) (hz2 : zLI (c + 1) = 169) (hd : c ≠ a + 1 ∧ c ≠ a ∧ c + 1 ≠ a) (hS : ∀ p ∈ S, bOk p) (hSl : S.length ≤ 169) (hr : bOk r) (hl : (bMiss S r).length ≤ 169) (hc : bsR σ c S) : zP' (g_bs_becomeRest a c (enc r) σ) (fun _ s => bsR s a (bMiss S r) ∧ frBs a σ s) := by
  unfold g_bs_becomeRest
  try dsimp +instances only
  have f : frBs a σ (zu σ a 1 0) := fun x j k1 k2 => zu_c (by omega)
  refine (bs_rest7 hz hz2 hd hS hSl hr hl zK 0 (zu σ a 1 0) (Nat.zero_le _) (hc.fr f hd.1 hd.2.1 hd.2.2) ⟨zu_e rfl, fun k hk => absurd hk (Nat.not_lt_zero _)⟩).imp (fun _ t q => ⟨q.1, f.trans q.2⟩)
theorem bs_copy7 {a c : Nat} {S : List Bx} (hz : zLI (a + 1) = 169) (hz2 : zLI (c + 1) = 169) (hd : c ≠ a + 1 ∧ c ≠ a ∧ c + 1 ≠ a) (hSl : S.length ≤ 169) : ∀ (n k : Nat) (σ : zS), k ≤ S.length → bsR σ c S → bsR σ a (S.take k) → zP' (g_bs_copyFrom_L7 a c n (k : Int) σ) (fun _ s => bsR s a S ∧ frBs a σ s)
  | 0, _, _, _, _, _ => zP'.no
  | n + 1, k, σ, hk, hc, ha => by
    unfold g_bs_copyFrom_L7
    try dsimp +instances only
    rw [hc.1]
    by_cases ck : (S.length : Int) ≤ (k : Int)
    · have ek : k = S.length := by omega
      rw [if_pos ck]
      rw [ek, List.take_length] at ha
      exact zP'.ret ⟨ha, frBs.refl a σ⟩
    · have hk' : k < S.length := by omega
      rw [if_neg ck, bs_at hz2 hc hSl hk']
      rw [Option.bind_some]
      try dsimp +instances only
      have ht : (S.take k).length = k := by rw [List.length_take]; omega
      refine zP'.bind (bs_add hz ha (by omega)) (fun _ s p => ?_)
      try dsimp +instances only
      rw [w32_id (x := (k : Int) + 1) (by omega) (by omega), show (k : Int) + 1 = ((k + 1 : Nat) : Int) by omega]
      refine (bs_copy7 hz hz2 hd hSl n (k + 1) s (by omega) (hc.fr p.2 hd.1 hd.2.1 hd.2.2) ?_).imp (fun _ t q => ⟨q.1, p.2.trans q.2⟩)
      rw [List.take_succ_eq_append_getElem hk']
      exact p.1
theorem bs_copyFrom {a c : Nat} {S : List Bx} {σ : zS} (hz : zLI (a + 1) = 169) (hz2 : zLI (c + 1) = 169) (hd : c ≠ a + 1 ∧ c ≠ a ∧ c + 1 ≠ a) (hSl : S.length ≤ 169) (hc : bsR σ c S) : zP' (g_bs_copyFrom a c σ) (fun _ s => bsR s a S ∧ frBs a σ s) := by
  unfold g_bs_copyFrom
  try dsimp +instances only
  have f : frBs a σ (zu σ a 1 0) := fun x j k1 k2 => zu_c (by omega)
  refine (bs_copy7 hz hz2 hd hSl zK 0 (zu σ a 1 0) (Nat.zero_le _) (hc.fr f hd.1 hd.2.1 hd.2.2) ⟨zu_e rfl, fun k hk => absurd hk (Nat.not_lt_zero _)⟩).imp (fun _ t q => ⟨q.1, f.trans q.2⟩)
theorem bMiss_none {ps : List Bx} {r : Bx} (h : ∀ p ∈ ps, ¬ bMt p r) : bMiss ps r = ps := by
  induction ps with
  | nil => rfl
  | cons p ps ih =>
    unfold bMiss at *
    rw [List.flatMap_cons, ih (fun x hx => h x (List.mem_cons_of_mem _ hx))]
    unfold bRest
    rw [if_neg (h p List.mem_cons_self)]
    rfl
def frMs (a0 : Nat) (σ s : zS) : Prop := ∀ c j, (c < a0 + 8 ∨ a0 + 11 < c) → s c j = σ c j
theorem c_miss19 {a0 : Nat} {q : Bx} {L : List Rg} (ha : a0 = 48 ∨ a0 = 106) (hq : bOk q) (h1 : ∀ r ∈ L, bOk r.1) (h2 : (L.map (fun r => r.1)).Pairwise (fun a b => ¬ bMt a b)) (h3 : L.length ≤ 12) : ∀ (n k : Nat) (σ : zS), k ≤ L.length → cRs σ a0 L → bsR σ (a0 + 8) (bMissAll q ((L.map (fun r => r.1)).take k)) → zP' (g_ca_missingOf_L19 a0 n (enc q) (k : Int) σ) (fun _ s => bsR s (a0 + 8) (bMissAll q (L.map (fun r => r.1))) ∧ frMs a0 σ s)
  | 0, _, _, _, _, _ => zP'.no
  | n + 1, k, σ, hk, hc, hb => by
    unfold g_ca_missingOf_L19
    try dsimp +instances only
    rw [hc.1]
    have hlen : (L.map (fun r => r.1)).length = L.length := List.length_map _
    by_cases ck : (L.length : Int) ≤ (k : Int)
    · rw [if_pos ck]
      rw [List.take_of_length_le (by omega)] at hb
      exact zP'.ret ⟨hb, fun _ _ _ => rfl⟩
    · have hk' : k < L.length := by omega
      have okr := h1 L[k] (List.getElem_mem hk')
      rw [if_neg ck, if_pos (by omega), (hc.2 k hk').1, c_meet okr hq]
      rw [Option.bind_some]
      try dsimp +instances only
      have hz8 : zLI (a0 + 8 + 1) = 169 := by rcases ha with rfl | rfl <;> rfl
      have hz10 : zLI (a0 + 10 + 1) = 169 := by rcases ha with rfl | rfl <;> rfl
      have all1 : ∀ r ∈ L.map (fun r => r.1), bOk r := fun r hr => by
        obtain ⟨x, hx, rfl⟩ := List.mem_map.mp hr
        exact h1 x hx
      have sp : ∀ m, L.map (fun r => r.1) = (L.map (fun r => r.1)).take m ++ (L.map (fun r => r.1)).drop m := fun m => (List.take_append_drop m _).symm
      obtain ⟨i1, i2⟩ := bMissAll_pre hq all1 h2 (by omega) (sp k)
      obtain ⟨-, i4⟩ := bMissAll_pre hq all1 h2 (by omega) (sp (k + 1))
      have et : (L.map (fun r => r.1)).take (k + 1) = (L.map (fun r => r.1)).take k ++ [L[k].1] := by
        rw [List.take_succ_eq_append_getElem (by omega), List.getElem_map]
      rw [et, bMissAll_app] at i4
      have hrec : ∀ s : zS, frMs a0 σ s → bsR s (a0 + 8) (bMiss (bMissAll q ((L.map (fun r => r.1)).take k)) L[k].1) → zP' (g_ca_missingOf_L68 a0 (g_ca_missingOf_L19 a0 n) (enc q) (k : Int) s) (fun _ s => bsR s (a0 + 8) (bMissAll q (L.map (fun r => r.1))) ∧ frMs a0 σ s) := fun s f hs => by
        unfold g_ca_missingOf_L68
        rw [w32_id (x := (k : Int) + 1) (by omega) (by omega), show (k : Int) + 1 = ((k + 1 : Nat) : Int) by omega]
        have hc' : cRs s a0 L := ⟨(f a0 2 (by omega)).trans hc.1, fun i hi => by
          have g := hc.2 i hi
          unfold cRg at *
          rw [f _ _ (by omega), f _ _ (by omega), f _ _ (by omega), f _ _ (by omega), f _ _ (by omega)]
          exact g⟩
        exact (c_miss19 ha hq h1 h2 h3 n (k + 1) s (by omega) hc' (by rw [et, bMissAll_app]; exact hs)).imp (fun _ t p => ⟨p.1, fun c j h => (p.2 c j h).trans (f c j h)⟩)
      by_cases cm : bMt L[k].1 q
      · rw [if_pos cm, if_neg (show ¬ (1 : Int) = 0 by decide), if_pos (by omega), (hc.2 k hk').1]
        refine zP'.bind (bs_becomeRest (a := a0 + 10) (c := a0 + 8) hz10 hz8 (by omega) (fun p hp => (i1.1 p hp).1) i2 okr i4 hb) (fun _ s1 p1 => ?_)
        try dsimp +instances only
        refine zP'.bind (bs_copyFrom (a := a0 + 8) (c := a0 + 10) hz8 hz10 (by omega) i4 p1.1) (fun _ s2 p2 => ?_)
        try dsimp +instances only
        exact hrec s2 (fun c j h => (p2.2 c j (by omega) (Or.inl (by omega))).trans (p1.2 c j (by omega) (Or.inl (by omega)))) p2.1
      · rw [if_neg cm, if_pos rfl]
        refine hrec σ (fun _ _ _ => rfl) ?_
        rw [bMiss_none (fun p hp hm => cm ?_)]
        · exact hb
        · have hs := (i1.1 p hp).2.1
          dsimp only [bMt, bSub] at hs hm ⊢
          omega
theorem c_missingOf {a0 : Nat} {q : Bx} {L : List Rg} {σ : zS} (ha : a0 = 48 ∨ a0 = 106) (hq : bOk q) (h1 : ∀ r ∈ L, bOk r.1) (h2 : (L.map (fun r => r.1)).Pairwise (fun a b => ¬ bMt a b)) (h3 : L.length ≤ 12) (hc : cRs σ a0 L) : zP' (g_ca_missingOf a0 (enc q) σ) (fun _ s => bsR s (a0 + 8) (bMissAll q (L.map (fun r => r.1))) ∧ frMs a0 σ s) := by
  have hz8 : zLI (a0 + 8 + 1) = 169 := by rcases ha with rfl | rfl <;> rfl
  unfold g_ca_missingOf
  try dsimp +instances only
  have b0 : bsR (zu σ (a0 + 8) 1 0) (a0 + 8) [] := ⟨zu_e rfl, fun k hk => absurd hk (Nat.not_lt_zero _)⟩
  refine zP'.bind (bs_add (b := q) hz8 b0 (by decide)) (fun _ s p => ?_)
  try dsimp +instances only
  have f : frMs a0 σ s := fun c j h => (p.2 c j (by omega) (Or.inl (by omega))).trans (zu_a (by omega))
  have hc' : cRs s a0 L := ⟨(f a0 2 (by omega)).trans hc.1, fun i hi => by
    have g := hc.2 i hi
    unfold cRg at *
    rw [f _ _ (by omega), f _ _ (by omega), f _ _ (by omega), f _ _ (by omega), f _ _ (by omega)]
    exact g⟩
  exact (c_miss19 ha hq h1 h2 h3 zK 0 s (Nat.zero_le _) hc' p.1).imp (fun _ t g => ⟨g.1, fun c j h => (g.2 c j h).trans (f c j h)⟩)
