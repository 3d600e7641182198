/-! BOXES OF THE CLASS: meeting, common, around, area, joining -/
def encH (h : Bx) : Int := if h.1 < 0 then -1 else enc h
theorem bOk.n {b : Bx} (h : bOk b) : ¬ b.1 < 0 := by
  dsimp only [bOk] at h
  omega
theorem encH_ok {b : Bx} (h : bOk b) : encH b = enc b := if_neg h.n
theorem enc_ne {b : Bx} (h : bOk b) : enc b ≠ -1 := by
  have := enc_bd h.s
  omega
theorem p_max {x y : Int} {σ : zS} : g_jMath_max_289 x y σ = some (zmx x y, σ) := by
  unfold g_jMath_max_289 zmx
  by_cases c : x < y
  · rw [if_pos c, if_pos c]
  · rw [if_neg c, if_neg c]
theorem p_min {x y : Int} {σ : zS} : g_jMath_min_291 x y σ = some (zmn x y, σ) := by
  unfold g_jMath_min_291 zmn
  by_cases c : y < x
  · rw [if_pos c, if_neg (by omega)]
  · rw [if_neg c]
    by_cases c2 : x < y
    · rw [if_pos c2]
    · rw [if_neg c2, show x = y by omega]
theorem c_meet {a b : Bx} (ha : bOk a) (hb : bOk b) {σ : zS} : g_b_meet (enc a) (enc b) σ = some (if bMt a b then 1 else 0, σ) := by
  unfold g_b_meet
  rw [if_neg (enc_ne ha), if_neg (enc_ne hb), b_x0 ha.s]
  rw [Option.bind_some]
  try dsimp +instances only
  rw [b_x1 hb.s]
  rw [Option.bind_some]
  try dsimp +instances only
  by_cases c1 : b.2.1 < a.1
  · rw [if_pos c1, if_neg (fun h => by have := h.1; omega)]
  rw [if_neg c1, b_x0 hb.s]
  rw [Option.bind_some]
  try dsimp +instances only
  rw [b_x1 ha.s]
  rw [Option.bind_some]
  try dsimp +instances only
  by_cases c2 : a.2.1 < b.1
  · rw [if_pos c2, if_neg (fun h => by have := h.2.1; omega)]
  rw [if_neg c2, b_y0 ha.s]
  rw [Option.bind_some]
  try dsimp +instances only
  rw [b_y1 hb.s]
  rw [Option.bind_some]
  try dsimp +instances only
  by_cases c3 : b.2.2.2 < a.2.2.1
  · rw [if_pos c3, if_neg (fun h => by have := h.2.2.1; omega)]
  rw [if_neg c3, b_y0 hb.s]
  rw [Option.bind_some]
  try dsimp +instances only
  rw [b_y1 ha.s]
  rw [Option.bind_some]
  try dsimp +instances only
  by_cases c4 : a.2.2.2 < b.2.2.1
  · rw [if_pos c4, if_neg (fun h => by have := h.2.2.2; omega)]
  rw [if_neg c4, if_pos ⟨by omega, by omega, by omega, by omega⟩]
theorem c_meetH {h b : Bx} (hh : h.1 < 0 ∨ bOk h) (hb : bOk b) {σ : zS} : g_b_meet (encH h) (enc b) σ = some (if 0 ≤ h.1 ∧ bMt h b then 1 else 0, σ) := by
  by_cases c : h.1 < 0
  · unfold g_b_meet encH
    rw [if_pos c, if_pos rfl, if_neg (fun k => by omega)]
  · have ok := hh.resolve_left c
    rw [encH_ok ok, c_meet ok hb]
    by_cases c2 : bMt h b
    · rw [if_pos c2, if_pos ⟨by omega, c2⟩]
    · rw [if_neg c2, if_neg (fun k => c2 k.2)]
theorem c_common {h b : Bx} (hh : h.1 < 0 ∨ bOk h) (hb : bOk b) {σ : zS} : g_b_common (encH h) (enc b) σ = some (if 0 ≤ h.1 ∧ bMt h b then enc (bCom h b) else -1, σ) := by
  unfold g_b_common
  rw [c_meetH hh hb]
  rw [Option.bind_some]
  try dsimp +instances only
  by_cases c : 0 ≤ h.1 ∧ bMt h b
  · have ok := hh.resolve_left (by omega)
    rw [if_pos c, if_pos c, if_pos (show (1 : Int) ≠ 0 by decide), encH_ok ok, b_x0 ok.s]
    rw [Option.bind_some]
    try dsimp +instances only
    rw [b_x0 hb.s]
    rw [Option.bind_some]
    try dsimp +instances only
    rw [p_max]
    rw [Option.bind_some]
    try dsimp +instances only
    rw [b_x1 ok.s]
    rw [Option.bind_some]
    try dsimp +instances only
    rw [b_x1 hb.s]
    rw [Option.bind_some]
    try dsimp +instances only
    rw [p_min]
    rw [Option.bind_some]
    try dsimp +instances only
    rw [b_y0 ok.s]
    rw [Option.bind_some]
    try dsimp +instances only
    rw [b_y0 hb.s]
    rw [Option.bind_some]
    try dsimp +instances only
    rw [p_max]
    rw [Option.bind_some]
    try dsimp +instances only
    rw [b_y1 ok.s]
    rw [Option.bind_some]
    try dsimp +instances only
    rw [b_y1 hb.s]
    rw [Option.bind_some]
    try dsimp +instances only
    rw [p_min]
    rw [Option.bind_some]
    try dsimp +instances only
    have e := b_of (b := bCom h b) (bCom_ok ok hb c.2).1.s σ
    have e : g_b_of (zmx h.1 b.1) (zmn h.2.1 b.2.1) (zmx h.2.2.1 b.2.2.1) (zmn h.2.2.2 b.2.2.2) σ = some (enc (bCom h b), σ) := e
    rw [e]
    rfl
  · rw [if_neg c, if_neg c, if_neg (show ¬ (0 : Int) ≠ 0 by decide)]
theorem c_around {a b : Bx} (ha : a.1 < 0 ∨ bOk a) (hb : b.1 < 0 ∨ bOk b) {σ : zS} : g_b_around (encH a) (encH b) σ = some (encH (if b.1 < 0 then a else bAro a b), σ) := by
  unfold g_b_around
  by_cases c1 : a.1 < 0
  · have e1 : encH a = -1 := if_pos c1
    rw [e1, if_neg (by decide)]
    by_cases c2 : b.1 < 0
    · have e2 : encH b = -1 := if_pos c2
      rw [e2, if_pos c2, e1]
    · rw [if_neg c2, bAro_neg (by omega)]
  · have ka := ha.resolve_left c1
    rw [encH_ok ka, if_pos (enc_ne ka)]
    by_cases c2 : b.1 < 0
    · have e2 : encH b = -1 := if_pos c2
      rw [e2, if_neg (by decide), if_pos c2, encH_ok ka]
    · have kb := hb.resolve_left c2
      rw [encH_ok kb, if_pos (enc_ne kb), if_neg c2, encH_ok (bAro_ok ka kb).1, b_x0 ka.s]
      rw [Option.bind_some]
      try dsimp +instances only
      rw [b_x0 kb.s]
      rw [Option.bind_some]
      try dsimp +instances only
      rw [p_min]
      rw [Option.bind_some]
      try dsimp +instances only
      rw [b_x1 ka.s]
      rw [Option.bind_some]
      try dsimp +instances only
      rw [b_x1 kb.s]
      rw [Option.bind_some]
      try dsimp +instances only
      rw [p_max]
      rw [Option.bind_some]
      try dsimp +instances only
      rw [b_y0 ka.s]
      rw [Option.bind_some]
      try dsimp +instances only
      rw [b_y0 kb.s]
      rw [Option.bind_some]
      try dsimp +instances only
      rw [p_min]
      rw [Option.bind_some]
      try dsimp +instances only
      rw [b_y1 ka.s]
      rw [Option.bind_some]
      try dsimp +instances only
      rw [b_y1 kb.s]
      rw [Option.bind_some]
      try dsimp +instances only
      rw [p_max]
      rw [Option.bind_some]
      try dsimp +instances only
      have e := b_of (b := bAro a b) (bAro_ok ka kb).1.s σ
      rw [bAro_pos (show 0 ≤ a.1 by omega)] at e ⊢
      have e : g_b_of (zmn a.1 b.1) (zmx a.2.1 b.2.1) (zmn a.2.2.1 b.2.2.1) (zmx a.2.2.2 b.2.2.2) σ = some (enc (zmn a.1 b.1, zmx a.2.1 b.2.1, zmn a.2.2.1 b.2.2.1, zmx a.2.2.2 b.2.2.2), σ) := e
      rw [e]
      rfl
theorem c_area {b : Bx} (hb : bOk b) {σ : zS} : g_b_area (enc b) σ = some (bArea b, σ) := by
  unfold g_b_area bArea
  rw [b_x1 hb.s]
  rw [Option.bind_some]
  try dsimp +instances only
  rw [b_x0 hb.s]
  rw [Option.bind_some]
  try dsimp +instances only
  rw [b_y1 hb.s]
  rw [Option.bind_some]
  try dsimp +instances only
  rw [b_y0 hb.s]
  rfl
theorem en_1023 {b : Bx} (h : sOk b) : iAnd (enc b) 1023 = b.1 + 32 * b.2.1 := by
  have hb := enc_bd h
  rw [iAnd_1023 (by omega) (by omega)]
  dsimp only [sOk] at h
  unfold enc
  omega
theorem en_s10 {b : Bx} (h : sOk b) : iShr (enc b) 10 = b.2.2.1 + 32 * b.2.2.2 := by
  have hb := enc_bd h
  have e := iShr_d (x := enc b) (k := 10) (by decide) (by omega) (by omega)
  have e : iShr (enc b) 10 = enc b / 1024 := e
  rw [e]
  dsimp only [sOk] at h
  unfold enc
  omega
theorem c_join {a b : Bx} (ha : bOk a) (hb : bOk b) {σ : zS} : g_b_join (enc a) (enc b) σ = some (if bOne a b then 1 else 0, σ) := by
  have hA := ha
  have hB := hb
  dsimp only [bOk] at hA hB
  have L111 : ∀ (x y : Int) (s : zS), g_b_join_L111 x y s = some (if x = 0 ∨ y = 0 then 0 else 1, s) := fun x y s => by
    unfold g_b_join_L111
    by_cases c1 : x = 0
    · rw [if_pos c1, if_pos (Or.inl c1)]
    · rw [if_neg c1]
      by_cases c2 : y = 0
      · rw [if_pos c2, if_pos (Or.inr c2)]
      · rw [if_neg c2, if_neg (fun h => h.elim c1 c2)]
  have L100 : ∀ (x y z w : Int) (s : zS), g_b_join_L100 x y z w s = some (if (x ≠ 0 ∧ w ≠ 0) ∨ (y ≠ 0 ∧ z ≠ 0) then 1 else 0, s) := fun x y z w s => by
    unfold g_b_join_L100
    rw [L111]
    by_cases c1 : x = 0
    · rw [if_pos c1]
      by_cases c2 : y = 0 ∨ z = 0
      · rw [if_pos c2, if_neg (by omega)]
      · rw [if_neg c2, if_pos (by omega)]
    · rw [if_neg c1]
      by_cases c3 : w ≠ 0
      · rw [if_pos c3, if_pos (Or.inl ⟨c1, c3⟩)]
      · rw [if_neg c3]
        by_cases c2 : y = 0 ∨ z = 0
        · rw [if_pos c2, if_neg (by omega)]
        · rw [if_neg c2, if_pos (by omega)]
  have L82 : ∀ (x y z : Int) (s : zS), g_b_join_L82 (enc a) (enc b) x y z s = some (if (x ≠ 0 ∧ a.2.2.1 = b.2.2.1 ∧ a.2.2.2 = b.2.2.2) ∨ (y ≠ 0 ∧ z ≠ 0) then 1 else 0, s) := fun x y z s => by
    unfold g_b_join_L82
    rw [en_s10 ha.s, en_s10 hb.s]
    by_cases c : a.2.2.1 + 32 * a.2.2.2 ≠ b.2.2.1 + 32 * b.2.2.2
    · rw [if_pos c, L100]
      by_cases c2 : y ≠ 0 ∧ z ≠ 0
      · rw [if_pos (Or.inr c2), if_pos (Or.inr c2)]
      · rw [if_neg (fun h => h.elim (fun k => k.2 rfl) c2), if_neg (fun h => h.elim (fun k => c (by omega)) c2)]
    · rw [if_neg c, L100]
      by_cases c1 : x ≠ 0
      · rw [if_pos (Or.inl ⟨c1, by decide⟩), if_pos (Or.inl ⟨c1, by omega⟩)]
      · by_cases c2 : y ≠ 0 ∧ z ≠ 0
        · rw [if_pos (Or.inr c2), if_pos (Or.inr c2)]
        · rw [if_neg (fun h => h.elim (fun k => c1 k.1) c2), if_neg (fun h => h.elim (fun k => c1 k.1) c2)]
  have L63 : ∀ (x y : Int) (s : zS), g_b_join_L63 (enc a) (enc b) x y s = some (if (x ≠ 0 ∧ a.2.2.1 = b.2.2.1 ∧ a.2.2.2 = b.2.2.2) ∨ (y ≠ 0 ∧ a.1 = b.1 ∧ a.2.1 = b.2.1) then 1 else 0, s) := fun x y s => by
    unfold g_b_join_L63
    rw [en_1023 ha.s, en_1023 hb.s]
    by_cases c : a.1 + 32 * a.2.1 ≠ b.1 + 32 * b.2.1
    · rw [if_pos c, L82]
      by_cases c2 : x ≠ 0 ∧ a.2.2.1 = b.2.2.1 ∧ a.2.2.2 = b.2.2.2
      · rw [if_pos (Or.inl c2), if_pos (Or.inl c2)]
      · rw [if_neg (fun h => h.elim c2 (fun k => k.2 rfl)), if_neg (fun h => h.elim c2 (fun k => c (by omega)))]
    · rw [if_neg c, L82]
      by_cases c2 : x ≠ 0 ∧ a.2.2.1 = b.2.2.1 ∧ a.2.2.2 = b.2.2.2
      · rw [if_pos (Or.inl c2), if_pos (Or.inl c2)]
      · by_cases c1 : y ≠ 0
        · rw [if_pos (Or.inr ⟨c1, by decide⟩), if_pos (Or.inr ⟨c1, by omega⟩)]
        · rw [if_neg (fun h => h.elim c2 (fun k => c1 k.1)), if_neg (fun h => h.elim c2 (fun k => c1 k.1))]
  have L31 : ∀ (x : Int) (s : zS), g_b_join_L31 (enc a) (enc b) x s = some (if (x ≠ 0 ∧ a.2.2.1 = b.2.2.1 ∧ a.2.2.2 = b.2.2.2) ∨ ((a.2.2.2 + 1 = b.2.2.1 ∨ b.2.2.2 + 1 = a.2.2.1) ∧ a.1 = b.1 ∧ a.2.1 = b.2.1) then 1 else 0, s) := fun x s => by
    unfold g_b_join_L31
    rw [b_y1 ha.s]
    rw [Option.bind_some]
    try dsimp +instances only
    rw [b_y0 hb.s]
    rw [Option.bind_some]
    try dsimp +instances only
    rw [w32_id (x := a.2.2.2 + 1) (by omega) (by omega)]
    have go : ∀ y : Int, (y ≠ 0 ↔ (a.2.2.2 + 1 = b.2.2.1 ∨ b.2.2.2 + 1 = a.2.2.1)) → g_b_join_L63 (enc a) (enc b) x y s = some (if (x ≠ 0 ∧ a.2.2.1 = b.2.2.1 ∧ a.2.2.2 = b.2.2.2) ∨ ((a.2.2.2 + 1 = b.2.2.1 ∨ b.2.2.2 + 1 = a.2.2.1) ∧ a.1 = b.1 ∧ a.2.1 = b.2.1) then 1 else 0, s) := fun y hy => by
      rw [L63]
      by_cases c2 : x ≠ 0 ∧ a.2.2.1 = b.2.2.1 ∧ a.2.2.2 = b.2.2.2
      · rw [if_pos (Or.inl c2), if_pos (Or.inl c2)]
      · by_cases c1 : y ≠ 0 ∧ a.1 = b.1 ∧ a.2.1 = b.2.1
        · rw [if_pos (Or.inr c1), if_pos (Or.inr ⟨hy.mp c1.1, c1.2⟩)]
        · rw [if_neg (fun h => h.elim c2 c1), if_neg (fun h => h.elim c2 (fun k => c1 ⟨hy.mpr k.1, k.2⟩))]
    by_cases c1 : a.2.2.2 + 1 = b.2.2.1
    · rw [if_pos c1]
      unfold g_b_join_L58
      exact go 1 ⟨fun _ => Or.inl c1, fun _ => by decide⟩
    · rw [if_neg c1, b_y1 hb.s]
      rw [Option.bind_some]
      try dsimp +instances only
      rw [b_y0 ha.s]
      rw [Option.bind_some]
      try dsimp +instances only
      rw [w32_id (x := b.2.2.2 + 1) (by omega) (by omega)]
      by_cases c3 : b.2.2.2 + 1 = a.2.2.1
      · rw [if_neg (fun h => h c3)]
        unfold g_b_join_L58
        exact go 1 ⟨fun _ => Or.inr c3, fun _ => by decide⟩
      · rw [if_pos c3]
        exact go 0 ⟨fun h => absurd rfl h, fun h => h.elim (fun k => absurd k c1) (fun k => absurd k c3)⟩
  unfold g_b_join
  rw [b_x1 ha.s]
  rw [Option.bind_some]
  try dsimp +instances only
  rw [b_x0 hb.s]
  rw [Option.bind_some]
  try dsimp +instances only
  rw [w32_id (x := a.2.1 + 1) (by omega) (by omega)]
  have go : ∀ x : Int, (x ≠ 0 ↔ (a.2.1 + 1 = b.1 ∨ b.2.1 + 1 = a.1)) → g_b_join_L31 (enc a) (enc b) x σ = some (if bOne a b then 1 else 0, σ) := fun x hx => by
    rw [L31]
    by_cases c : bOne a b
    · rw [if_pos c, if_pos (by
        rcases c with k | k
        · exact Or.inl ⟨hx.mpr k.2.2, k.1, k.2.1⟩
        · exact Or.inr ⟨k.2.2, k.1, k.2.1⟩)]
    · rw [if_neg c, if_neg (fun h => c (by
        rcases h with k | k
        · exact Or.inl ⟨k.2.1, k.2.2, hx.mp k.1⟩
        · exact Or.inr ⟨k.2.1, k.2.2, k.1⟩))]
  by_cases c1 : a.2.1 + 1 = b.1
  · rw [if_pos c1]
    unfold g_b_join_L26
    exact go 1 ⟨fun _ => Or.inl c1, fun _ => by decide⟩
  · rw [if_neg c1, b_x1 hb.s]
    rw [Option.bind_some]
    try dsimp +instances only
    rw [b_x0 ha.s]
    rw [Option.bind_some]
    try dsimp +instances only
    rw [w32_id (x := b.2.1 + 1) (by omega) (by omega)]
    by_cases c3 : b.2.1 + 1 = a.1
    · rw [if_neg (fun h => h c3)]
      unfold g_b_join_L26
      exact go 1 ⟨fun _ => Or.inr c3, fun _ => by decide⟩
    · rw [if_pos c3]
      exact go 0 ⟨fun h => absurd rfl h, fun h => h.elim (fun k => absurd k c1) (fun k => absurd k c3)⟩
