section
/-! 53.cls3 -/
/-! THE CLASS over the typed memory: each method answers, keeps the invariant, changes what fw_.. names (printed by wip/zv.py) -/
def fw_fi_gather (a0 : Nat) (a : Nat) (j : Int) : Bool := (a == (a0 + 1)) || ((a == (a0 + 2)) || (((a == a0 && j == 2)) || false))
set_option maxHeartbeats 4000000 in
theorem g_fi_gather_L8_sp {a0 : Nat} (ha0 : a0 = 60 ∨ a0 = 70) {σ0 : zS} : ∀ (n : Nat) (y2 : Int) (x4 : Int) (σ : zS), CI σ → fr (fw_fi_gather a0) σ0 σ → (0 ≤ x4 ∧ x4 ≤ 60 ∧ 0 ≤ σ a0 2 ∧ σ a0 2 ≤ x4) → (60 - x4) < (n : Int) → zO (g_fi_gather_L8 a0 n y2 x4 σ) (fun v s => CI s ∧ fr (fw_fi_gather a0) σ0 s ∧ (True))
  | 0, _, _, σ, _, _, hi, hm => by exfalso; omega
  | n + 1, y2, x4, σ, H, F, hi, hm => by
    have ri_a0_2 := CI.cf (a := a0) H (by omega)
    unfold g_fi_gather_L8
    try dsimp +instances only
    generalize hv_v_11 : σ 41 4 = v_11
    have rv_v_11 := CI.c4 (a := 41) H (by omega)
    rw [hv_v_11] at rv_v_11
    refine zO.ite (fun c_1 => ?_) (fun c_1 => ?_)
    ·
      try dsimp +instances only
      exact zO.ret ⟨H, F, trivial⟩
    ·
      try dsimp +instances only
      refine zO.ite (fun c_2 => ?_) (fun c_2 => ?_)
      ·
        try dsimp +instances only
        exact zO.ret ⟨H, F, trivial⟩
      ·
        try dsimp +instances only
        refine zO.gd (by omega) ?_
        try dsimp +instances only
        generalize hv_v_30 : σ 45 x4 = v_30
        refine zO.bindp (g_so_isRow_sp) (fun r_35 p_35 => ?_)
        try dsimp +instances only
        refine zO.ite (fun c_4 => ?_) (fun c_4 => ?_)
        ·
          try dsimp +instances only
          unfold g_fi_gather_L89
          try dsimp +instances only
          try have ew_5 := w32_id (x := x4 + 1) (by omega) (by omega)
          exact g_fi_gather_L8_sp (by omega) n y2 (w32 (x4 + 1)) σ H F (by omega) (by omega)
        ·
          try dsimp +instances only
          refine zO.ite (fun c_6 => ?_) (fun c_6 => ?_)
          ·
            try dsimp +instances only
            unfold g_fi_gather_L89
            try dsimp +instances only
            try have ew_7 := w32_id (x := x4 + 1) (by omega) (by omega)
            exact g_fi_gather_L8_sp (by omega) n y2 (w32 (x4 + 1)) σ H F (by omega) (by omega)
          ·
            try dsimp +instances only
            generalize hv_v_57 : σ a0 2 = v_57
            have rv_v_57 := CI.cf (a := a0) H (by omega)
            rw [hv_v_57] at rv_v_57
            refine zO.gd (by omega) ?_
            try dsimp +instances only
            generalize hs_s_62 : zu σ (a0 + 1) v_57 v_30 = s_62
            have H_62 : CI s_62 := by rw [← hs_s_62]; exact CI_zun H (by omega) (by omega) (by rcases ha0 with rfl | rfl <;> rfl)
            have F_62 : fr (fw_fi_gather a0) σ0 s_62 := by rw [← hs_s_62]; exact fr.zu F (by omega) (bl (beq_self_eq_true _))
            have e_s_62_a0_2 : s_62 a0 2 = σ a0 2 := by rw [← hs_s_62]; exact zu_c (by omega)
            generalize hv_v_68 : s_62 a0 2 = v_68
            have rv_v_68 := CI.cf (a := a0) H_62 (by omega)
            rw [hv_v_68] at rv_v_68
            refine zO.gd (by omega) ?_
            try dsimp +instances only
            generalize hv_v_77 : s_62 44 v_30 = v_77
            refine zO.gd (by omega) ?_
            try dsimp +instances only
            generalize hs_s_78 : zu s_62 (a0 + 2) v_68 v_77 = s_78
            have H_78 : CI s_78 := by rw [← hs_s_78]; exact CI_zun H_62 (by omega) (by omega) (by rcases ha0 with rfl | rfl <;> rfl)
            have F_78 : fr (fw_fi_gather a0) σ0 s_78 := by rw [← hs_s_78]; exact fr.zu F_62 (by omega) (br (bl (beq_self_eq_true _)))
            have e_s_78_a0_2 : s_78 a0 2 = s_62 a0 2 := by rw [← hs_s_78]; exact zu_c (by omega)
            generalize hv_v_81 : s_78 a0 2 = v_81
            have rv_v_81 := CI.cf (a := a0) H_78 (by omega)
            rw [hv_v_81] at rv_v_81
            try have ew_8 := w32_id (x := v_81 + 1) (by omega) (by omega)
            generalize hs_s_86 : zu s_78 a0 2 (w32 (v_81 + 1)) = s_86
            have H_86 : CI s_86 := by rw [← hs_s_86]; exact CI_zuy H_78 (by omega) (by omega) (lo := 0) (hi := 60) (by rcases ha0 with rfl | rfl <;> rfl) (by omega) (by omega)
            have F_86 : fr (fw_fi_gather a0) σ0 s_86 := by rw [← hs_s_86]; exact fr.zu F_78 (by omega) (br (br (bl (zbb _ _))))
            have e_s_86_a0_2 : s_86 a0 2 = (w32 (v_81 + 1)) := by rw [← hs_s_86]; exact zu_e rfl
            unfold g_fi_gather_L89
            try dsimp +instances only
            try have ew_9 := w32_id (x := x4 + 1) (by omega) (by omega)
            exact g_fi_gather_L8_sp (by omega) n y2 (w32 (x4 + 1)) s_86 H_86 F_86 (by omega) (by omega)
theorem g_fi_gather_sp {a0 : Nat} (ha0 : a0 = 60 ∨ a0 = 70) {y2 : Int} {σ : zS} (H : CI σ) : zO (g_fi_gather a0 y2 σ) (fun v s => CI s ∧ fr (fw_fi_gather a0) σ s ∧ (True)) := by
  have F : fr (fw_fi_gather a0) σ σ := fr.refl σ
  have ri_a0_2 := CI.cf (a := a0) H (by omega)
  unfold g_fi_gather
  try dsimp +instances only
  generalize hs_s_2 : zu σ a0 2 0 = s_2
  have H_2 : CI s_2 := by rw [← hs_s_2]; exact CI_zuy H (by omega) (by omega) (lo := 0) (hi := 60) (by rcases ha0 with rfl | rfl <;> rfl) (by omega) (by omega)
  have F_2 : fr (fw_fi_gather a0) σ s_2 := by rw [← hs_s_2]; exact fr.zu F (by omega) (br (br (bl (zbb _ _))))
  have e_s_2_a0_2 : s_2 a0 2 = 0 := by rw [← hs_s_2]; exact zu_e rfl
  exact g_fi_gather_L8_sp (by omega) zK y2 0 s_2 H_2 F_2 (by omega) (by show _ < (1000000 : Int); omega)
set_option maxHeartbeats 4000000 in
theorem g_fi_sumIsOver_L4_sp {a0 : Nat} (ha0 : a0 = 60 ∨ a0 = 70) {σ : zS} : ∀ (n : Nat) (y1 : Int) (x3 : Int) (H : CI σ), (0 ≤ x3 ∧ x3 ≤ 60) → (60 - x3) < (n : Int) → zOp (g_fi_sumIsOver_L4 a0 n y1 x3 σ) σ (fun v => True)
  | 0, _, _, _, hi, hm => by exfalso; omega
  | n + 1, y1, x3, H, hi, hm => by
    unfold g_fi_sumIsOver_L4
    try dsimp +instances only
    generalize hv_v_6 : σ a0 2 = v_6
    have rv_v_6 := CI.cf (a := a0) H (by omega)
    rw [hv_v_6] at rv_v_6
    refine zOp.ite (fun c_1 => ?_) (fun c_1 => ?_)
    ·
      try dsimp +instances only
      exact zOp.ret trivial
    ·
      try dsimp +instances only
      refine zOp.gd (by omega) ?_
      try dsimp +instances only
      generalize hv_v_18 : σ (a0 + 2) x3 = v_18
      refine zOp.gd (by omega) ?_
      try dsimp +instances only
      refine zOp.ite (fun c_2 => ?_) (fun c_2 => ?_)
      ·
        try dsimp +instances only
        refine zOp.ite (fun c_3 => ?_) (fun c_3 => ?_)
        ·
          try dsimp +instances only
          unfold g_fi_sumIsOver_L60
          try dsimp +instances only
          refine zOp.ite (fun c_4 => ?_) (fun c_4 => ?_)
          ·
            try dsimp +instances only
            try have ew_5 := w32_id (x := x3 + 1) (by omega) (by omega)
            exact g_fi_sumIsOver_L4_sp (by omega) n (w64 (y1 + v_18)) (w32 (x3 + 1)) H (by omega) (by omega)
          ·
            try dsimp +instances only
            exact zOp.ret trivial
        ·
          try dsimp +instances only
          unfold g_fi_sumIsOver_L60
          try dsimp +instances only
          refine zOp.ite (fun c_6 => ?_) (fun c_6 => ?_)
          ·
            try dsimp +instances only
            try have ew_7 := w32_id (x := x3 + 1) (by omega) (by omega)
            exact g_fi_sumIsOver_L4_sp (by omega) n (w64 (y1 + v_18)) (w32 (x3 + 1)) H (by omega) (by omega)
          ·
            try dsimp +instances only
            exact zOp.ret trivial
      ·
        try dsimp +instances only
        refine zOp.ite (fun c_8 => ?_) (fun c_8 => ?_)
        ·
          try dsimp +instances only
          unfold g_fi_sumIsOver_L60
          try dsimp +instances only
          refine zOp.ite (fun c_9 => ?_) (fun c_9 => ?_)
          ·
            try dsimp +instances only
            try have ew_10 := w32_id (x := x3 + 1) (by omega) (by omega)
            exact g_fi_sumIsOver_L4_sp (by omega) n (w64 (y1 + v_18)) (w32 (x3 + 1)) H (by omega) (by omega)
          ·
            try dsimp +instances only
            exact zOp.ret trivial
        ·
          try dsimp +instances only
          unfold g_fi_sumIsOver_L60
          try dsimp +instances only
          refine zOp.ite (fun c_11 => ?_) (fun c_11 => ?_)
          ·
            try dsimp +instances only
            try have ew_12 := w32_id (x := x3 + 1) (by omega) (by omega)
            exact g_fi_sumIsOver_L4_sp (by omega) n (w64 (y1 + v_18)) (w32 (x3 + 1)) H (by omega) (by omega)
          ·
            try dsimp +instances only
            exact zOp.ret trivial
theorem g_fi_sumIsOver_sp {a0 : Nat} (ha0 : a0 = 60 ∨ a0 = 70) {σ : zS} (H : CI σ) : zOp (g_fi_sumIsOver a0 σ) σ (fun v => True) := by
  unfold g_fi_sumIsOver
  try dsimp +instances only
  exact g_fi_sumIsOver_L4_sp (by omega) zK 0 0 H (by omega) (by show _ < (1000000 : Int); omega)
set_option maxHeartbeats 4000000 in
theorem g_fi_sum_L15_sp {a0 : Nat} (ha0 : a0 = 60 ∨ a0 = 70) {σ : zS} : ∀ (n : Nat) (y1 : Int) (x3 : Int) (H : CI σ), (0 ≤ x3 ∧ x3 ≤ 60) → (60 - x3) < (n : Int) → zOp (g_fi_sum_L15 a0 n y1 x3 σ) σ (fun v => True)
  | 0, _, _, _, hi, hm => by exfalso; omega
  | n + 1, y1, x3, H, hi, hm => by
    unfold g_fi_sum_L15
    try dsimp +instances only
    generalize hv_v_17 : σ a0 2 = v_17
    have rv_v_17 := CI.cf (a := a0) H (by omega)
    rw [hv_v_17] at rv_v_17
    refine zOp.ite (fun c_1 => ?_) (fun c_1 => ?_)
    ·
      try dsimp +instances only
      exact zOp.ret trivial
    ·
      try dsimp +instances only
      refine zOp.gd (by omega) ?_
      try dsimp +instances only
      generalize hv_v_29 : σ (a0 + 2) x3 = v_29
      try have ew_2 := w32_id (x := x3 + 1) (by omega) (by omega)
      exact g_fi_sum_L15_sp (by omega) n (w64 (y1 + v_29)) (w32 (x3 + 1)) H (by omega) (by omega)
theorem g_fi_sum_sp {a0 : Nat} (ha0 : a0 = 60 ∨ a0 = 70) {σ : zS} (H : CI σ) : zOp (g_fi_sum a0 σ) σ (fun v => True) := by
  unfold g_fi_sum
  try dsimp +instances only
  refine zOp.bindp (g_fi_sumIsOver_sp (by omega) H) (fun r_1 p_1 => ?_)
  try dsimp +instances only
  refine zOp.ite (fun c_4 => ?_) (fun c_4 => ?_)
  ·
    try dsimp +instances only
    exact g_fi_sum_L15_sp (by omega) zK 0 0 H (by omega) (by show _ < (1000000 : Int); omega)
  ·
    try dsimp +instances only
    exact zOp.ret trivial
theorem g_fi_mean_sp {a0 : Nat} (ha0 : a0 = 60 ∨ a0 = 70) {σ : zS} (H : CI σ) : zOp (g_fi_mean a0 σ) σ (fun v => True) := by
  unfold g_fi_mean
  try dsimp +instances only
  generalize hv_v_1 : σ a0 2 = v_1
  have rv_v_1 := CI.cf (a := a0) H (by omega)
  rw [hv_v_1] at rv_v_1
  refine zOp.ite (fun c_1 => ?_) (fun c_1 => ?_)
  ·
    try dsimp +instances only
    refine zOp.bindp (g_fi_sumIsOver_sp (by omega) H) (fun r_12 p_12 => ?_)
    try dsimp +instances only
    refine zOp.ite (fun c_3 => ?_) (fun c_3 => ?_)
    ·
      try dsimp +instances only
      refine zOp.bindp (g_fi_sum_sp (by omega) H) (fun r_25 p_25 => ?_)
      try dsimp +instances only
      generalize hv_v_29 : σ a0 2 = v_29
      have rv_v_29 := CI.cf (a := a0) H (by omega)
      rw [hv_v_29] at rv_v_29
      refine zOp.bindp (g_jMath_floorDiv_sp (by omega)) (fun r_33 p_33 => ?_)
      try dsimp +instances only
      exact zOp.ret trivial
    ·
      try dsimp +instances only
      exact zOp.ret trivial
  ·
    try dsimp +instances only
    exact zOp.ret trivial
set_option maxHeartbeats 4000000 in
theorem g_fi_leastWorth_L9_sp {a0 : Nat} (ha0 : a0 = 60 ∨ a0 = 70) {σ : zS} : ∀ (n : Nat) (y1 : Int) (x3 : Int) (H : CI σ), (0 ≤ x3 ∧ x3 ≤ 60) → (60 - x3) < (n : Int) → zOp (g_fi_leastWorth_L9 a0 n y1 x3 σ) σ (fun v => True)
  | 0, _, _, _, hi, hm => by exfalso; omega
  | n + 1, y1, x3, H, hi, hm => by
    unfold g_fi_leastWorth_L9
    try dsimp +instances only
    generalize hv_v_11 : σ a0 2 = v_11
    have rv_v_11 := CI.cf (a := a0) H (by omega)
    rw [hv_v_11] at rv_v_11
    refine zOp.ite (fun c_1 => ?_) (fun c_1 => ?_)
    ·
      try dsimp +instances only
      exact zOp.ret trivial
    ·
      try dsimp +instances only
      refine zOp.gd (by omega) ?_
      try dsimp +instances only
      generalize hv_v_23 : σ (a0 + 2) x3 = v_23
      refine zOp.bindp (g_jMath_min_292_sp) (fun r_24 p_24 => ?_)
      try dsimp +instances only
      try have ew_3 := w32_id (x := x3 + 1) (by omega) (by omega)
      exact g_fi_leastWorth_L9_sp (by omega) n r_24 (w32 (x3 + 1)) H (by omega) (by omega)
theorem g_fi_leastWorth_sp {a0 : Nat} (ha0 : a0 = 60 ∨ a0 = 70) {σ : zS} (H : CI σ) : zOp (g_fi_leastWorth a0 σ) σ (fun v => True) := by
  unfold g_fi_leastWorth
  try dsimp +instances only
  generalize hv_v_5 : σ (a0 + 2) 0 = v_5
  exact g_fi_leastWorth_L9_sp (by omega) zK v_5 1 H (by omega) (by show _ < (1000000 : Int); omega)
set_option maxHeartbeats 4000000 in
theorem g_fi_mostWorth_L9_sp {a0 : Nat} (ha0 : a0 = 60 ∨ a0 = 70) {σ : zS} : ∀ (n : Nat) (y1 : Int) (x3 : Int) (H : CI σ), (0 ≤ x3 ∧ x3 ≤ 60) → (60 - x3) < (n : Int) → zOp (g_fi_mostWorth_L9 a0 n y1 x3 σ) σ (fun v => True)
  | 0, _, _, _, hi, hm => by exfalso; omega
  | n + 1, y1, x3, H, hi, hm => by
    unfold g_fi_mostWorth_L9
    try dsimp +instances only
    generalize hv_v_11 : σ a0 2 = v_11
    have rv_v_11 := CI.cf (a := a0) H (by omega)
    rw [hv_v_11] at rv_v_11
    refine zOp.ite (fun c_1 => ?_) (fun c_1 => ?_)
    ·
      try dsimp +instances only
      exact zOp.ret trivial
    ·
      try dsimp +instances only
      refine zOp.gd (by omega) ?_
      try dsimp +instances only
      generalize hv_v_23 : σ (a0 + 2) x3 = v_23
      refine zOp.bindp (g_jMath_max_290_sp) (fun r_24 p_24 => ?_)
      try dsimp +instances only
      try have ew_3 := w32_id (x := x3 + 1) (by omega) (by omega)
      exact g_fi_mostWorth_L9_sp (by omega) n r_24 (w32 (x3 + 1)) H (by omega) (by omega)
theorem g_fi_mostWorth_sp {a0 : Nat} (ha0 : a0 = 60 ∨ a0 = 70) {σ : zS} (H : CI σ) : zOp (g_fi_mostWorth a0 σ) σ (fun v => True) := by
  unfold g_fi_mostWorth
  try dsimp +instances only
  generalize hv_v_5 : σ (a0 + 2) 0 = v_5
  exact g_fi_mostWorth_L9_sp (by omega) zK v_5 1 H (by omega) (by show _ < (1000000 : Int); omega)
theorem g_fi_difference_sp {y0 : Int} {y2 : Int} {σ : zS} : zOp (g_fi_difference y0 y2 σ) σ (fun v => True) := by
  unfold g_fi_difference
  try dsimp +instances only
  refine zOp.ite (fun c_1 => ?_) (fun c_1 => ?_)
  ·
    try dsimp +instances only
    exact zOp.ret trivial
  ·
    try dsimp +instances only
    exact zOp.ret trivial
set_option maxHeartbeats 4000000 in
theorem g_fi_kinds_L17_sp {a0 : Nat} (ha0 : a0 = 60 ∨ a0 = 70) {g4 : Int → Int → zS → Option (Int × zS)} {X2 : Int} {σ : zS} (hg : ∀ y0 y1 : Int, (0 ≤ y1 ∧ y1 = X2 + 1) → zOp (g4 y0 y1 σ) σ (fun v => True)) : ∀ (n : Nat) (x1 : Int) (x2 : Int) (x3 : Int) (x4 : Int) (H : CI σ), (0 ≤ x4 ∧ x4 ≤ x2 ∧ x2 < 60 ∧ x2 = X2) → (60 - x4) < (n : Int) → zOp (g_fi_kinds_L17 a0 g4 n x1 x2 x3 x4 σ) σ (fun v => True)
  | 0, _, _, _, _, _, hi, hm => by exfalso; omega
  | n + 1, x1, x2, x3, x4, H, hi, hm => by
    unfold g_fi_kinds_L17
    try dsimp +instances only
    refine zOp.ite (fun c_1 => ?_) (fun c_1 => ?_)
    ·
      try dsimp +instances only
      unfold g_fi_kinds_L56
      try dsimp +instances only
      refine zOp.ite (fun c_2 => ?_) (fun c_2 => ?_)
      ·
        try dsimp +instances only
        unfold g_fi_kinds_L63
        try dsimp +instances only
        try have ew_3 := w32_id (x := x2 + 1) (by omega) (by omega)
        exact hg x1 (w32 (x2 + 1)) (by omega)
      ·
        try dsimp +instances only
        try have ew_4 := w32_id (x := x1 + 1) (by omega) (by omega)
        unfold g_fi_kinds_L63
        try dsimp +instances only
        try have ew_5 := w32_id (x := x2 + 1) (by omega) (by omega)
        exact hg (w32 (x1 + 1)) (w32 (x2 + 1)) (by omega)
    ·
      try dsimp +instances only
      refine zOp.ite (fun c_6 => ?_) (fun c_6 => ?_)
      ·
        try dsimp +instances only
        unfold g_fi_kinds_L56
        try dsimp +instances only
        refine zOp.ite (fun c_7 => ?_) (fun c_7 => ?_)
        ·
          try dsimp +instances only
          unfold g_fi_kinds_L63
          try dsimp +instances only
          try have ew_8 := w32_id (x := x2 + 1) (by omega) (by omega)
          exact hg x1 (w32 (x2 + 1)) (by omega)
        ·
          try dsimp +instances only
          try have ew_9 := w32_id (x := x1 + 1) (by omega) (by omega)
          unfold g_fi_kinds_L63
          try dsimp +instances only
          try have ew_10 := w32_id (x := x2 + 1) (by omega) (by omega)
          exact hg (w32 (x1 + 1)) (w32 (x2 + 1)) (by omega)
      ·
        try dsimp +instances only
        refine zOp.gd (by omega) ?_
        try dsimp +instances only
        generalize hv_v_33 : σ (a0 + 2) x4 = v_33
        refine zOp.gd (by omega) ?_
        try dsimp +instances only
        generalize hv_v_39 : σ (a0 + 2) x2 = v_39
        refine zOp.ite (fun c_11 => ?_) (fun c_11 => ?_)
        ·
          try dsimp +instances only
          unfold g_fi_kinds_L49
          try dsimp +instances only
          try have ew_12 := w32_id (x := x4 + 1) (by omega) (by omega)
          exact g_fi_kinds_L17_sp (by omega) hg n x1 x2 0 (w32 (x4 + 1)) H (by omega) (by omega)
        ·
          try dsimp +instances only
          unfold g_fi_kinds_L49
          try dsimp +instances only
          try have ew_13 := w32_id (x := x4 + 1) (by omega) (by omega)
          exact g_fi_kinds_L17_sp (by omega) hg n x1 x2 1 (w32 (x4 + 1)) H (by omega) (by omega)
set_option maxHeartbeats 4000000 in
theorem g_fi_kinds_L4_sp {a0 : Nat} (ha0 : a0 = 60 ∨ a0 = 70) {σ : zS} : ∀ (n : Nat) (x1 : Int) (x2 : Int) (H : CI σ), (0 ≤ x2 ∧ x2 ≤ 60) → (60 - x2) < (n : Int) → zOp (g_fi_kinds_L4 a0 n x1 x2 σ) σ (fun v => True)
  | 0, _, _, _, hi, hm => by exfalso; omega
  | n + 1, x1, x2, H, hi, hm => by
    unfold g_fi_kinds_L4
    try dsimp +instances only
    generalize hv_v_6 : σ a0 2 = v_6
    have rv_v_6 := CI.cf (a := a0) H (by omega)
    rw [hv_v_6] at rv_v_6
    refine zOp.ite (fun c_14 => ?_) (fun c_14 => ?_)
    ·
      try dsimp +instances only
      exact zOp.ret trivial
    ·
      try dsimp +instances only
      exact g_fi_kinds_L17_sp (X2 := x2) (by omega) (fun y0 y1 hc => g_fi_kinds_L4_sp (by omega) n y0 y1 H (by omega) (by omega)) zK x1 x2 1 0 H (by omega) (by show _ < (1000000 : Int); omega)
theorem g_fi_kinds_sp {a0 : Nat} (ha0 : a0 = 60 ∨ a0 = 70) {σ : zS} (H : CI σ) : zOp (g_fi_kinds a0 σ) σ (fun v => True) := by
  unfold g_fi_kinds
  try dsimp +instances only
  exact g_fi_kinds_L4_sp (by omega) zK 0 0 H (by omega) (by show _ < (1000000 : Int); omega)
theorem g_fi_measured_sp {a0 : Nat} (ha0 : a0 = 60 ∨ a0 = 70) {x1 : Int} {σ : zS} (H : CI σ) : zOp (g_fi_measured a0 x1 σ) σ (fun v => True) := by
  unfold g_fi_measured
  try dsimp +instances only
  generalize hv_v_1 : σ a0 2 = v_1
  have rv_v_1 := CI.cf (a := a0) H (by omega)
  rw [hv_v_1] at rv_v_1
  refine zOp.ite (fun c_1 => ?_) (fun c_1 => ?_)
  ·
    try dsimp +instances only
    unfold g_fi_measured_L21
    try dsimp +instances only
    refine zOp.ite (fun c_2 => ?_) (fun c_2 => ?_)
    ·
      try dsimp +instances only
      generalize hv_v_65 : σ a0 2 = v_65
      have rv_v_65 := CI.cf (a := a0) H (by omega)
      rw [hv_v_65] at rv_v_65
      exact zOp.ret trivial
    ·
      try dsimp +instances only
      refine zOp.ite (fun c_3 => ?_) (fun c_3 => ?_)
      ·
        try dsimp +instances only
        refine zOp.bindp (g_fi_sum_sp (by omega) H) (fun r_71 p_71 => ?_)
        try dsimp +instances only
        exact zOp.ret trivial
      ·
        try dsimp +instances only
        refine zOp.ite (fun c_5 => ?_) (fun c_5 => ?_)
        ·
          try dsimp +instances only
          refine zOp.bindp (g_fi_leastWorth_sp (by omega) H) (fun r_76 p_76 => ?_)
          try dsimp +instances only
          exact zOp.ret trivial
        ·
          try dsimp +instances only
          refine zOp.ite (fun c_7 => ?_) (fun c_7 => ?_)
          ·
            try dsimp +instances only
            refine zOp.bindp (g_fi_mostWorth_sp (by omega) H) (fun r_81 p_81 => ?_)
            try dsimp +instances only
            exact zOp.ret trivial
          ·
            try dsimp +instances only
            refine zOp.ite (fun c_9 => ?_) (fun c_9 => ?_)
            ·
              try dsimp +instances only
              refine zOp.bindp (g_fi_mean_sp (by omega) H) (fun r_86 p_86 => ?_)
              try dsimp +instances only
              exact zOp.ret trivial
            ·
              try dsimp +instances only
              refine zOp.ite (fun c_11 => ?_) (fun c_11 => ?_)
              ·
                try dsimp +instances only
                refine zOp.bindp (g_fi_mostWorth_sp (by omega) H) (fun r_91 p_91 => ?_)
                try dsimp +instances only
                refine zOp.bindp (g_fi_leastWorth_sp (by omega) H) (fun r_95 p_95 => ?_)
                try dsimp +instances only
                refine zOp.bindp (g_fi_difference_sp) (fun r_98 p_98 => ?_)
                try dsimp +instances only
                exact zOp.ret trivial
              ·
                try dsimp +instances only
                refine zOp.ite (fun c_15 => ?_) (fun c_15 => ?_)
                ·
                  try dsimp +instances only
                  refine zOp.bindp (g_fi_kinds_sp (by omega) H) (fun r_103 p_103 => ?_)
                  try dsimp +instances only
                  exact zOp.ret trivial
                ·
                  try dsimp +instances only
                  exact zOp.ret trivial
  ·
    try dsimp +instances only
    refine zOp.ite (fun c_17 => ?_) (fun c_17 => ?_)
    ·
      try dsimp +instances only
      unfold g_fi_measured_L21
      try dsimp +instances only
      refine zOp.ite (fun c_18 => ?_) (fun c_18 => ?_)
      ·
        try dsimp +instances only
        generalize hv_v_65 : σ a0 2 = v_65
        have rv_v_65 := CI.cf (a := a0) H (by omega)
        rw [hv_v_65] at rv_v_65
        exact zOp.ret trivial
      ·
        try dsimp +instances only
        refine zOp.ite (fun c_19 => ?_) (fun c_19 => ?_)
        ·
          try dsimp +instances only
          refine zOp.bindp (g_fi_sum_sp (by omega) H) (fun r_71 p_71 => ?_)
          try dsimp +instances only
          exact zOp.ret trivial
        ·
          try dsimp +instances only
          refine zOp.ite (fun c_21 => ?_) (fun c_21 => ?_)
          ·
            try dsimp +instances only
            refine zOp.bindp (g_fi_leastWorth_sp (by omega) H) (fun r_76 p_76 => ?_)
            try dsimp +instances only
            exact zOp.ret trivial
          ·
            try dsimp +instances only
            refine zOp.ite (fun c_23 => ?_) (fun c_23 => ?_)
            ·
              try dsimp +instances only
              refine zOp.bindp (g_fi_mostWorth_sp (by omega) H) (fun r_81 p_81 => ?_)
              try dsimp +instances only
              exact zOp.ret trivial
            ·
              try dsimp +instances only
              refine zOp.ite (fun c_25 => ?_) (fun c_25 => ?_)
              ·
                try dsimp +instances only
                refine zOp.bindp (g_fi_mean_sp (by omega) H) (fun r_86 p_86 => ?_)
                try dsimp +instances only
                exact zOp.ret trivial
              ·
                try dsimp +instances only
                refine zOp.ite (fun c_27 => ?_) (fun c_27 => ?_)
                ·
                  try dsimp +instances only
                  refine zOp.bindp (g_fi_mostWorth_sp (by omega) H) (fun r_91 p_91 => ?_)
                  try dsimp +instances only
                  refine zOp.bindp (g_fi_leastWorth_sp (by omega) H) (fun r_95 p_95 => ?_)
                  try dsimp +instances only
                  refine zOp.bindp (g_fi_difference_sp) (fun r_98 p_98 => ?_)
                  try dsimp +instances only
                  exact zOp.ret trivial
                ·
                  try dsimp +instances only
                  refine zOp.ite (fun c_31 => ?_) (fun c_31 => ?_)
                  ·
                    try dsimp +instances only
                    refine zOp.bindp (g_fi_kinds_sp (by omega) H) (fun r_103 p_103 => ?_)
                    try dsimp +instances only
                    exact zOp.ret trivial
                  ·
                    try dsimp +instances only
                    exact zOp.ret trivial
    ·
      try dsimp +instances only
      refine zOp.ite (fun c_33 => ?_) (fun c_33 => ?_)
      ·
        try dsimp +instances only
        unfold g_fi_measured_L21
        try dsimp +instances only
        refine zOp.ite (fun c_34 => ?_) (fun c_34 => ?_)
        ·
          try dsimp +instances only
          generalize hv_v_65 : σ a0 2 = v_65
          have rv_v_65 := CI.cf (a := a0) H (by omega)
          rw [hv_v_65] at rv_v_65
          exact zOp.ret trivial
        ·
          try dsimp +instances only
          refine zOp.ite (fun c_35 => ?_) (fun c_35 => ?_)
          ·
            try dsimp +instances only
            refine zOp.bindp (g_fi_sum_sp (by omega) H) (fun r_71 p_71 => ?_)
            try dsimp +instances only
            exact zOp.ret trivial
          ·
            try dsimp +instances only
            refine zOp.ite (fun c_37 => ?_) (fun c_37 => ?_)
            ·
              try dsimp +instances only
              refine zOp.bindp (g_fi_leastWorth_sp (by omega) H) (fun r_76 p_76 => ?_)
              try dsimp +instances only
              exact zOp.ret trivial
            ·
              try dsimp +instances only
              refine zOp.ite (fun c_39 => ?_) (fun c_39 => ?_)
              ·
                try dsimp +instances only
                refine zOp.bindp (g_fi_mostWorth_sp (by omega) H) (fun r_81 p_81 => ?_)
                try dsimp +instances only
                exact zOp.ret trivial
              ·
                try dsimp +instances only
                refine zOp.ite (fun c_41 => ?_) (fun c_41 => ?_)
                ·
                  try dsimp +instances only
                  refine zOp.bindp (g_fi_mean_sp (by omega) H) (fun r_86 p_86 => ?_)
                  try dsimp +instances only
                  exact zOp.ret trivial
                ·
                  try dsimp +instances only
                  refine zOp.ite (fun c_43 => ?_) (fun c_43 => ?_)
                  ·
                    try dsimp +instances only
                    refine zOp.bindp (g_fi_mostWorth_sp (by omega) H) (fun r_91 p_91 => ?_)
                    try dsimp +instances only
                    refine zOp.bindp (g_fi_leastWorth_sp (by omega) H) (fun r_95 p_95 => ?_)
                    try dsimp +instances only
                    refine zOp.bindp (g_fi_difference_sp) (fun r_98 p_98 => ?_)
                    try dsimp +instances only
                    exact zOp.ret trivial
                  ·
                    try dsimp +instances only
                    refine zOp.ite (fun c_47 => ?_) (fun c_47 => ?_)
                    ·
                      try dsimp +instances only
                      refine zOp.bindp (g_fi_kinds_sp (by omega) H) (fun r_103 p_103 => ?_)
                      try dsimp +instances only
                      exact zOp.ret trivial
                    ·
                      try dsimp +instances only
                      exact zOp.ret trivial
      ·
        try dsimp +instances only
        exact zOp.ret trivial
def fw_fi_copyFrom (a0 : Nat) (a1 : Nat) (a : Nat) (j : Int) : Bool := (a == (a0 + 1)) || ((a == (a0 + 2)) || (((a == a0 && j == 2)) || false))
theorem g_fi_copyFrom_sp {a0 : Nat} {a1 : Nat} (ha0 : a0 = 60 ∨ a0 = 93) (ha1 : a1 = 60 ∨ a1 = 93) {σ : zS} (H : CI σ) : zO (g_fi_copyFrom a0 a1 σ) (fun v s => CI s ∧ fr (fw_fi_copyFrom a0 a1) σ s ∧ (True)) := by
  have F : fr (fw_fi_copyFrom a0 a1) σ σ := fr.refl σ
  unfold g_fi_copyFrom
  try dsimp +instances only
  generalize hs_s_12 : zcp σ (a1 + 1) 0 (a0 + 1) 0 60 = s_12
  have H_12 : CI s_12 := by rw [← hs_s_12]; exact CI_zcpn H (by omega) (by omega) (fun j => by rcases ha0 with rfl | rfl <;> rcases ha1 with rfl | rfl <;> rfl)
  have F_12 : fr (fw_fi_copyFrom a0 a1) σ s_12 := by rw [← hs_s_12]; exact fr.zcp F (by omega) (fun j => bl (beq_self_eq_true _))
  generalize hs_s_27 : zcp s_12 (a1 + 2) 0 (a0 + 2) 0 60 = s_27
  have H_27 : CI s_27 := by rw [← hs_s_27]; exact CI_zcpn H_12 (by omega) (by omega) (fun j => by rcases ha0 with rfl | rfl <;> rcases ha1 with rfl | rfl <;> rfl)
  have F_27 : fr (fw_fi_copyFrom a0 a1) σ s_27 := by rw [← hs_s_27]; exact fr.zcp F_12 (by omega) (fun j => br (bl (beq_self_eq_true _)))
  generalize hv_v_32 : s_27 a1 2 = v_32
  have rv_v_32 := CI.cf (a := a1) H_27 (by omega)
  rw [hv_v_32] at rv_v_32
  generalize hs_s_35 : zu s_27 a0 2 v_32 = s_35
  have H_35 : CI s_35 := by rw [← hs_s_35]; exact CI_zuy H_27 (by omega) (by omega) (lo := 0) (hi := 60) (by rcases ha0 with rfl | rfl <;> rcases ha1 with rfl | rfl <;> rfl) (by omega) (by omega)
  have F_35 : fr (fw_fi_copyFrom a0 a1) σ s_35 := by rw [← hs_s_35]; exact fr.zu F_27 (by omega) (br (br (bl (zbb _ _))))
  exact zO.ret ⟨H_35, F_35, trivial⟩
theorem g_so_read_sp {x1 : Int} {x2 : Int} {σ : zS} (H : CI σ) : zOp (g_so_read x1 x2 σ) σ (fun v => True) := by
  unfold g_so_read
  try dsimp +instances only
  refine zOp.ite (fun c_1 => ?_) (fun c_1 => ?_)
  ·
    try dsimp +instances only
    exact zOp.ret trivial
  ·
    try dsimp +instances only
    refine zOp.ite (fun c_2 => ?_) (fun c_2 => ?_)
    ·
      try dsimp +instances only
      refine zOp.ite (fun c_3 => ?_) (fun c_3 => ?_)
      ·
        try dsimp +instances only
        refine zOp.gd (by omega) ?_
        try dsimp +instances only
        generalize hv_v_45 : σ 44 x1 = v_45
        exact zOp.ret trivial
      ·
        try dsimp +instances only
        refine zOp.ite (fun c_4 => ?_) (fun c_4 => ?_)
        ·
          try dsimp +instances only
          refine zOp.gd (by omega) ?_
          try dsimp +instances only
          generalize hv_v_52 : σ 42 x1 = v_52
          have rv_v_52 := CI.cp (a := 42) (j := x1) H (by omega)
          rw [hv_v_52] at rv_v_52
          exact zOp.ret trivial
        ·
          try dsimp +instances only
          refine zOp.ite (fun c_5 => ?_) (fun c_5 => ?_)
          ·
            try dsimp +instances only
            refine zOp.gd (by omega) ?_
            try dsimp +instances only
            generalize hv_v_60 : σ 43 x1 = v_60
            have rv_v_60 := CI.cp (a := 43) (j := x1) H (by omega)
            rw [hv_v_60] at rv_v_60
            exact zOp.ret trivial
          ·
            try dsimp +instances only
            exact zOp.ret trivial
    ·
      try dsimp +instances only
      exact zOp.ret trivial
set_option maxHeartbeats 4000000 in
theorem g_so_rowsWith_L6_sp {σ : zS} : ∀ (n : Nat) (x1 : Int) (x2 : Int) (x3 : Int) (y4 : Int) (x6 : Int) (H : CI σ), (0 ≤ x6 ∧ x6 ≤ 60) → (60 - x6) < (n : Int) → zOp (g_so_rowsWith_L6 n x1 x2 x3 y4 x6 σ) σ (fun v => True)
  | 0, _, _, _, _, _, _, hi, hm => by exfalso; omega
  | n + 1, x1, x2, x3, y4, x6, H, hi, hm => by
    unfold g_so_rowsWith_L6
    try dsimp +instances only
    generalize hv_v_9 : σ 41 4 = v_9
    have rv_v_9 := CI.c4 (a := 41) H (by omega)
    rw [hv_v_9] at rv_v_9
    refine zOp.ite (fun c_1 => ?_) (fun c_1 => ?_)
    ·
      try dsimp +instances only
      exact zOp.ret trivial
    ·
      try dsimp +instances only
      refine zOp.gd (by omega) ?_
      try dsimp +instances only
      generalize hv_v_21 : σ 45 x6 = v_21
      refine zOp.bindp (g_so_read_sp H) (fun r_29 p_29 => ?_)
      try dsimp +instances only
      refine zOp.bindp (g_jLong_compare_sp) (fun r_34 p_34 => ?_)
      try dsimp +instances only
      try have ew_4 := w32_id (x := 1 + r_34) (by omega) (by omega)
      refine zOp.ite (fun c_5 => ?_) (fun c_5 => ?_)
      ·
        try dsimp +instances only
        unfold g_so_rowsWith_L51
        try dsimp +instances only
        try have ew_6 := w32_id (x := x6 + 1) (by omega) (by omega)
        exact g_so_rowsWith_L6_sp n x1 x2 x3 y4 (w32 (x6 + 1)) H (by omega) (by omega)
      ·
        try dsimp +instances only
        unfold g_so_rowsWith_L51
        try dsimp +instances only
        try have ew_7 := w32_id (x := x6 + 1) (by omega) (by omega)
        exact g_so_rowsWith_L6_sp n x1 x2 x3 (lOr y4 (lShl 1 v_21)) (w32 (x6 + 1)) H (by omega) (by omega)
theorem g_so_rowsWith_sp {x1 : Int} {x2 : Int} {x3 : Int} {σ : zS} (H : CI σ) : zOp (g_so_rowsWith x1 x2 x3 σ) σ (fun v => True) := by
  unfold g_so_rowsWith
  try dsimp +instances only
  exact g_so_rowsWith_L6_sp zK x1 x2 x3 0 0 H (by omega) (by show _ < (1000000 : Int); omega)
def fw_so_copyFrom (a0 : Nat) (a1 : Nat) (a : Nat) (j : Int) : Bool := (a == (a0 + 1)) || ((a == (a0 + 2)) || ((a == (a0 + 3)) || ((a == (a0 + 4)) || ((a == (a0 + 5)) || ((a == (a0 + 6)) || (((a == a0 && j == 4)) || false))))))
theorem g_so_copyFrom_sp {a0 : Nat} {a1 : Nat} (ha0 : a0 = 41 ∨ a0 = 74) (ha1 : a1 = 41 ∨ a1 = 74) {σ : zS} (H : CI σ) : zO (g_so_copyFrom a0 a1 σ) (fun v s => CI s ∧ fr (fw_so_copyFrom a0 a1) σ s ∧ (True)) := by
  have F : fr (fw_so_copyFrom a0 a1) σ σ := fr.refl σ
  unfold g_so_copyFrom
  try dsimp +instances only
  generalize hs_s_12 : zcp σ (a1 + 1) 0 (a0 + 1) 0 60 = s_12
  have H_12 : CI s_12 := by rw [← hs_s_12]; exact CI_zcpy H (by omega) (by omega) (fun j k v h => by rcases ha0 with rfl | rfl <;> rcases ha1 with rfl | rfl <;> exact h)
  have F_12 : fr (fw_so_copyFrom a0 a1) σ s_12 := by rw [← hs_s_12]; exact fr.zcp F (by omega) (fun j => bl (beq_self_eq_true _))
  generalize hs_s_27 : zcp s_12 (a1 + 2) 0 (a0 + 2) 0 60 = s_27
  have H_27 : CI s_27 := by rw [← hs_s_27]; exact CI_zcpy H_12 (by omega) (by omega) (fun j k v h => by rcases ha0 with rfl | rfl <;> rcases ha1 with rfl | rfl <;> exact h)
  have F_27 : fr (fw_so_copyFrom a0 a1) σ s_27 := by rw [← hs_s_27]; exact fr.zcp F_12 (by omega) (fun j => br (bl (beq_self_eq_true _)))
  generalize hs_s_42 : zcp s_27 (a1 + 3) 0 (a0 + 3) 0 60 = s_42
  have H_42 : CI s_42 := by rw [← hs_s_42]; exact CI_zcpn H_27 (by omega) (by omega) (fun j => by rcases ha0 with rfl | rfl <;> rcases ha1 with rfl | rfl <;> rfl)
  have F_42 : fr (fw_so_copyFrom a0 a1) σ s_42 := by rw [← hs_s_42]; exact fr.zcp F_27 (by omega) (fun j => br (br (bl (beq_self_eq_true _))))
  generalize hs_s_57 : zcp s_42 (a1 + 4) 0 (a0 + 4) 0 60 = s_57
  have H_57 : CI s_57 := by rw [← hs_s_57]; exact CI_zcpn H_42 (by omega) (by omega) (fun j => by rcases ha0 with rfl | rfl <;> rcases ha1 with rfl | rfl <;> rfl)
  have F_57 : fr (fw_so_copyFrom a0 a1) σ s_57 := by rw [← hs_s_57]; exact fr.zcp F_42 (by omega) (fun j => br (br (br (bl (beq_self_eq_true _)))))
  generalize hs_s_72 : zcp s_57 (a1 + 5) 0 (a0 + 5) 0 33 = s_72
  have H_72 : CI s_72 := by rw [← hs_s_72]; exact CI_zcpn H_57 (by omega) (by omega) (fun j => by rcases ha0 with rfl | rfl <;> rcases ha1 with rfl | rfl <;> rfl)
  have F_72 : fr (fw_so_copyFrom a0 a1) σ s_72 := by rw [← hs_s_72]; exact fr.zcp F_57 (by omega) (fun j => br (br (br (br (bl (beq_self_eq_true _))))))
  generalize hs_s_87 : zcp s_72 (a1 + 6) 0 (a0 + 6) 0 33 = s_87
  have H_87 : CI s_87 := by rw [← hs_s_87]; exact CI_zcpn H_72 (by omega) (by omega) (fun j => by rcases ha0 with rfl | rfl <;> rcases ha1 with rfl | rfl <;> rfl)
  have F_87 : fr (fw_so_copyFrom a0 a1) σ s_87 := by rw [← hs_s_87]; exact fr.zcp F_72 (by omega) (fun j => br (br (br (br (br (bl (beq_self_eq_true _)))))))
  generalize hv_v_92 : s_87 a1 4 = v_92
  have rv_v_92 := CI.c4 (a := a1) H_87 (by omega)
  rw [hv_v_92] at rv_v_92
  generalize hs_s_95 : zu s_87 a0 4 v_92 = s_95
  have H_95 : CI s_95 := by rw [← hs_s_95]; exact CI_zuy H_87 (by omega) (by omega) (lo := 0) (hi := 60) (by rcases ha0 with rfl | rfl <;> rcases ha1 with rfl | rfl <;> rfl) (by omega) (by omega)
  have F_95 : fr (fw_so_copyFrom a0 a1) σ s_95 := by rw [← hs_s_95]; exact fr.zu F_87 (by omega) (br (br (br (br (br (br (bl (zbb _ _))))))))
  exact zO.ret ⟨H_95, F_95, trivial⟩
def fw_wa_copyFrom (a0 : Nat) (a1 : Nat) (a : Nat) (j : Int) : Bool := (a == (a0 + 1)) || ((a == (a0 + 2)) || ((a == (a0 + 3)) || (((a == a0 && j == 5)) || false)))
theorem g_wa_copyFrom_sp {a0 : Nat} {a1 : Nat} (ha0 : a0 = 65 ∨ a0 = 98) (ha1 : a1 = 65 ∨ a1 = 98) {σ : zS} (H : CI σ) : zO (g_wa_copyFrom a0 a1 σ) (fun v s => CI s ∧ fr (fw_wa_copyFrom a0 a1) σ s ∧ (True)) := by
  have F : fr (fw_wa_copyFrom a0 a1) σ σ := fr.refl σ
  unfold g_wa_copyFrom
  try dsimp +instances only
  generalize hs_s_12 : zcp σ (a1 + 1) 0 (a0 + 1) 0 6 = s_12
  have H_12 : CI s_12 := by rw [← hs_s_12]; exact CI_zcpn H (by omega) (by omega) (fun j => by rcases ha0 with rfl | rfl <;> rcases ha1 with rfl | rfl <;> rfl)
  have F_12 : fr (fw_wa_copyFrom a0 a1) σ s_12 := by rw [← hs_s_12]; exact fr.zcp F (by omega) (fun j => bl (beq_self_eq_true _))
  generalize hs_s_27 : zcp s_12 (a1 + 2) 0 (a0 + 2) 0 6 = s_27
  have H_27 : CI s_27 := by rw [← hs_s_27]; exact CI_zcpn H_12 (by omega) (by omega) (fun j => by rcases ha0 with rfl | rfl <;> rcases ha1 with rfl | rfl <;> rfl)
  have F_27 : fr (fw_wa_copyFrom a0 a1) σ s_27 := by rw [← hs_s_27]; exact fr.zcp F_12 (by omega) (fun j => br (bl (beq_self_eq_true _)))
  generalize hs_s_42 : zcp s_27 (a1 + 3) 0 (a0 + 3) 0 6 = s_42
  have H_42 : CI s_42 := by rw [← hs_s_42]; exact CI_zcpn H_27 (by omega) (by omega) (fun j => by rcases ha0 with rfl | rfl <;> rcases ha1 with rfl | rfl <;> rfl)
  have F_42 : fr (fw_wa_copyFrom a0 a1) σ s_42 := by rw [← hs_s_42]; exact fr.zcp F_27 (by omega) (fun j => br (br (bl (beq_self_eq_true _))))
  generalize hv_v_47 : s_42 a1 5 = v_47
  have rv_v_47 := CI.cw (a := a1) H_42 (by omega)
  rw [hv_v_47] at rv_v_47
  generalize hs_s_50 : zu s_42 a0 5 v_47 = s_50
  have H_50 : CI s_50 := by rw [← hs_s_50]; exact CI_zuy H_42 (by omega) (by omega) (lo := 0) (hi := 6) (by rcases ha0 with rfl | rfl <;> rcases ha1 with rfl | rfl <;> rfl) (by omega) (by omega)
  have F_50 : fr (fw_wa_copyFrom a0 a1) σ s_50 := by rw [← hs_s_50]; exact fr.zu F_42 (by omega) (br (br (br (bl (zbb _ _)))))
  exact zO.ret ⟨H_50, F_50, trivial⟩
def fw_st_copyFrom (a0 : Nat) (a1 : Nat) (a : Nat) (j : Int) : Bool := (fw_so_copyFrom (a0 + 1) (a1 + 1) a j) || ((fw_ca_copyFrom (a0 + 8) (a1 + 8) a j) || ((fw_fi_copyFrom (a0 + 20) (a1 + 20) a j) || ((fw_bs_copyFrom (a0 + 23) (a1 + 23) a j) || ((fw_wa_copyFrom (a0 + 25) (a1 + 25) a j) || false))))
theorem g_st_copyFrom_sp {a0 : Nat} {a1 : Nat} (ha0 : a0 = 40 ∨ a0 = 73) (ha1 : a1 = 40 ∨ a1 = 73) {σ : zS} (H : CI σ) : zO (g_st_copyFrom a0 a1 σ) (fun v s => CI s ∧ fr (fw_st_copyFrom a0 a1) σ s ∧ (True)) := by
  have F : fr (fw_st_copyFrom a0 a1) σ σ := fr.refl σ
  unfold g_st_copyFrom
  try dsimp +instances only
  refine zO.bind (g_so_copyFrom_sp (by omega) (by omega) H) (fun r_8 t_8 p_8 => ?_)
  obtain ⟨H_8, G_8, q_8⟩ := p_8
  try dsimp +instances only
  have F_8 := F.trans (fr.mono G_8 (fun a j h => ffl h))
  refine zO.bind (g_ca_copyFrom_sp (by omega) (by omega) H_8) (fun r_19 t_19 p_19 => ?_)
  obtain ⟨H_19, G_19, q_19⟩ := p_19
  try dsimp +instances only
  have F_19 := F_8.trans (fr.mono G_19 (fun a j h => ffl (ffr h)))
  refine zO.bind (g_fi_copyFrom_sp (by omega) (by omega) H_19) (fun r_30 t_30 p_30 => ?_)
  obtain ⟨H_30, G_30, q_30⟩ := p_30
  try dsimp +instances only
  have F_30 := F_19.trans (fr.mono G_30 (fun a j h => ffl (ffr (ffr h))))
  refine zO.bind (g_bs_copyFrom_sp (by omega) (by omega) H_30) (fun r_41 t_41 p_41 => ?_)
  obtain ⟨H_41, G_41, q_41⟩ := p_41
  try dsimp +instances only
  have F_41 := F_30.trans (fr.mono G_41 (fun a j h => ffl (ffr (ffr (ffr h)))))
  refine zO.bind (g_wa_copyFrom_sp (by omega) (by omega) H_41) (fun r_52 t_52 p_52 => ?_)
  obtain ⟨H_52, G_52, q_52⟩ := p_52
  try dsimp +instances only
  have F_52 := F_41.trans (fr.mono G_52 (fun a j h => ffl (ffr (ffr (ffr (ffr h))))))
  exact zO.ret ⟨H_52, F_52, trivial⟩
theorem g_so_isIn_sp {x1 : Int} {σ : zS} (H : CI σ) : zOp (g_so_isIn x1 σ) σ (fun v => v ≠ 0 → 0 ≤ x1 ∧ x1 < 60) := by
  unfold g_so_isIn
  try dsimp +instances only
  refine zOp.bindp (g_so_isRow_sp) (fun r_1 p_1 => ?_)
  try dsimp +instances only
  refine zOp.ite (fun c_2 => ?_) (fun c_2 => ?_)
  ·
    try dsimp +instances only
    exact zOp.ret (by omega)
  ·
    try dsimp +instances only
    generalize hv_v_13 : σ 46 32 = v_13
    refine zOp.ite (fun c_3 => ?_) (fun c_3 => ?_)
    ·
      try dsimp +instances only
      exact zOp.ret (by omega)
    ·
      try dsimp +instances only
      exact zOp.ret (by omega)
theorem g_so_rank_sp {x1 : Int} {σ : zS} (H : CI σ) : zOp (g_so_rank x1 σ) σ (fun v => True) := by
  unfold g_so_rank
  try dsimp +instances only
  refine zOp.bindp (g_so_isRow_sp) (fun r_1 p_1 => ?_)
  try dsimp +instances only
  refine zOp.ite (fun c_2 => ?_) (fun c_2 => ?_)
  ·
    try dsimp +instances only
    exact zOp.ret trivial
  ·
    try dsimp +instances only
    refine zOp.gd (by omega) ?_
    try dsimp +instances only
    generalize hv_v_12 : σ 42 x1 = v_12
    have rv_v_12 := CI.cp (a := 42) (j := x1) H (by omega)
    rw [hv_v_12] at rv_v_12
    refine zOp.gd (by omega) ?_
    try dsimp +instances only
    generalize hv_v_21 : σ 43 x1 = v_21
    have rv_v_21 := CI.cp (a := 43) (j := x1) H (by omega)
    rw [hv_v_21] at rv_v_21
    try have ew_3 := w32_id (x := v_12 * 32) (by omega) (by omega)
    try have ew_4 := w32_id (x := (w32 (v_12 * 32)) + v_21) (by omega) (by omega)
    try have ew_5 := w32_id (x := (w32 ((w32 (v_12 * 32)) + v_21)) * 60) (by omega) (by omega)
    try have ew_6 := w32_id (x := (w32 ((w32 ((w32 (v_12 * 32)) + v_21)) * 60)) + x1) (by omega) (by omega)
    exact zOp.ret trivial
def fw_so_flip (a : Nat) (j : Int) : Bool := (a == 47) || ((a == 46) || false)
set_option maxHeartbeats 4000000 in
theorem g_so_flip_L51_sp {σ0 : zS} : ∀ (n : Nat) (y2 : Int) (x4 : Int) (σ : zS), CI σ → fr (fw_so_flip) σ0 σ → (0 ≤ x4 ∧ x4 ≤ 33 ∧ σ 41 4 = σ0 41 4) → (33 - x4) < (n : Int) → zO (g_so_flip_L51 n y2 x4 σ) (fun v s => CI s ∧ fr (fw_so_flip) σ0 s ∧ (s 41 4 = σ0 41 4))
  | 0, _, _, σ, _, _, hi, hm => by exfalso; omega
  | n + 1, y2, x4, σ, H, F, hi, hm => by
    have ri_41_4 := CI.c4 (a := 41) H (by omega)
    unfold g_so_flip_L51
    try dsimp +instances only
    refine zO.ite (fun c_1 => ?_) (fun c_1 => ?_)
    ·
      try dsimp +instances only
      exact zO.ret ⟨H, F, (by omega)⟩
    ·
      try dsimp +instances only
      refine zO.gd (by omega) ?_
      try dsimp +instances only
      generalize hv_v_68 : σ 47 x4 = v_68
      refine zO.gd (by omega) ?_
      try dsimp +instances only
      generalize hs_s_71 : zu σ 47 x4 (lXor v_68 y2) = s_71
      have H_71 : CI s_71 := by rw [← hs_s_71]; exact CI_zun H (by omega) (by omega) rfl
      have F_71 : fr (fw_so_flip) σ0 s_71 := by rw [← hs_s_71]; exact fr.zu F (by omega) (bl (beq_self_eq_true _))
      have e_s_71_41_4 : s_71 41 4 = σ 41 4 := by rw [← hs_s_71]; exact zu_c (by omega)
      try have ew_2 := w32_id (x := x4 + 1) (by omega) (by omega)
      exact zO.imp (g_so_flip_L51_sp n y2 (w32 (x4 + 1)) s_71 H_71 F_71 (by omega) (by omega)) (fun v s ⟨pa, pb, pc⟩ => ⟨pa, pb, by omega⟩)
set_option maxHeartbeats 4000000 in
theorem g_so_flip_L14_sp {σ0 : zS} : ∀ (n : Nat) (x1 : Int) (y2 : Int) (x4 : Int) (σ : zS), CI σ → fr (fw_so_flip) σ0 σ → (0 ≤ x4 ∧ x4 ≤ 33 ∧ 0 ≤ x1 ∧ x1 < 60 ∧ σ 41 4 = σ0 41 4) → (33 - x4) < (n : Int) → zO (g_so_flip_L14 n x1 y2 x4 σ) (fun v s => CI s ∧ fr (fw_so_flip) σ0 s ∧ (s 41 4 = σ0 41 4))
  | 0, _, _, _, σ, _, _, hi, hm => by exfalso; omega
  | n + 1, x1, y2, x4, σ, H, F, hi, hm => by
    have ri_41_4 := CI.c4 (a := 41) H (by omega)
    unfold g_so_flip_L14
    try dsimp +instances only
    refine zO.ite (fun c_3 => ?_) (fun c_3 => ?_)
    ·
      try dsimp +instances only
      refine zO.gd (by omega) ?_
      try dsimp +instances only
      generalize hv_v_46 : σ 43 x1 = v_46
      have rv_v_46 := CI.cp (a := 43) (j := x1) H (by omega)
      rw [hv_v_46] at rv_v_46
      try have ew_4 := w32_id (x := v_46 + 1) (by omega) (by omega)
      exact zO.imp (g_so_flip_L51_sp zK y2 (w32 (v_46 + 1)) σ H F (by omega) (by show _ < (1000000 : Int); omega)) (fun v s ⟨pa, pb, pc⟩ => ⟨pa, pb, by omega⟩)
    ·
      try dsimp +instances only
      refine zO.gd (by omega) ?_
      try dsimp +instances only
      generalize hv_v_31 : σ 46 x4 = v_31
      refine zO.gd (by omega) ?_
      try dsimp +instances only
      generalize hs_s_34 : zu σ 46 x4 (lXor v_31 y2) = s_34
      have H_34 : CI s_34 := by rw [← hs_s_34]; exact CI_zun H (by omega) (by omega) rfl
      have F_34 : fr (fw_so_flip) σ0 s_34 := by rw [← hs_s_34]; exact fr.zu F (by omega) (br (bl (beq_self_eq_true _)))
      have e_s_34_41_4 : s_34 41 4 = σ 41 4 := by rw [← hs_s_34]; exact zu_c (by omega)
      try have ew_5 := w32_id (x := x4 + 1) (by omega) (by omega)
      exact zO.imp (g_so_flip_L14_sp n x1 y2 (w32 (x4 + 1)) s_34 H_34 F_34 (by omega) (by omega)) (fun v s ⟨pa, pb, pc⟩ => ⟨pa, pb, by omega⟩)
theorem g_so_flip_sp {x1 : Int} {σ : zS} (H : CI σ) (hp : 0 ≤ x1 ∧ x1 < 60) : zO (g_so_flip x1 σ) (fun v s => CI s ∧ fr (fw_so_flip) σ s ∧ (s 41 4 = σ 41 4)) := by
  have F : fr (fw_so_flip) σ σ := fr.refl σ
  have ri_41_4 := CI.c4 (a := 41) H (by omega)
  unfold g_so_flip
  try dsimp +instances only
  refine zO.gd (by omega) ?_
  try dsimp +instances only
  generalize hv_v_9 : σ 42 x1 = v_9
  have rv_v_9 := CI.cp (a := 42) (j := x1) H (by omega)
  rw [hv_v_9] at rv_v_9
  try have ew_6 := w32_id (x := v_9 + 1) (by omega) (by omega)
  exact zO.imp (g_so_flip_L14_sp zK x1 (lShl 1 x1) (w32 (v_9 + 1)) σ H F (by omega) (by show _ < (1000000 : Int); omega)) (fun v s ⟨pa, pb, pc⟩ => ⟨pa, pb, by omega⟩)
def fw_so_bringIn (a : Nat) (j : Int) : Bool := (a == 45) || (((a == 41 && j == 4)) || ((a == 42) || ((a == 43) || ((a == 44) || ((fw_so_flip a j) || false)))))
set_option maxHeartbeats 4000000 in
theorem g_so_bringIn_L66_sp {σ0 : zS} : ∀ (n : Nat) (x1 : Int) (x6 : Int) (σ : zS), CI σ → fr (fw_so_bringIn) σ0 σ → (0 ≤ x6 ∧ x6 < 60 ∧ σ 41 4 < 60) → (x6) < (n : Int) → zO (g_so_bringIn_L66 n x1 x6 σ) (fun v s => CI s ∧ fr (fw_so_bringIn) σ0 s ∧ (True))
  | 0, _, _, σ, _, _, hi, hm => by exfalso; omega
  | n + 1, x1, x6, σ, H, F, hi, hm => by
    have ri_41_4 := CI.c4 (a := 41) H (by omega)
    unfold g_so_bringIn_L66
    try dsimp +instances only
    refine zO.ite (fun c_1 => ?_) (fun c_1 => ?_)
    ·
      try dsimp +instances only
      unfold g_so_bringIn_L114
      try dsimp +instances only
      refine zO.gd (by omega) ?_
      try dsimp +instances only
      generalize hs_s_121 : zu σ 45 x6 x1 = s_121
      have H_121 : CI s_121 := by rw [← hs_s_121]; exact CI_zun H (by omega) (by omega) rfl
      have F_121 : fr (fw_so_bringIn) σ0 s_121 := by rw [← hs_s_121]; exact fr.zu F (by omega) (bl (beq_self_eq_true _))
      have e_s_121_41_4 : s_121 41 4 = σ 41 4 := by rw [← hs_s_121]; exact zu_c (by omega)
      generalize hv_v_124 : s_121 41 4 = v_124
      have rv_v_124 := CI.c4 (a := 41) H_121 (by omega)
      rw [hv_v_124] at rv_v_124
      try have ew_2 := w32_id (x := v_124 + 1) (by omega) (by omega)
      generalize hs_s_129 : zu s_121 41 4 (w32 (v_124 + 1)) = s_129
      have H_129 : CI s_129 := by rw [← hs_s_129]; exact CI_zuy H_121 (by omega) (by omega) (lo := 0) (hi := 60) rfl (by omega) (by omega)
      have F_129 : fr (fw_so_bringIn) σ0 s_129 := by rw [← hs_s_129]; exact fr.zu F_121 (by omega) (br (bl (zbb _ _)))
      have e_s_129_41_4 : s_129 41 4 = (w32 (v_124 + 1)) := by rw [← hs_s_129]; exact zu_e rfl
      exact zO.ret ⟨H_129, F_129, trivial⟩
    ·
      try dsimp +instances only
      try have ew_3 := w32_id (x := x6 - 1) (by omega) (by omega)
      refine zO.gd (by omega) ?_
      try dsimp +instances only
      generalize hv_v_80 : σ 45 (w32 (x6 - 1)) = v_80
      refine zO.bindp (g_so_rank_sp H) (fun r_81 p_81 => ?_)
      try dsimp +instances only
      refine zO.bindp (g_so_rank_sp H) (fun r_86 p_86 => ?_)
      try dsimp +instances only
      refine zO.ite (fun c_6 => ?_) (fun c_6 => ?_)
      ·
        try dsimp +instances only
        unfold g_so_bringIn_L114
        try dsimp +instances only
        refine zO.gd (by omega) ?_
        try dsimp +instances only
        generalize hs_s_121 : zu σ 45 x6 x1 = s_121
        have H_121 : CI s_121 := by rw [← hs_s_121]; exact CI_zun H (by omega) (by omega) rfl
        have F_121 : fr (fw_so_bringIn) σ0 s_121 := by rw [← hs_s_121]; exact fr.zu F (by omega) (bl (beq_self_eq_true _))
        have e_s_121_41_4 : s_121 41 4 = σ 41 4 := by rw [← hs_s_121]; exact zu_c (by omega)
        generalize hv_v_124 : s_121 41 4 = v_124
        have rv_v_124 := CI.c4 (a := 41) H_121 (by omega)
        rw [hv_v_124] at rv_v_124
        try have ew_7 := w32_id (x := v_124 + 1) (by omega) (by omega)
        generalize hs_s_129 : zu s_121 41 4 (w32 (v_124 + 1)) = s_129
        have H_129 : CI s_129 := by rw [← hs_s_129]; exact CI_zuy H_121 (by omega) (by omega) (lo := 0) (hi := 60) rfl (by omega) (by omega)
        have F_129 : fr (fw_so_bringIn) σ0 s_129 := by rw [← hs_s_129]; exact fr.zu F_121 (by omega) (br (bl (zbb _ _)))
        have e_s_129_41_4 : s_129 41 4 = (w32 (v_124 + 1)) := by rw [← hs_s_129]; exact zu_e rfl
        exact zO.ret ⟨H_129, F_129, trivial⟩
      ·
        try dsimp +instances only
        refine zO.gd (by omega) ?_
        try dsimp +instances only
        generalize hv_v_106 : σ 45 (w32 (x6 - 1)) = v_106
        refine zO.gd (by omega) ?_
        try dsimp +instances only
        generalize hs_s_107 : zu σ 45 x6 v_106 = s_107
        have H_107 : CI s_107 := by rw [← hs_s_107]; exact CI_zun H (by omega) (by omega) rfl
        have F_107 : fr (fw_so_bringIn) σ0 s_107 := by rw [← hs_s_107]; exact fr.zu F (by omega) (bl (beq_self_eq_true _))
        have e_s_107_41_4 : s_107 41 4 = σ 41 4 := by rw [← hs_s_107]; exact zu_c (by omega)
        exact g_so_bringIn_L66_sp n x1 (w32 (x6 - 1)) s_107 H_107 F_107 (by omega) (by omega)
theorem g_so_bringIn_sp {x1 : Int} {x2 : Int} {x3 : Int} {y4 : Int} {σ : zS} (H : CI σ) : zO (g_so_bringIn x1 x2 x3 y4 σ) (fun v s => CI s ∧ fr (fw_so_bringIn) σ s ∧ (True)) := by
  have F : fr (fw_so_bringIn) σ σ := fr.refl σ
  have ri_41_4 := CI.c4 (a := 41) H (by omega)
  unfold g_so_bringIn
  try dsimp +instances only
  refine zO.bindp (g_so_isRow_sp) (fun r_1 p_1 => ?_)
  try dsimp +instances only
  refine zO.ite (fun c_9 => ?_) (fun c_9 => ?_)
  ·
    try dsimp +instances only
    exact zO.ret ⟨H, F, trivial⟩
  ·
    try dsimp +instances only
    refine zO.bindp (g_so_isIn_sp H) (fun r_9 p_9 => ?_)
    try dsimp +instances only
    refine zO.ite (fun c_11 => ?_) (fun c_11 => ?_)
    ·
      try dsimp +instances only
      exact zO.ret ⟨H, F, trivial⟩
    ·
      try dsimp +instances only
      generalize hv_v_16 : σ 41 4 = v_16
      have rv_v_16 := CI.c4 (a := 41) H (by omega)
      rw [hv_v_16] at rv_v_16
      refine zO.ite (fun c_12 => ?_) (fun c_12 => ?_)
      ·
        try dsimp +instances only
        exact zO.ret ⟨H, F, trivial⟩
      ·
        try dsimp +instances only
        refine zO.bindp (g_b_isPlace_sp) (fun r_26 p_26 => ?_)
        try dsimp +instances only
        refine zO.ite (fun c_14 => ?_) (fun c_14 => ?_)
        ·
          try dsimp +instances only
          refine zO.gd (by omega) ?_
          try dsimp +instances only
          generalize hs_s_39 : zu σ 42 x1 x2 = s_39
          have H_39 : CI s_39 := by rw [← hs_s_39]; exact CI_zuy H (by omega) (by omega) (lo := 0) (hi := 31) rfl (by omega) (by omega)
          have F_39 : fr (fw_so_bringIn) σ s_39 := by rw [← hs_s_39]; exact fr.zu F (by omega) (br (br (bl (beq_self_eq_true _))))
          have e_s_39_41_4 : s_39 41 4 = σ 41 4 := by rw [← hs_s_39]; exact zu_c (by omega)
          refine zO.gd (by omega) ?_
          try dsimp +instances only
          generalize hs_s_46 : zu s_39 43 x1 x3 = s_46
          have H_46 : CI s_46 := by rw [← hs_s_46]; exact CI_zuy H_39 (by omega) (by omega) (lo := 0) (hi := 31) rfl (by omega) (by omega)
          have F_46 : fr (fw_so_bringIn) σ s_46 := by rw [← hs_s_46]; exact fr.zu F_39 (by omega) (br (br (br (bl (beq_self_eq_true _)))))
          have e_s_46_41_4 : s_46 41 4 = s_39 41 4 := by rw [← hs_s_46]; exact zu_c (by omega)
          refine zO.gd (by omega) ?_
          try dsimp +instances only
          generalize hs_s_54 : zu s_46 44 x1 y4 = s_54
          have H_54 : CI s_54 := by rw [← hs_s_54]; exact CI_zun H_46 (by omega) (by omega) rfl
          have F_54 : fr (fw_so_bringIn) σ s_54 := by rw [← hs_s_54]; exact fr.zu F_46 (by omega) (br (br (br (br (bl (beq_self_eq_true _))))))
          have e_s_54_41_4 : s_54 41 4 = s_46 41 4 := by rw [← hs_s_54]; exact zu_c (by omega)
          refine zO.bind (g_so_flip_sp H_54 (by omega)) (fun r_57 t_57 p_57 => ?_)
          obtain ⟨H_57, G_57, q_57⟩ := p_57
          try dsimp +instances only
          have F_57 := F_54.trans (fr.mono G_57 (fun a j h => ffl (ffr (ffr (ffr (ffr (ffr h)))))))
          have e_t_57_41_4 := G_57 41 4 (Or.inr rfl)
          generalize hv_v_61 : t_57 41 4 = v_61
          have rv_v_61 := CI.c4 (a := 41) H_57 (by omega)
          rw [hv_v_61] at rv_v_61
          exact g_so_bringIn_L66_sp zK x1 v_61 t_57 H_57 F_57 (by omega) (by show _ < (1000000 : Int); omega)
        ·
          try dsimp +instances only
          exact zO.ret ⟨H, F, trivial⟩
def fw_so_bringOut (a : Nat) (j : Int) : Bool := ((a == 41 && j == 4)) || ((a == 45) || ((fw_so_flip a j) || false))
set_option maxHeartbeats 4000000 in
theorem g_so_bringOut_L19_sp {σ0 : zS} : ∀ (n : Nat) (x1 : Int) (x2 : Int) (x3 : Int) (σ : zS), CI σ → fr (fw_so_bringOut) σ0 σ → (0 ≤ x1 ∧ x1 < 60 ∧ 0 ≤ x2 ∧ x2 ≤ x3 ∧ x3 ≤ 60) → (60 - x3) < (n : Int) → zO (g_so_bringOut_L19 n x1 x2 x3 σ) (fun v s => CI s ∧ fr (fw_so_bringOut) σ0 s ∧ (True))
  | 0, _, _, _, σ, _, _, hi, hm => by exfalso; omega
  | n + 1, x1, x2, x3, σ, H, F, hi, hm => by
    unfold g_so_bringOut_L19
    try dsimp +instances only
    generalize hv_v_21 : σ 41 4 = v_21
    have rv_v_21 := CI.c4 (a := 41) H (by omega)
    rw [hv_v_21] at rv_v_21
    refine zO.ite (fun c_1 => ?_) (fun c_1 => ?_)
    ·
      try dsimp +instances only
      generalize hs_s_60 : zu σ 41 4 x2 = s_60
      have H_60 : CI s_60 := by rw [← hs_s_60]; exact CI_zuy H (by omega) (by omega) (lo := 0) (hi := 60) rfl (by omega) (by omega)
      have F_60 : fr (fw_so_bringOut) σ0 s_60 := by rw [← hs_s_60]; exact fr.zu F (by omega) (bl (zbb _ _))
      refine zO.gd (by omega) ?_
      try dsimp +instances only
      generalize hv_v_68 : s_60 42 x1 = v_68
      have rv_v_68 := CI.cp (a := 42) (j := x1) H_60 (by omega)
      rw [hv_v_68] at rv_v_68
      refine zO.gd (by omega) ?_
      try dsimp +instances only
      refine zO.gd (by omega) ?_
      try dsimp +instances only
      generalize hv_v_80 : s_60 43 x1 = v_80
      have rv_v_80 := CI.cp (a := 43) (j := x1) H_60 (by omega)
      rw [hv_v_80] at rv_v_80
      refine zO.gd (by omega) ?_
      try dsimp +instances only
      refine zO.bindp (g_b_of_sp) (fun r_87 p_87 => ?_)
      try dsimp +instances only
      exact zO.ret ⟨H_60, F_60, trivial⟩
    ·
      try dsimp +instances only
      refine zO.gd (by omega) ?_
      try dsimp +instances only
      generalize hv_v_32 : σ 45 x3 = v_32
      refine zO.ite (fun c_3 => ?_) (fun c_3 => ?_)
      ·
        try dsimp +instances only
        unfold g_so_bringOut_L52
        try dsimp +instances only
        try have ew_4 := w32_id (x := x3 + 1) (by omega) (by omega)
        exact g_so_bringOut_L19_sp n x1 x2 (w32 (x3 + 1)) σ H F (by omega) (by omega)
      ·
        try dsimp +instances only
        refine zO.gd (by omega) ?_
        try dsimp +instances only
        refine zO.gd (by omega) ?_
        try dsimp +instances only
        generalize hs_s_48 : zu σ 45 x2 v_32 = s_48
        have H_48 : CI s_48 := by rw [← hs_s_48]; exact CI_zun H (by omega) (by omega) rfl
        have F_48 : fr (fw_so_bringOut) σ0 s_48 := by rw [← hs_s_48]; exact fr.zu F (by omega) (br (bl (beq_self_eq_true _)))
        try have ew_5 := w32_id (x := x2 + 1) (by omega) (by omega)
        unfold g_so_bringOut_L52
        try dsimp +instances only
        try have ew_6 := w32_id (x := x3 + 1) (by omega) (by omega)
        exact g_so_bringOut_L19_sp n x1 (w32 (x2 + 1)) (w32 (x3 + 1)) s_48 H_48 F_48 (by omega) (by omega)
theorem g_so_bringOut_sp {x1 : Int} {σ : zS} (H : CI σ) : zO (g_so_bringOut x1 σ) (fun v s => CI s ∧ fr (fw_so_bringOut) σ s ∧ (True)) := by
  have F : fr (fw_so_bringOut) σ σ := fr.refl σ
  unfold g_so_bringOut
  try dsimp +instances only
  refine zO.bindp (g_so_isIn_sp H) (fun r_2 p_2 => ?_)
  try dsimp +instances only
  refine zO.ite (fun c_8 => ?_) (fun c_8 => ?_)
  ·
    try dsimp +instances only
    refine zO.bind (g_so_flip_sp H (by omega)) (fun r_12 t_12 p_12 => ?_)
    obtain ⟨H_12, G_12, q_12⟩ := p_12
    try dsimp +instances only
    have F_12 := F.trans (fr.mono G_12 (fun a j h => ffl (ffr (ffr h))))
    exact g_so_bringOut_L19_sp zK x1 0 0 t_12 H_12 F_12 (by omega) (by show _ < (1000000 : Int); omega)
  ·
    try dsimp +instances only
    exact zO.ret ⟨H, F, trivial⟩
theorem g_wa_has_sp {x1 : Int} {σ : zS} (H : CI σ) : zOp (g_wa_has x1 σ) σ (fun v => v ≠ 0 → 0 ≤ x1 ∧ x1 < 6) := by
  unfold g_wa_has
  try dsimp +instances only
  refine zOp.ite (fun c_1 => ?_) (fun c_1 => ?_)
  ·
    try dsimp +instances only
    exact zOp.ret (by omega)
  ·
    try dsimp +instances only
    generalize hv_v_6 : σ 65 5 = v_6
    have rv_v_6 := CI.cw (a := 65) H (by omega)
    rw [hv_v_6] at rv_v_6
    refine zOp.ite (fun c_2 => ?_) (fun c_2 => ?_)
    ·
      try dsimp +instances only
      exact zOp.ret (by omega)
    ·
      try dsimp +instances only
      refine zOp.ite (fun c_3 => ?_) (fun c_3 => ?_)
      ·
        try dsimp +instances only
        exact zOp.ret (by omega)
      ·
        try dsimp +instances only
        exact zOp.ret (by omega)
def fw_wa_add (a : Nat) (j : Int) : Bool := (a == 66) || ((a == 67) || ((a == 68) || (((a == 65 && j == 5)) || false)))
theorem g_wa_add_sp {x1 : Int} {x2 : Int} {σ : zS} (H : CI σ) : zO (g_wa_add x1 x2 σ) (fun v s => CI s ∧ fr (fw_wa_add) σ s ∧ (True)) := by
  have F : fr (fw_wa_add) σ σ := fr.refl σ
  have ri_65_5 := CI.cw (a := 65) H (by omega)
  unfold g_wa_add
  try dsimp +instances only
  generalize hv_v_1 : σ 65 5 = v_1
  have rv_v_1 := CI.cw (a := 65) H (by omega)
  rw [hv_v_1] at rv_v_1
  refine zO.ite (fun c_1 => ?_) (fun c_1 => ?_)
  ·
    try dsimp +instances only
    refine zO.gd (by omega) ?_
    try dsimp +instances only
    generalize hs_s_20 : zu σ 66 v_1 x1 = s_20
    have H_20 : CI s_20 := by rw [← hs_s_20]; exact CI_zun H (by omega) (by omega) rfl
    have F_20 : fr (fw_wa_add) σ s_20 := by rw [← hs_s_20]; exact fr.zu F (by omega) (bl (beq_self_eq_true _))
    have e_s_20_65_5 : s_20 65 5 = σ 65 5 := by rw [← hs_s_20]; exact zu_c (by omega)
    generalize hv_v_26 : s_20 65 5 = v_26
    have rv_v_26 := CI.cw (a := 65) H_20 (by omega)
    rw [hv_v_26] at rv_v_26
    refine zO.gd (by omega) ?_
    try dsimp +instances only
    generalize hs_s_30 : zu s_20 67 v_26 x2 = s_30
    have H_30 : CI s_30 := by rw [← hs_s_30]; exact CI_zun H_20 (by omega) (by omega) rfl
    have F_30 : fr (fw_wa_add) σ s_30 := by rw [← hs_s_30]; exact fr.zu F_20 (by omega) (br (bl (beq_self_eq_true _)))
    have e_s_30_65_5 : s_30 65 5 = s_20 65 5 := by rw [← hs_s_30]; exact zu_c (by omega)
    generalize hv_v_36 : s_30 65 5 = v_36
    have rv_v_36 := CI.cw (a := 65) H_30 (by omega)
    rw [hv_v_36] at rv_v_36
    refine zO.gd (by omega) ?_
    try dsimp +instances only
    generalize hs_s_40 : zu s_30 68 v_36 0 = s_40
    have H_40 : CI s_40 := by rw [← hs_s_40]; exact CI_zun H_30 (by omega) (by omega) rfl
    have F_40 : fr (fw_wa_add) σ s_40 := by rw [← hs_s_40]; exact fr.zu F_30 (by omega) (br (br (bl (beq_self_eq_true _))))
    have e_s_40_65_5 : s_40 65 5 = s_30 65 5 := by rw [← hs_s_40]; exact zu_c (by omega)
    generalize hv_v_43 : s_40 65 5 = v_43
    have rv_v_43 := CI.cw (a := 65) H_40 (by omega)
    rw [hv_v_43] at rv_v_43
    try have ew_2 := w32_id (x := v_43 + 1) (by omega) (by omega)
    generalize hs_s_48 : zu s_40 65 5 (w32 (v_43 + 1)) = s_48
    have H_48 : CI s_48 := by rw [← hs_s_48]; exact CI_zuy H_40 (by omega) (by omega) (lo := 0) (hi := 6) rfl (by omega) (by omega)
    have F_48 : fr (fw_wa_add) σ s_48 := by rw [← hs_s_48]; exact fr.zu F_40 (by omega) (br (br (br (bl (zbb _ _)))))
    have e_s_48_65_5 : s_48 65 5 = (w32 (v_43 + 1)) := by rw [← hs_s_48]; exact zu_e rfl
    exact zO.ret ⟨H_48, F_48, trivial⟩
  ·
    try dsimp +instances only
    exact zO.ret ⟨H, F, trivial⟩
def fw_wa_valueOf (a : Nat) (j : Int) : Bool := (fw_fi_gather 70 a j) || false
theorem g_wa_valueOf_sp {x1 : Int} {σ : zS} (H : CI σ) : zO (g_wa_valueOf x1 σ) (fun v s => CI s ∧ fr (fw_wa_valueOf) σ s ∧ (True)) := by
  have F : fr (fw_wa_valueOf) σ σ := fr.refl σ
  unfold g_wa_valueOf
  try dsimp +instances only
  refine zO.bindp (g_wa_has_sp H) (fun r_2 p_2 => ?_)
  try dsimp +instances only
  refine zO.ite (fun c_2 => ?_) (fun c_2 => ?_)
  ·
    try dsimp +instances only
    refine zO.gd (by omega) ?_
    try dsimp +instances only
    generalize hv_v_23 : σ 67 x1 = v_23
    refine zO.bindp (g_so_rowsIn_sp) (fun r_24 p_24 => ?_)
    try dsimp +instances only
    refine zO.bind (g_fi_gather_sp (by omega) H) (fun r_27 t_27 p_27 => ?_)
    obtain ⟨H_27, G_27, q_27⟩ := p_27
    try dsimp +instances only
    have F_27 := F.trans (fr.mono G_27 (fun a j h => ffl h))
    refine zO.gd (by omega) ?_
    try dsimp +instances only
    generalize hv_v_39 : t_27 66 x1 = v_39
    refine zO.bindp (g_fi_measured_sp (by omega) H_27) (fun r_40 p_40 => ?_)
    try dsimp +instances only
    exact zO.ret ⟨H_27, F_27, trivial⟩
  ·
    try dsimp +instances only
    exact zO.ret ⟨H, F, trivial⟩
def fw_wa_remember (a : Nat) (j : Int) : Bool := (fw_wa_valueOf a j) || ((a == 69) || false)
set_option maxHeartbeats 4000000 in
theorem g_wa_remember_L2_sp {σ0 : zS} : ∀ (n : Nat) (x2 : Int) (σ : zS), CI σ → fr (fw_wa_remember) σ0 σ → (0 ≤ x2 ∧ x2 ≤ 6) → (6 - x2) < (n : Int) → zO (g_wa_remember_L2 n x2 σ) (fun v s => CI s ∧ fr (fw_wa_remember) σ0 s ∧ (True))
  | 0, _, σ, _, _, hi, hm => by exfalso; omega
  | n + 1, x2, σ, H, F, hi, hm => by
    unfold g_wa_remember_L2
    try dsimp +instances only
    generalize hv_v_4 : σ 65 5 = v_4
    have rv_v_4 := CI.cw (a := 65) H (by omega)
    rw [hv_v_4] at rv_v_4
    refine zO.ite (fun c_1 => ?_) (fun c_1 => ?_)
    ·
      try dsimp +instances only
      exact zO.ret ⟨H, F, trivial⟩
    ·
      try dsimp +instances only
      refine zO.ite (fun c_2 => ?_) (fun c_2 => ?_)
      ·
        try dsimp +instances only
        exact zO.ret ⟨H, F, trivial⟩
      ·
        try dsimp +instances only
        refine zO.bind (g_wa_valueOf_sp H) (fun r_24 t_24 p_24 => ?_)
        obtain ⟨H_24, G_24, q_24⟩ := p_24
        try dsimp +instances only
        have F_24 := F.trans (fr.mono G_24 (fun a j h => ffl h))
        refine zO.gd (by omega) ?_
        try dsimp +instances only
        generalize hs_s_27 : zu t_24 69 x2 r_24 = s_27
        have H_27 : CI s_27 := by rw [← hs_s_27]; exact CI_zun H_24 (by omega) (by omega) rfl
        have F_27 : fr (fw_wa_remember) σ0 s_27 := by rw [← hs_s_27]; exact fr.zu F_24 (by omega) (br (bl (beq_self_eq_true _)))
        try have ew_4 := w32_id (x := x2 + 1) (by omega) (by omega)
        exact g_wa_remember_L2_sp n (w32 (x2 + 1)) s_27 H_27 F_27 (by omega) (by omega)
theorem g_wa_remember_sp {σ : zS} (H : CI σ) : zO (g_wa_remember σ) (fun v s => CI s ∧ fr (fw_wa_remember) σ s ∧ (True)) := by
  have F : fr (fw_wa_remember) σ σ := fr.refl σ
  unfold g_wa_remember
  try dsimp +instances only
  exact g_wa_remember_L2_sp zK 0 σ H F (by omega) (by show _ < (1000000 : Int); omega)
def fw_wa_compare (a : Nat) (j : Int) : Bool := (fw_wa_valueOf a j) || ((a == 68) || false)
set_option maxHeartbeats 4000000 in
theorem g_wa_compare_L2_sp {σ0 : zS} : ∀ (n : Nat) (x2 : Int) (σ : zS), CI σ → fr (fw_wa_compare) σ0 σ → (0 ≤ x2 ∧ x2 ≤ 6) → (6 - x2) < (n : Int) → zO (g_wa_compare_L2 n x2 σ) (fun v s => CI s ∧ fr (fw_wa_compare) σ0 s ∧ (True))
  | 0, _, σ, _, _, hi, hm => by exfalso; omega
  | n + 1, x2, σ, H, F, hi, hm => by
    unfold g_wa_compare_L2
    try dsimp +instances only
    generalize hv_v_4 : σ 65 5 = v_4
    have rv_v_4 := CI.cw (a := 65) H (by omega)
    rw [hv_v_4] at rv_v_4
    refine zO.ite (fun c_1 => ?_) (fun c_1 => ?_)
    ·
      try dsimp +instances only
      exact zO.ret ⟨H, F, trivial⟩
    ·
      try dsimp +instances only
      refine zO.ite (fun c_2 => ?_) (fun c_2 => ?_)
      ·
        try dsimp +instances only
        exact zO.ret ⟨H, F, trivial⟩
      ·
        try dsimp +instances only
        refine zO.bind (g_wa_valueOf_sp H) (fun r_19 t_19 p_19 => ?_)
        obtain ⟨H_19, G_19, q_19⟩ := p_19
        try dsimp +instances only
        have F_19 := F.trans (fr.mono G_19 (fun a j h => ffl h))
        refine zO.gd (by omega) ?_
        try dsimp +instances only
        generalize hv_v_27 : t_19 69 x2 = v_27
        refine zO.ite (fun c_4 => ?_) (fun c_4 => ?_)
        ·
          try dsimp +instances only
          unfold g_wa_compare_L42
          try dsimp +instances only
          try have ew_5 := w32_id (x := x2 + 1) (by omega) (by omega)
          exact g_wa_compare_L2_sp n (w32 (x2 + 1)) t_19 H_19 F_19 (by omega) (by omega)
        ·
          try dsimp +instances only
          refine zO.gd (by omega) ?_
          try dsimp +instances only
          generalize hv_v_38 : t_19 68 x2 = v_38
          refine zO.gd (by omega) ?_
          try dsimp +instances only
          try have ew_6 := w32_id (x := v_38 + 1) (by omega) (by omega)
          generalize hs_s_41 : zu t_19 68 x2 (w32 (v_38 + 1)) = s_41
          have H_41 : CI s_41 := by rw [← hs_s_41]; exact CI_zun H_19 (by omega) (by omega) rfl
          have F_41 : fr (fw_wa_compare) σ0 s_41 := by rw [← hs_s_41]; exact fr.zu F_19 (by omega) (br (bl (beq_self_eq_true _)))
          unfold g_wa_compare_L42
          try dsimp +instances only
          try have ew_7 := w32_id (x := x2 + 1) (by omega) (by omega)
          exact g_wa_compare_L2_sp n (w32 (x2 + 1)) s_41 H_41 F_41 (by omega) (by omega)
theorem g_wa_compare_sp {σ : zS} (H : CI σ) : zO (g_wa_compare σ) (fun v s => CI s ∧ fr (fw_wa_compare) σ s ∧ (True)) := by
  have F : fr (fw_wa_compare) σ σ := fr.refl σ
  unfold g_wa_compare
  try dsimp +instances only
  exact g_wa_compare_L2_sp zK 0 σ H F (by omega) (by show _ < (1000000 : Int); omega)
theorem g_li_refusal_sp {x1 : Int} {σ : zS} (H : CI σ) : zOp (g_li_refusal x1 σ) σ (fun v => (¬ (0 ≤ x1 ∧ x1 < 6) → v = -1) ∧ (0 ≤ x1 ∧ x1 < 6 ∧ σ 142 x1 < 0 → v = -11) ∧ (0 ≤ x1 ∧ x1 < 6 ∧ 0 ≤ σ 142 x1 → v = 0)) := by
  unfold g_li_refusal
  try dsimp +instances only
  refine zOp.bindp (g_li_isList_sp) (fun r_1 p_1 => ?_)
  try dsimp +instances only
  refine zOp.ite (fun c_2 => ?_) (fun c_2 => ?_)
  ·
    try dsimp +instances only
    refine zOp.gd (by omega) ?_
    try dsimp +instances only
    generalize hv_v_14 : σ 142 x1 = v_14
    have rv_v_14 := CI.cl (j := x1) H
    rw [hv_v_14] at rv_v_14
    refine zOp.ite (fun c_3 => ?_) (fun c_3 => ?_)
    ·
      try dsimp +instances only
      exact zOp.ret (by omega)
    ·
      try dsimp +instances only
      exact zOp.ret (by omega)
  ·
    try dsimp +instances only
    exact zOp.ret (by omega)
def fw_li_make (a : Nat) (j : Int) : Bool := ((decide (136 ≤ a) && decide (a ≤ 141))) || ((a == 142) || false)
set_option maxHeartbeats 4000000 in
theorem g_li_make_L27_sp {σ0 : zS} : ∀ (n : Nat) (x1 : Int) (x2 : Int) (x3 : Int) (σ : zS), CI σ → fr (fw_li_make) σ0 σ → (0 ≤ x1 ∧ x1 < 6 ∧ x2 ≤ 60 ∧ 0 ≤ x3 ∧ x3 ≤ 60) → (60 - x3) < (n : Int) → zO (g_li_make_L27 n x1 x2 x3 σ) (fun v s => CI s ∧ fr (fw_li_make) σ0 s ∧ (True))
  | 0, _, _, _, σ, _, _, hi, hm => by exfalso; omega
  | n + 1, x1, x2, x3, σ, H, F, hi, hm => by
    unfold g_li_make_L27
    try dsimp +instances only
    refine zO.ite (fun c_1 => ?_) (fun c_1 => ?_)
    ·
      try dsimp +instances only
      exact zO.ret ⟨H, F, trivial⟩
    ·
      try dsimp +instances only
      refine zO.gd (by omega) ?_
      try dsimp +instances only
      generalize hv_A_37 : 136 + (x1).toNat = A_37
      have rv_A_37 : 136 ≤ A_37 ∧ A_37 ≤ 141 := by omega
      refine zO.gd (by omega) ?_
      try dsimp +instances only
      generalize hs_s_40 : zu σ A_37 x3 0 = s_40
      have H_40 : CI s_40 := by rw [← hs_s_40]; exact CI_zun H (by omega) (by omega) (rng_row rv_A_37)
      have F_40 : fr (fw_li_make) σ0 s_40 := by rw [← hs_s_40]; exact fr.zu F (by omega) (bl (row_mem rv_A_37))
      try have ew_2 := w32_id (x := x3 + 1) (by omega) (by omega)
      exact g_li_make_L27_sp n x1 x2 (w32 (x3 + 1)) s_40 H_40 F_40 (by omega) (by omega)
theorem g_li_make_sp {x1 : Int} {x2 : Int} {σ : zS} (H : CI σ) : zO (g_li_make x1 x2 σ) (fun v s => CI s ∧ fr (fw_li_make) σ s ∧ (True)) := by
  have F : fr (fw_li_make) σ σ := fr.refl σ
  unfold g_li_make
  try dsimp +instances only
  refine zO.bindp (g_li_isList_sp) (fun r_1 p_1 => ?_)
  try dsimp +instances only
  refine zO.ite (fun c_4 => ?_) (fun c_4 => ?_)
  ·
    try dsimp +instances only
    exact zO.ret ⟨H, F, trivial⟩
  ·
    try dsimp +instances only
    refine zO.ite (fun c_5 => ?_) (fun c_5 => ?_)
    ·
      try dsimp +instances only
      exact zO.ret ⟨H, F, trivial⟩
    ·
      try dsimp +instances only
      refine zO.ite (fun c_6 => ?_) (fun c_6 => ?_)
      ·
        try dsimp +instances only
        refine zO.gd (by omega) ?_
        try dsimp +instances only
        generalize hs_s_24 : zu σ 142 x1 x2 = s_24
        have H_24 : CI s_24 := by rw [← hs_s_24]; exact CI_zuy H (by omega) (by omega) (lo := -1) (hi := 60) rfl (by omega) (by omega)
        have F_24 : fr (fw_li_make) σ s_24 := by rw [← hs_s_24]; exact fr.zu F (by omega) (br (bl (beq_self_eq_true _)))
        exact g_li_make_L27_sp zK x1 x2 0 s_24 H_24 F_24 (by omega) (by show _ < (1000000 : Int); omega)
      ·
        try dsimp +instances only
        exact zO.ret ⟨H, F, trivial⟩
theorem g_li_hasPlace_sp {x1 : Int} {x2 : Int} {σ : zS} (H : CI σ) : zOp (g_li_hasPlace x1 x2 σ) σ (fun v => (v ≠ 0 ↔ (0 ≤ x1 ∧ x1 < 6 ∧ 0 ≤ x2 ∧ x2 < σ 142 x1)) ∧ (v ≠ 0 → x2 < 60)) := by
  unfold g_li_hasPlace
  try dsimp +instances only
  refine zOp.bindp (g_li_isList_sp) (fun r_1 p_1 => ?_)
  try dsimp +instances only
  refine zOp.ite (fun c_2 => ?_) (fun c_2 => ?_)
  ·
    try dsimp +instances only
    exact zOp.ret (by omega)
  ·
    try dsimp +instances only
    refine zOp.ite (fun c_3 => ?_) (fun c_3 => ?_)
    ·
      try dsimp +instances only
      exact zOp.ret (by omega)
    ·
      try dsimp +instances only
      refine zOp.gd (by omega) ?_
      try dsimp +instances only
      generalize hv_v_17 : σ 142 x1 = v_17
      have rv_v_17 := CI.cl (j := x1) H
      rw [hv_v_17] at rv_v_17
      refine zOp.ite (fun c_4 => ?_) (fun c_4 => ?_)
      ·
        try dsimp +instances only
        exact zOp.ret (by omega)
      ·
        try dsimp +instances only
        refine zOp.ite (fun c_5 => ?_) (fun c_5 => ?_)
        ·
          try dsimp +instances only
          exact zOp.ret (by omega)
        ·
          try dsimp +instances only
          exact zOp.ret (by omega)
theorem g_li_hasSpan_sp {x1 : Int} {x2 : Int} {x3 : Int} {σ : zS} (H : CI σ) : zOp (g_li_hasSpan x1 x2 x3 σ) σ (fun v => (v ≠ 0 ↔ (0 ≤ x1 ∧ x1 < 6 ∧ 0 ≤ x2 ∧ 0 ≤ x3 ∧ x2 ≤ σ 142 x1 ∧ x3 ≤ σ 142 x1 - x2)) ∧ (v ≠ 0 → x2 + x3 ≤ 60)) := by
  unfold g_li_hasSpan
  try dsimp +instances only
  refine zOp.bindp (g_li_isList_sp) (fun r_1 p_1 => ?_)
  try dsimp +instances only
  refine zOp.ite (fun c_2 => ?_) (fun c_2 => ?_)
  ·
    try dsimp +instances only
    exact zOp.ret (by omega)
  ·
    try dsimp +instances only
    refine zOp.ite (fun c_3 => ?_) (fun c_3 => ?_)
    ·
      try dsimp +instances only
      exact zOp.ret (by omega)
    ·
      try dsimp +instances only
      refine zOp.ite (fun c_4 => ?_) (fun c_4 => ?_)
      ·
        try dsimp +instances only
        exact zOp.ret (by omega)
      ·
        try dsimp +instances only
        refine zOp.gd (by omega) ?_
        try dsimp +instances only
        generalize hv_v_21 : σ 142 x1 = v_21
        have rv_v_21 := CI.cl (j := x1) H
        rw [hv_v_21] at rv_v_21
        refine zOp.ite (fun c_5 => ?_) (fun c_5 => ?_)
        ·
          try dsimp +instances only
          exact zOp.ret (by omega)
        ·
          try dsimp +instances only
          refine zOp.gd (by omega) ?_
          try dsimp +instances only
          try have ew_6 := w32_id (x := v_21 - x2) (by omega) (by omega)
          refine zOp.ite (fun c_7 => ?_) (fun c_7 => ?_)
          ·
            try dsimp +instances only
            exact zOp.ret (by omega)
          ·
            try dsimp +instances only
            exact zOp.ret (by omega)
def fw_li_layFrom (a : Nat) (j : Int) : Bool := ((decide (136 ≤ a) && decide (a ≤ 141))) || false
set_option maxHeartbeats 4000000 in
theorem g_li_layFrom_L3_sp {σ0 : zS} : ∀ (n : Nat) (x1 : Int) (x2 : Int) (x4 : Int) (σ : zS), CI σ → fr (fw_li_layFrom) σ0 σ → (0 ≤ x4 ∧ x4 ≤ 60) → (60 - x4) < (n : Int) → zO (g_li_layFrom_L3 n x1 x2 x4 σ) (fun v s => CI s ∧ fr (fw_li_layFrom) σ0 s ∧ (True))
  | 0, _, _, _, σ, _, _, hi, hm => by exfalso; omega
  | n + 1, x1, x2, x4, σ, H, F, hi, hm => by
    unfold g_li_layFrom_L3
    try dsimp +instances only
    generalize hv_v_6 : σ 60 2 = v_6
    have rv_v_6 := CI.cf (a := 60) H (by omega)
    rw [hv_v_6] at rv_v_6
    refine zO.ite (fun c_1 => ?_) (fun c_1 => ?_)
    ·
      try dsimp +instances only
      unfold g_li_layFrom_L62
      try dsimp +instances only
      generalize hv_v_63 : σ 60 2 = v_63
      have rv_v_63 := CI.cf (a := 60) H (by omega)
      rw [hv_v_63] at rv_v_63
      exact zO.ret ⟨H, F, trivial⟩
    ·
      try dsimp +instances only
      refine zO.ite (fun c_2 => ?_) (fun c_2 => ?_)
      ·
        try dsimp +instances only
        unfold g_li_layFrom_L62
        try dsimp +instances only
        generalize hv_v_63 : σ 60 2 = v_63
        have rv_v_63 := CI.cf (a := 60) H (by omega)
        rw [hv_v_63] at rv_v_63
        exact zO.ret ⟨H, F, trivial⟩
      ·
        try dsimp +instances only
        refine zO.ite (fun c_3 => ?_) (fun c_3 => ?_)
        ·
          try dsimp +instances only
          exact zO.ret ⟨H, F, trivial⟩
        ·
          try dsimp +instances only
          try have ew_4 := w32_id (x := x2 + x4) (by omega) (by omega)
          refine zO.bindp (g_li_hasPlace_sp H) (fun r_29 p_29 => ?_)
          try dsimp +instances only
          refine zO.ite (fun c_6 => ?_) (fun c_6 => ?_)
          ·
            try dsimp +instances only
            refine zO.gd (by omega) ?_
            try dsimp +instances only
            generalize hv_A_43 : 136 + (x1).toNat = A_43
            have rv_A_43 : 136 ≤ A_43 ∧ A_43 ≤ 141 := by omega
            refine zO.gd (by omega) ?_
            try dsimp +instances only
            generalize hv_v_54 : σ 62 x4 = v_54
            refine zO.gd (by omega) ?_
            try dsimp +instances only
            generalize hs_s_55 : zu σ A_43 (w32 (x2 + x4)) v_54 = s_55
            have H_55 : CI s_55 := by rw [← hs_s_55]; exact CI_zun H (by omega) (by omega) (rng_row rv_A_43)
            have F_55 : fr (fw_li_layFrom) σ0 s_55 := by rw [← hs_s_55]; exact fr.zu F (by omega) (bl (row_mem rv_A_43))
            try have ew_7 := w32_id (x := x4 + 1) (by omega) (by omega)
            exact g_li_layFrom_L3_sp n x1 x2 (w32 (x4 + 1)) s_55 H_55 F_55 (by omega) (by omega)
          ·
            try dsimp +instances only
            exact zO.ret ⟨H, F, trivial⟩
theorem g_li_layFrom_sp {x1 : Int} {x2 : Int} {σ : zS} (H : CI σ) : zO (g_li_layFrom x1 x2 σ) (fun v s => CI s ∧ fr (fw_li_layFrom) σ s ∧ (True)) := by
  have F : fr (fw_li_layFrom) σ σ := fr.refl σ
  unfold g_li_layFrom
  try dsimp +instances only
  exact g_li_layFrom_L3_sp zK x1 x2 0 σ H F (by omega) (by show _ < (1000000 : Int); omega)
set_option maxHeartbeats 4000000 in
theorem g_li_judgeFrom_L10_sp {σ : zS} : ∀ (n : Nat) (x1 : Int) (x2 : Int) (x4 : Int) (H : CI σ), (0 ≤ x4 ∧ x4 ≤ 60) → (60 - x4) < (n : Int) → zOp (g_li_judgeFrom_L10 n x1 x2 x4 σ) σ (fun v => True)
  | 0, _, _, _, _, hi, hm => by exfalso; omega
  | n + 1, x1, x2, x4, H, hi, hm => by
    unfold g_li_judgeFrom_L10
    try dsimp +instances only
    generalize hv_v_13 : σ 60 2 = v_13
    have rv_v_13 := CI.cf (a := 60) H (by omega)
    rw [hv_v_13] at rv_v_13
    refine zOp.ite (fun c_1 => ?_) (fun c_1 => ?_)
    ·
      try dsimp +instances only
      exact zOp.ret trivial
    ·
      try dsimp +instances only
      refine zOp.ite (fun c_2 => ?_) (fun c_2 => ?_)
      ·
        try dsimp +instances only
        exact zOp.ret trivial
      ·
        try dsimp +instances only
        try have ew_3 := w32_id (x := x2 + x4) (by omega) (by omega)
        refine zOp.bindp (g_li_hasPlace_sp H) (fun r_32 p_32 => ?_)
        try dsimp +instances only
        refine zOp.ite (fun c_5 => ?_) (fun c_5 => ?_)
        ·
          try dsimp +instances only
          refine zOp.gd (by omega) ?_
          try dsimp +instances only
          generalize hv_A_49 : 136 + (x1).toNat = A_49
          have rv_A_49 : 136 ≤ A_49 ∧ A_49 ≤ 141 := by omega
          refine zOp.gd (by omega) ?_
          try dsimp +instances only
          generalize hv_v_54 : σ A_49 (w32 (x2 + x4)) = v_54
          refine zOp.gd (by omega) ?_
          try dsimp +instances only
          generalize hv_v_61 : σ 62 x4 = v_61
          refine zOp.ite (fun c_6 => ?_) (fun c_6 => ?_)
          ·
            try dsimp +instances only
            try have ew_7 := w32_id (x := x4 + 1) (by omega) (by omega)
            exact g_li_judgeFrom_L10_sp n x1 x2 (w32 (x4 + 1)) H (by omega) (by omega)
          ·
            try dsimp +instances only
            exact zOp.ret trivial
        ·
          try dsimp +instances only
          try have ew_8 := w32_id (x := 100 + x4) (by omega) (by omega)
          exact zOp.ret trivial
theorem g_li_judgeFrom_sp {x1 : Int} {x2 : Int} {σ : zS} (H : CI σ) : zOp (g_li_judgeFrom x1 x2 σ) σ (fun v => True) := by
  unfold g_li_judgeFrom
  try dsimp +instances only
  refine zOp.ite (fun c_9 => ?_) (fun c_9 => ?_)
  ·
    try dsimp +instances only
    exact g_li_judgeFrom_L10_sp zK x1 x2 0 H (by omega) (by show _ < (1000000 : Int); omega)
  ·
    try dsimp +instances only
    exact zOp.ret trivial
end
section
/-! 54.cls4 -/
/-! THE CLASS over the typed memory: texts' lengths and signs -/
theorem zLI_str {a : Nat} (h1 : 1 ≤ a) (h2 : a ≤ 18) : 0 ≤ zLI (a + 18) ∧ zLI (a + 18) ≤ 100 := by
  have h : ∀ b : Fin 19, zLN (b.val + 18) ≤ 100 := by decide +kernel
  have g := h ⟨a, by omega⟩
  unfold zLI
  constructor
  · omega
  · have g : zLN (a + 18) ≤ 100 := g
    omega
theorem g_jString_length_sp {a0 : Nat} (ha0 : 1 ≤ a0 ∧ a0 ≤ 18) {σ : zS} : zOp (g_jString_length a0 σ) σ (fun v => v = zLI (a0 + 18)) := by
  have h := zLI_str ha0.1 ha0.2
  exact ⟨_, s_length (iShr0 (by omega) (by omega)), rfl⟩
theorem g_jString_charAt_sp {a0 : Nat} (ha0 : 1 ≤ a0 ∧ a0 ≤ 18) {x1 : Int} {σ : zS} (hp : 0 ≤ x1 ∧ x1 < zLI (a0 + 18)) : zOp (g_jString_charAt a0 x1 σ) σ (fun _ => True) := ⟨_, s_charAt hp, trivial⟩
theorem g_ioc {a L : Nat} {x : Int} {σ : zS} (hL : zLI a = (L : Int)) (hL2 : L ≤ 100) : ∀ (d k n : Nat), k + d = L → d < n → ∃ v, g_jStringLatin1_indexOfChar_L7 a n (L : Int) x (k : Int) σ = some (v, σ) ∧ (0 ≤ v → ∃ j : Nat, j < L ∧ zs0 a (j : Int) = x)
  | _, _, 0, _, h => absurd h (Nat.not_lt_zero _)
  | 0, k, n + 1, hk, _ => by
    unfold g_jStringLatin1_indexOfChar_L7
    rw [if_pos (by omega)]
    exact ⟨-1, rfl, fun h => absurd h (by decide)⟩
  | d + 1, k, n + 1, hk, hn => by
    unfold g_jStringLatin1_indexOfChar_L7
    rw [if_neg (by omega), if_pos (by omega)]
    dsimp only
    by_cases c : zs0 a (k : Int) ≠ x
    · rw [if_pos c, w32_id (x := (k : Int) + 1) (by omega) (by omega), show (k : Int) + 1 = ((k + 1 : Nat) : Int) by omega]
      exact g_ioc hL hL2 d (k + 1) n (by omega) (by omega)
    · rw [if_neg c]
      exact ⟨_, rfl, fun _ => ⟨k, by omega, by omega⟩⟩
theorem g_io {a L : Nat} {x : Int} {σ : zS} (hl : iShr (zLI (a + 18)) 0 = zLI (a + 18)) (hL : zLI (a + 18) = (L : Int)) (hL2 : L ≤ 100) (hL3 : 0 < L) (h0 : ∀ j : Nat, j < L → zs0 (a + 18) (j : Int) ≠ 0) : zOp (g_jString_indexOf_295 a x σ) σ (fun v => 0 ≤ v → x ≠ 0) := by
  unfold g_jString_indexOf_295 g_jString_indexOf_296 g_jString_isLatin1
  rw [if_neg (by decide), if_neg (by decide)]
  rw [Option.bind_some]
  dsimp only
  rw [if_neg (by decide), s_length hl]
  rw [Option.bind_some]
  dsimp only
  unfold g_jStringLatin1_indexOf g_jStringLatin1_canEncode_310
  by_cases c1 : x < 0
  · rw [if_pos c1]
    rw [Option.bind_some]
    dsimp only
    rw [if_neg (by decide)]
    exact ⟨-1, rfl, fun h => absurd h (by decide)⟩
  · rw [if_neg c1]
    by_cases c2 : 255 < x
    · rw [if_pos c2]
      rw [Option.bind_some]
      dsimp only
      rw [if_neg (by decide)]
      exact ⟨-1, rfl, fun h => absurd h (by decide)⟩
    · rw [if_neg c2]
      rw [Option.bind_some]
      dsimp only
      rw [if_pos (by decide)]
      unfold g_jMath_max_289 g_jMath_min_291
      rw [if_neg (by decide)]
      rw [Option.bind_some]
      dsimp only
      rw [if_neg (by omega)]
      rw [Option.bind_some]
      dsimp only
      rw [if_pos (by omega)]
      unfold g_jStringLatin1_indexOfChar
      rw [hL]
      obtain ⟨v, e1, e2⟩ := g_ioc (σ := σ) (x := w8 x) hL hL2 L 0 zK (by omega) (by show _ < 1000000; omega)
      rw [show ((0 : Nat) : Int) = 0 from rfl] at e1
      rw [e1]
      refine ⟨v, rfl, fun h hx => ?_⟩
      obtain ⟨j, j1, j2⟩ := e2 h
      rw [hx] at j2
      exact h0 j j1 j2
theorem g_jString_indexOf_295_sp {a0 : Nat} (ha0 : a0 = 6 ∨ a0 = 7) {x1 : Int} {σ : zS} : zOp (g_jString_indexOf_295 a0 x1 σ) σ (fun v => 0 ≤ v → x1 ≠ 0) := by
  rcases ha0 with rfl | rfl
  · refine g_io (L := 4) (by decide +kernel) rfl (by decide) (by decide) (fun j hj => ?_)
    have h : ∀ i : Fin 4, zs0 24 ((i.val : Nat) : Int) ≠ 0 := by decide +kernel
    exact h ⟨j, hj⟩
  · refine g_io (L := 3) (by decide +kernel) rfl (by decide) (by decide) (fun j hj => ?_)
    have h : ∀ i : Fin 3, zs0 25 ((i.val : Nat) : Int) ≠ 0 := by decide +kernel
    exact h ⟨j, hj⟩
end
section
/-! 55.cls5 -/
/-! THE CLASS over the typed memory: each method answers, keeps the invariant, changes what fw_.. names (printed by wip/zv.py) -/
theorem g_ta_here_sp {σ : zS} (H : CI σ) : zOp (g_ta_here σ) σ (fun v => v ≠ 0 → 0 ≤ σ 120 2 ∧ σ 120 2 < σ 120 1) := by
  have ri_120_2 := CI.ca H
  have ri_120_1 := CI.ct H
  unfold g_ta_here
  try dsimp +instances only
  generalize hv_v_1 : σ 120 3 = v_1
  refine zOp.ite (fun c_1 => ?_) (fun c_1 => ?_)
  ·
    try dsimp +instances only
    exact zOp.ret (by omega)
  ·
    try dsimp +instances only
    generalize hv_v_9 : σ 120 2 = v_9
    have rv_v_9 := CI.ca H
    rw [hv_v_9] at rv_v_9
    refine zOp.ite (fun c_2 => ?_) (fun c_2 => ?_)
    ·
      try dsimp +instances only
      exact zOp.ret (by omega)
    ·
      try dsimp +instances only
      generalize hv_v_20 : σ 120 1 = v_20
      have rv_v_20 := CI.ct H
      rw [hv_v_20] at rv_v_20
      refine zOp.ite (fun c_3 => ?_) (fun c_3 => ?_)
      ·
        try dsimp +instances only
        exact zOp.ret (by omega)
      ·
        try dsimp +instances only
        refine zOp.ite (fun c_4 => ?_) (fun c_4 => ?_)
        ·
          try dsimp +instances only
          exact zOp.ret (by omega)
        ·
          try dsimp +instances only
          refine zOp.gd (by omega) ?_
          try dsimp +instances only
          generalize hv_v_44 : σ 121 v_9 = v_44
          exact zOp.ret (by omega)
theorem g_ta_isSound_sp {σ : zS} : zOp (g_ta_isSound σ) σ (fun v => True) := by
  unfold g_ta_isSound
  try dsimp +instances only
  generalize hv_v_1 : σ 120 3 = v_1
  refine zOp.ite (fun c_1 => ?_) (fun c_1 => ?_)
  ·
    try dsimp +instances only
    exact zOp.ret trivial
  ·
    try dsimp +instances only
    exact zOp.ret trivial
def fw_ta_blame (a : Nat) (j : Int) : Bool := ((a == 120 && j == 3)) || false
theorem g_ta_blame_sp {x1 : Int} {σ : zS} (H : CI σ) : zO (g_ta_blame x1 σ) (fun v s => CI s ∧ fr (fw_ta_blame) σ s ∧ (True)) := by
  have F : fr (fw_ta_blame) σ σ := fr.refl σ
  unfold g_ta_blame
  try dsimp +instances only
  generalize hv_v_1 : σ 120 3 = v_1
  refine zO.ite (fun c_1 => ?_) (fun c_1 => ?_)
  ·
    try dsimp +instances only
    exact zO.ret ⟨H, F, trivial⟩
  ·
    try dsimp +instances only
    generalize hs_s_10 : zu σ 120 3 x1 = s_10
    have H_10 : CI s_10 := by rw [← hs_s_10]; exact CI_zun H (by omega) (by omega) rfl
    have F_10 : fr (fw_ta_blame) σ s_10 := by rw [← hs_s_10]; exact fr.zu F (by omega) (bl (zbb _ _))
    exact zO.ret ⟨H_10, F_10, trivial⟩
def fw_ta_wants (a : Nat) (j : Int) : Bool := (fw_ta_blame a j) || (((a == 120 && j == 2)) || false)
theorem g_ta_wants_sp {x1 : Int} {σ : zS} (H : CI σ) (hp : x1 ≠ 0) : zO (g_ta_wants x1 σ) (fun v s => CI s ∧ fr (fw_ta_wants) σ s ∧ (True)) := by
  have F : fr (fw_ta_wants) σ σ := fr.refl σ
  have ri_120_1 := CI.ct H
  unfold g_ta_wants
  try dsimp +instances only
  refine zO.bindp (g_ta_here_sp H) (fun r_1 p_1 => ?_)
  try dsimp +instances only
  refine zO.ite (fun c_2 => ?_) (fun c_2 => ?_)
  ·
    try dsimp +instances only
    generalize hv_v_23 : σ 120 2 = v_23
    have rv_v_23 := CI.ca H
    rw [hv_v_23] at rv_v_23
    refine zO.bind (g_ta_blame_sp H) (fun r_26 t_26 p_26 => ?_)
    obtain ⟨H_26, G_26, q_26⟩ := p_26
    try dsimp +instances only
    have F_26 := F.trans (fr.mono G_26 (fun a j h => ffl h))
    have e_t_26_120_1 := G_26 120 1 (Or.inr rfl)
    exact zO.ret ⟨H_26, F_26, trivial⟩
  ·
    try dsimp +instances only
    generalize hv_v_10 : σ 120 2 = v_10
    have rv_v_10 := CI.ca H
    rw [hv_v_10] at rv_v_10
    try have ew_4 := w32_id (x := v_10 + 1) (by omega) (by omega)
    generalize hs_s_15 : zu σ 120 2 (w32 (v_10 + 1)) = s_15
    have H_15 : CI s_15 := by rw [← hs_s_15]; exact CI_zuy H (by omega) (by omega) (lo := 0) (hi := 160) rfl (by omega) (by omega)
    have F_15 : fr (fw_ta_wants) σ s_15 := by rw [← hs_s_15]; exact fr.zu F (by omega) (br (bl (zbb _ _)))
    have e_s_15_120_1 : s_15 120 1 = σ 120 1 := by rw [← hs_s_15]; exact zu_c (by omega)
    exact zO.ret ⟨H_15, F_15, trivial⟩
def fw_ta_takes (a : Nat) (j : Int) : Bool := ((a == 120 && j == 2)) || false
theorem g_ta_takes_sp {x1 : Int} {σ : zS} (H : CI σ) (hp : x1 ≠ 0) : zO (g_ta_takes x1 σ) (fun v s => CI s ∧ fr (fw_ta_takes) σ s ∧ (True)) := by
  have F : fr (fw_ta_takes) σ σ := fr.refl σ
  have ri_120_1 := CI.ct H
  unfold g_ta_takes
  try dsimp +instances only
  refine zO.bindp (g_ta_here_sp H) (fun r_1 p_1 => ?_)
  try dsimp +instances only
  refine zO.ite (fun c_2 => ?_) (fun c_2 => ?_)
  ·
    try dsimp +instances only
    generalize hv_v_12 : σ 120 2 = v_12
    have rv_v_12 := CI.ca H
    rw [hv_v_12] at rv_v_12
    try have ew_3 := w32_id (x := v_12 + 1) (by omega) (by omega)
    generalize hs_s_17 : zu σ 120 2 (w32 (v_12 + 1)) = s_17
    have H_17 : CI s_17 := by rw [← hs_s_17]; exact CI_zuy H (by omega) (by omega) (lo := 0) (hi := 160) rfl (by omega) (by omega)
    have F_17 : fr (fw_ta_takes) σ s_17 := by rw [← hs_s_17]; exact fr.zu F (by omega) (bl (zbb _ _))
    have e_s_17_120_1 : s_17 120 1 = σ 120 1 := by rw [← hs_s_17]; exact zu_c (by omega)
    exact zO.ret ⟨H_17, F_17, trivial⟩
  ·
    try dsimp +instances only
    exact zO.ret ⟨H, F, trivial⟩
def fw_ta_oneOf (a1 : Nat) (a : Nat) (j : Int) : Bool := ((a == 120 && j == 2)) || ((fw_ta_blame a j) || false)
theorem g_ta_oneOf_sp {a1 : Nat} (ha1 : a1 = 6 ∨ a1 = 7) {σ : zS} (H : CI σ) : zO (g_ta_oneOf a1 σ) (fun v s => CI s ∧ fr (fw_ta_oneOf a1) σ s ∧ (True)) := by
  have F : fr (fw_ta_oneOf a1) σ σ := fr.refl σ
  have ri_120_1 := CI.ct H
  unfold g_ta_oneOf
  try dsimp +instances only
  refine zO.bindp (g_ta_here_sp H) (fun r_2 p_2 => ?_)
  try dsimp +instances only
  refine zO.bindp (g_jString_indexOf_295_sp (by omega)) (fun r_6 p_6 => ?_)
  try dsimp +instances only
  have hw : r_2 = 0 → w16 r_2 = 0 := fun h => by rw [h]; rfl
  refine zO.ite (fun c_3 => ?_) (fun c_3 => ?_)
  ·
    try dsimp +instances only
    generalize hv_v_27 : σ 120 2 = v_27
    have rv_v_27 := CI.ca H
    rw [hv_v_27] at rv_v_27
    try have ew_4 := w32_id (x := v_27 + 1) (by omega) (by omega)
    generalize hs_s_32 : zu σ 120 2 (w32 (v_27 + 1)) = s_32
    have H_32 : CI s_32 := by rw [← hs_s_32]; exact CI_zuy H (by omega) (by omega) (lo := 0) (hi := 160) rfl (by omega) (by omega)
    have F_32 : fr (fw_ta_oneOf a1) σ s_32 := by rw [← hs_s_32]; exact fr.zu F (by omega) (bl (zbb _ _))
    have e_s_32_120_1 : s_32 120 1 = σ 120 1 := by rw [← hs_s_32]; exact zu_c (by omega)
    exact zO.ret ⟨H_32, F_32, trivial⟩
  ·
    try dsimp +instances only
    generalize hv_v_16 : σ 120 2 = v_16
    have rv_v_16 := CI.ca H
    rw [hv_v_16] at rv_v_16
    refine zO.bind (g_ta_blame_sp H) (fun r_19 t_19 p_19 => ?_)
    obtain ⟨H_19, G_19, q_19⟩ := p_19
    try dsimp +instances only
    have F_19 := F.trans (fr.mono G_19 (fun a j h => ffl (ffr h)))
    have e_t_19_120_1 := G_19 120 1 (Or.inr rfl)
    exact zO.ret ⟨H_19, F_19, trivial⟩
def fw_ta_number (a : Nat) (j : Int) : Bool := (fw_ta_blame a j) || (((a == 120 && j == 2)) || false)
set_option maxHeartbeats 4000000 in
theorem g_ta_number_L12_sp {σ0 : zS} : ∀ (n : Nat) (x1 : Int) (x2 : Int) (x3 : Int) (x4 : Int) (x5 : Int) (x6 : Int) (σ : zS), CI σ → fr (fw_ta_number) σ0 σ → (x1 ≤ 10 ∧ 0 ≤ x6 ∧ x6 ≤ 10) → (10 - x6) < (n : Int) → zO (g_ta_number_L12 n x1 x2 x3 x4 x5 x6 σ) (fun v s => CI s ∧ fr (fw_ta_number) σ0 s ∧ (True))
  | 0, _, _, _, _, _, _, σ, _, _, hi, hm => by exfalso; omega
  | n + 1, x1, x2, x3, x4, x5, x6, σ, H, F, hi, hm => by
    have ri_120_1 := CI.ct H
    unfold g_ta_number_L12
    try dsimp +instances only
    refine zO.ite (fun c_1 => ?_) (fun c_1 => ?_)
    ·
      try dsimp +instances only
      unfold g_ta_number_L67
      try dsimp +instances only
      generalize hv_v_68 : σ 120 2 = v_68
      have rv_v_68 := CI.ca H
      rw [hv_v_68] at rv_v_68
      refine zO.ite (fun c_2 => ?_) (fun c_2 => ?_)
      ·
        try dsimp +instances only
        unfold g_ta_number_L88
        try dsimp +instances only
        refine zO.bind (g_ta_blame_sp H) (fun r_91 t_91 p_91 => ?_)
        obtain ⟨H_91, G_91, q_91⟩ := p_91
        try dsimp +instances only
        have F_91 := F.trans (fr.mono G_91 (fun a j h => ffl h))
        have e_t_91_120_1 := G_91 120 1 (Or.inr rfl)
        exact zO.ret ⟨H_91, F_91, trivial⟩
      ·
        try dsimp +instances only
        refine zO.ite (fun c_4 => ?_) (fun c_4 => ?_)
        ·
          try dsimp +instances only
          unfold g_ta_number_L88
          try dsimp +instances only
          refine zO.bind (g_ta_blame_sp H) (fun r_91 t_91 p_91 => ?_)
          obtain ⟨H_91, G_91, q_91⟩ := p_91
          try dsimp +instances only
          have F_91 := F.trans (fr.mono G_91 (fun a j h => ffl h))
          have e_t_91_120_1 := G_91 120 1 (Or.inr rfl)
          exact zO.ret ⟨H_91, F_91, trivial⟩
        ·
          try dsimp +instances only
          refine zO.ite (fun c_6 => ?_) (fun c_6 => ?_)
          ·
            try dsimp +instances only
            exact zO.ret ⟨H, F, trivial⟩
          ·
            try dsimp +instances only
            unfold g_ta_number_L88
            try dsimp +instances only
            refine zO.bind (g_ta_blame_sp H) (fun r_91 t_91 p_91 => ?_)
            obtain ⟨H_91, G_91, q_91⟩ := p_91
            try dsimp +instances only
            have F_91 := F.trans (fr.mono G_91 (fun a j h => ffl h))
            have e_t_91_120_1 := G_91 120 1 (Or.inr rfl)
            exact zO.ret ⟨H_91, F_91, trivial⟩
    ·
      try dsimp +instances only
      refine zO.bindp (g_ta_here_sp H) (fun r_19 p_19 => ?_)
      try dsimp +instances only
      refine zO.ite (fun c_9 => ?_) (fun c_9 => ?_)
      ·
        try dsimp +instances only
        unfold g_ta_number_L67
        try dsimp +instances only
        generalize hv_v_68 : σ 120 2 = v_68
        have rv_v_68 := CI.ca H
        rw [hv_v_68] at rv_v_68
        refine zO.ite (fun c_10 => ?_) (fun c_10 => ?_)
        ·
          try dsimp +instances only
          unfold g_ta_number_L88
          try dsimp +instances only
          refine zO.bind (g_ta_blame_sp H) (fun r_91 t_91 p_91 => ?_)
          obtain ⟨H_91, G_91, q_91⟩ := p_91
          try dsimp +instances only
          have F_91 := F.trans (fr.mono G_91 (fun a j h => ffl h))
          have e_t_91_120_1 := G_91 120 1 (Or.inr rfl)
          exact zO.ret ⟨H_91, F_91, trivial⟩
        ·
          try dsimp +instances only
          refine zO.ite (fun c_12 => ?_) (fun c_12 => ?_)
          ·
            try dsimp +instances only
            unfold g_ta_number_L88
            try dsimp +instances only
            refine zO.bind (g_ta_blame_sp H) (fun r_91 t_91 p_91 => ?_)
            obtain ⟨H_91, G_91, q_91⟩ := p_91
            try dsimp +instances only
            have F_91 := F.trans (fr.mono G_91 (fun a j h => ffl h))
            have e_t_91_120_1 := G_91 120 1 (Or.inr rfl)
            exact zO.ret ⟨H_91, F_91, trivial⟩
          ·
            try dsimp +instances only
            refine zO.ite (fun c_14 => ?_) (fun c_14 => ?_)
            ·
              try dsimp +instances only
              exact zO.ret ⟨H, F, trivial⟩
            ·
              try dsimp +instances only
              unfold g_ta_number_L88
              try dsimp +instances only
              refine zO.bind (g_ta_blame_sp H) (fun r_91 t_91 p_91 => ?_)
              obtain ⟨H_91, G_91, q_91⟩ := p_91
              try dsimp +instances only
              have F_91 := F.trans (fr.mono G_91 (fun a j h => ffl h))
              have e_t_91_120_1 := G_91 120 1 (Or.inr rfl)
              exact zO.ret ⟨H_91, F_91, trivial⟩
      ·
        try dsimp +instances only
        refine zO.bindp (g_ta_here_sp H) (fun r_28 p_28 => ?_)
        try dsimp +instances only
        refine zO.ite (fun c_17 => ?_) (fun c_17 => ?_)
        ·
          try dsimp +instances only
          unfold g_ta_number_L67
          try dsimp +instances only
          generalize hv_v_68 : σ 120 2 = v_68
          have rv_v_68 := CI.ca H
          rw [hv_v_68] at rv_v_68
          refine zO.ite (fun c_18 => ?_) (fun c_18 => ?_)
          ·
            try dsimp +instances only
            unfold g_ta_number_L88
            try dsimp +instances only
            refine zO.bind (g_ta_blame_sp H) (fun r_91 t_91 p_91 => ?_)
            obtain ⟨H_91, G_91, q_91⟩ := p_91
            try dsimp +instances only
            have F_91 := F.trans (fr.mono G_91 (fun a j h => ffl h))
            have e_t_91_120_1 := G_91 120 1 (Or.inr rfl)
            exact zO.ret ⟨H_91, F_91, trivial⟩
          ·
            try dsimp +instances only
            refine zO.ite (fun c_20 => ?_) (fun c_20 => ?_)
            ·
              try dsimp +instances only
              unfold g_ta_number_L88
              try dsimp +instances only
              refine zO.bind (g_ta_blame_sp H) (fun r_91 t_91 p_91 => ?_)
              obtain ⟨H_91, G_91, q_91⟩ := p_91
              try dsimp +instances only
              have F_91 := F.trans (fr.mono G_91 (fun a j h => ffl h))
              have e_t_91_120_1 := G_91 120 1 (Or.inr rfl)
              exact zO.ret ⟨H_91, F_91, trivial⟩
            ·
              try dsimp +instances only
              refine zO.ite (fun c_22 => ?_) (fun c_22 => ?_)
              ·
                try dsimp +instances only
                exact zO.ret ⟨H, F, trivial⟩
              ·
                try dsimp +instances only
                unfold g_ta_number_L88
                try dsimp +instances only
                refine zO.bind (g_ta_blame_sp H) (fun r_91 t_91 p_91 => ?_)
                obtain ⟨H_91, G_91, q_91⟩ := p_91
                try dsimp +instances only
                have F_91 := F.trans (fr.mono G_91 (fun a j h => ffl h))
                have e_t_91_120_1 := G_91 120 1 (Or.inr rfl)
                exact zO.ret ⟨H_91, F_91, trivial⟩
        ·
          try dsimp +instances only
          refine zO.bindp (g_ta_here_sp H) (fun r_42 p_42 => ?_)
          try dsimp +instances only
          generalize hv_v_53 : σ 120 2 = v_53
          have rv_v_53 := CI.ca H
          rw [hv_v_53] at rv_v_53
          try have ew_25 := w32_id (x := v_53 + 1) (by omega) (by omega)
          generalize hs_s_58 : zu σ 120 2 (w32 (v_53 + 1)) = s_58
          have H_58 : CI s_58 := by rw [← hs_s_58]; exact CI_zuy H (by omega) (by omega) (lo := 0) (hi := 160) rfl (by omega) (by omega)
          have F_58 : fr (fw_ta_number) σ0 s_58 := by rw [← hs_s_58]; exact fr.zu F (by omega) (br (bl (zbb _ _)))
          have e_s_58_120_1 : s_58 120 1 = σ 120 1 := by rw [← hs_s_58]; exact zu_c (by omega)
          try have ew_26 := w32_id (x := x6 + 1) (by omega) (by omega)
          try have ew_27 := w32_id (x := x5 * 10) (by omega) (by omega)
          try have ew_28 := w32_id (x := (w32 (x5 * 10)) + r_42) (by omega) (by omega)
          try have ew_29 := w32_id (x := (w32 ((w32 (x5 * 10)) + r_42)) - 48) (by omega) (by omega)
          exact g_ta_number_L12_sp n x1 x2 x3 x4 (w32 ((w32 ((w32 (x5 * 10)) + r_42)) - 48)) (w32 (x6 + 1)) s_58 H_58 F_58 (by omega) (by omega)
theorem g_ta_number_sp {x1 : Int} {x2 : Int} {x3 : Int} {σ : zS} (H : CI σ) (hp : x1 ≤ 10) : zO (g_ta_number x1 x2 x3 σ) (fun v s => CI s ∧ fr (fw_ta_number) σ s ∧ (True)) := by
  have F : fr (fw_ta_number) σ σ := fr.refl σ
  have ri_120_1 := CI.ct H
  unfold g_ta_number
  try dsimp +instances only
  generalize hv_v_1 : σ 120 2 = v_1
  have rv_v_1 := CI.ca H
  rw [hv_v_1] at rv_v_1
  exact g_ta_number_L12_sp zK x1 x2 x3 v_1 0 0 σ H F (by omega) (by show _ < (1000000 : Int); omega)
set_option maxHeartbeats 4000000 in
theorem g_ta_isSame_L40_sp {a1 : Nat} (ha1 : a1 = 1 ∨ a1 = 2 ∨ a1 = 3 ∨ a1 = 4 ∨ a1 = 5) {σ : zS} : ∀ (n : Nat) (x2 : Int) (x3 : Int) (x4 : Int) (x5 : Int) (H : CI σ), (0 ≤ x2 ∧ x2 ≤ 101 ∧ 0 ≤ x3 ∧ x3 ≤ 101 ∧ 0 ≤ x4 ∧ x4 + (x3 - x2) ≤ 160 ∧ 0 ≤ x5 ∧ x5 ≤ 101) → (101 - x5) < (n : Int) → zOp (g_ta_isSame_L40 a1 n x2 x3 x4 x5 σ) σ (fun v => True)
  | 0, _, _, _, _, _, hi, hm => by exfalso; omega
  | n + 1, x2, x3, x4, x5, H, hi, hm => by
    have hzs := zLI_str (a := a1) (by omega) (by omega)
    unfold g_ta_isSame_L40
    try dsimp +instances only
    try have ew_1 := w32_id (x := x3 - x2) (by omega) (by omega)
    refine zOp.ite (fun c_2 => ?_) (fun c_2 => ?_)
    ·
      try dsimp +instances only
      exact zOp.ret trivial
    ·
      try dsimp +instances only
      refine zOp.bindp (g_jString_length_sp (by omega)) (fun r_53 p_53 => ?_)
      try dsimp +instances only
      try have ew_4 := w32_id (x := x2 + x5) (by omega) (by omega)
      refine zOp.ite (fun c_5 => ?_) (fun c_5 => ?_)
      ·
        try dsimp +instances only
        exact zOp.ret trivial
      ·
        try dsimp +instances only
        try have ew_6 := w32_id (x := x4 + x5) (by omega) (by omega)
        refine zOp.gd (by omega) ?_
        try dsimp +instances only
        generalize hv_v_68 : σ 121 (w32 (x4 + x5)) = v_68
        refine zOp.bindp (g_jString_charAt_sp (by omega) (by omega)) (fun r_74 p_74 => ?_)
        try dsimp +instances only
        refine zOp.ite (fun c_8 => ?_) (fun c_8 => ?_)
        ·
          try dsimp +instances only
          try have ew_9 := w32_id (x := x5 + 1) (by omega) (by omega)
          exact g_ta_isSame_L40_sp (by omega) n x2 x3 x4 (w32 (x5 + 1)) H (by omega) (by omega)
        ·
          try dsimp +instances only
          exact zOp.ret trivial
theorem g_ta_isSame_sp {a1 : Nat} (ha1 : a1 = 1 ∨ a1 = 2 ∨ a1 = 3 ∨ a1 = 4 ∨ a1 = 5) {x2 : Int} {x3 : Int} {x4 : Int} {σ : zS} (H : CI σ) (hp : 0 ≤ x2 ∧ x2 ≤ 101 ∧ 0 ≤ x3 ∧ x3 ≤ 101 ∧ 0 ≤ x4 ∧ x4 ≤ 160) : zOp (g_ta_isSame a1 x2 x3 x4 σ) σ (fun v => True) := by
  have hzs := zLI_str (a := a1) (by omega) (by omega)
  unfold g_ta_isSame
  try dsimp +instances only
  refine zOp.bindp (g_ta_isSound_sp) (fun r_1 p_1 => ?_)
  try dsimp +instances only
  refine zOp.ite (fun c_11 => ?_) (fun c_11 => ?_)
  ·
    try dsimp +instances only
    exact zOp.ret trivial
  ·
    try dsimp +instances only
    refine zOp.ite (fun c_12 => ?_) (fun c_12 => ?_)
    ·
      try dsimp +instances only
      exact zOp.ret trivial
    ·
      try dsimp +instances only
      generalize hv_v_13 : σ 120 2 = v_13
      have rv_v_13 := CI.ca H
      rw [hv_v_13] at rv_v_13
      refine zOp.ite (fun c_13 => ?_) (fun c_13 => ?_)
      ·
        try dsimp +instances only
        exact zOp.ret trivial
      ·
        try dsimp +instances only
        try have ew_14 := w32_id (x := x3 - x2) (by omega) (by omega)
        try have ew_15 := w32_id (x := v_13 - x4) (by omega) (by omega)
        refine zOp.ite (fun c_16 => ?_) (fun c_16 => ?_)
        ·
          try dsimp +instances only
          exact g_ta_isSame_L40_sp (by omega) zK x2 x3 x4 0 H (by omega) (by show _ < (1000000 : Int); omega)
        ·
          try dsimp +instances only
          exact zOp.ret trivial
def fw_ta_word (a1 : Nat) (a : Nat) (j : Int) : Bool := (fw_ta_blame a j) || (((a == 120 && j == 2)) || false)
set_option maxHeartbeats 4000000 in
theorem g_ta_word_L56_sp {a1 : Nat} (ha1 : a1 = 1 ∨ a1 = 2 ∨ a1 = 3 ∨ a1 = 4 ∨ a1 = 5) {σ0 : zS} : ∀ (n : Nat) (x2 : Int) (x3 : Int) (x4 : Int) (x5 : Int) (σ : zS), CI σ → fr (fw_ta_word a1) σ0 σ → (0 ≤ x2 ∧ x2 ≤ 160 ∧ 0 ≤ x4 ∧ x4 ≤ x5 ∧ x5 ≤ 101) → (101 - x5) < (n : Int) → zO (g_ta_word_L56 a1 n x2 x3 x4 x5 σ) (fun v s => CI s ∧ fr (fw_ta_word a1) σ0 s ∧ (True))
  | 0, _, _, _, _, σ, _, _, hi, hm => by exfalso; omega
  | n + 1, x2, x3, x4, x5, σ, H, F, hi, hm => by
    have ri_120_1 := CI.ct H
    have hzs := zLI_str (a := a1) (by omega) (by omega)
    unfold g_ta_word_L56
    try dsimp +instances only
    refine zO.bindp (g_jString_length_sp (by omega)) (fun r_59 p_59 => ?_)
    try dsimp +instances only
    refine zO.ite (fun c_2 => ?_) (fun c_2 => ?_)
    ·
      try dsimp +instances only
      refine zO.bind (g_ta_blame_sp H) (fun r_117 t_117 p_117 => ?_)
      obtain ⟨H_117, G_117, q_117⟩ := p_117
      try dsimp +instances only
      have F_117 := F.trans (fr.mono G_117 (fun a j h => ffl h))
      have e_t_117_120_1 := G_117 120 1 (Or.inr rfl)
      exact zO.ret ⟨H_117, F_117, trivial⟩
    ·
      try dsimp +instances only
      refine zO.bindp (g_jString_length_sp (by omega)) (fun r_68 p_68 => ?_)
      try dsimp +instances only
      refine zO.ite (fun c_5 => ?_) (fun c_5 => ?_)
      ·
        try dsimp +instances only
        unfold g_ta_word_L85
        try dsimp +instances only
        refine zO.bindp (g_ta_isSame_sp (by omega) H (by omega)) (fun r_92 p_92 => ?_)
        try dsimp +instances only
        refine zO.ite (fun c_7 => ?_) (fun c_7 => ?_)
        ·
          try dsimp +instances only
          try have ew_8 := w32_id (x := x5 + 1) (by omega) (by omega)
          try have ew_9 := w32_id (x := x3 + 1) (by omega) (by omega)
          unfold g_ta_word_L109
          try dsimp +instances only
          exact g_ta_word_L56_sp (by omega) n x2 (w32 (x3 + 1)) (w32 (x5 + 1)) (w32 (x5 + 1)) σ H F (by omega) (by omega)
        ·
          try dsimp +instances only
          exact zO.ret ⟨H, F, trivial⟩
      ·
        try dsimp +instances only
        refine zO.bindp (g_jString_charAt_sp (by omega) (by omega)) (fun r_77 p_77 => ?_)
        try dsimp +instances only
        refine zO.ite (fun c_11 => ?_) (fun c_11 => ?_)
        ·
          try dsimp +instances only
          unfold g_ta_word_L109
          try dsimp +instances only
          try have ew_12 := w32_id (x := x5 + 1) (by omega) (by omega)
          exact g_ta_word_L56_sp (by omega) n x2 x3 x4 (w32 (x5 + 1)) σ H F (by omega) (by omega)
        ·
          try dsimp +instances only
          unfold g_ta_word_L85
          try dsimp +instances only
          refine zO.bindp (g_ta_isSame_sp (by omega) H (by omega)) (fun r_92 p_92 => ?_)
          try dsimp +instances only
          refine zO.ite (fun c_14 => ?_) (fun c_14 => ?_)
          ·
            try dsimp +instances only
            try have ew_15 := w32_id (x := x5 + 1) (by omega) (by omega)
            try have ew_16 := w32_id (x := x3 + 1) (by omega) (by omega)
            unfold g_ta_word_L109
            try dsimp +instances only
            exact g_ta_word_L56_sp (by omega) n x2 (w32 (x3 + 1)) (w32 (x5 + 1)) (w32 (x5 + 1)) σ H F (by omega) (by omega)
          ·
            try dsimp +instances only
            exact zO.ret ⟨H, F, trivial⟩
set_option maxHeartbeats 4000000 in
theorem g_ta_word_L7_sp {a1 : Nat} (ha1 : a1 = 1 ∨ a1 = 2 ∨ a1 = 3 ∨ a1 = 4 ∨ a1 = 5) {σ0 : zS} : ∀ (n : Nat) (x2 : Int) (x3 : Int) (σ : zS), CI σ → fr (fw_ta_word a1) σ0 σ → (0 ≤ x2 ∧ x2 ≤ 160 ∧ 0 ≤ x3 ∧ x3 ≤ 160) → (160 - x3) < (n : Int) → zO (g_ta_word_L7 a1 n x2 x3 σ) (fun v s => CI s ∧ fr (fw_ta_word a1) σ0 s ∧ (True))
  | 0, _, _, σ, _, _, hi, hm => by exfalso; omega
  | n + 1, x2, x3, σ, H, F, hi, hm => by
    have ri_120_1 := CI.ct H
    have hzs := zLI_str (a := a1) (by omega) (by omega)
    unfold g_ta_word_L7
    try dsimp +instances only
    refine zO.ite (fun c_17 => ?_) (fun c_17 => ?_)
    ·
      try dsimp +instances only
      unfold g_ta_word_L48
      try dsimp +instances only
      exact g_ta_word_L56_sp (by omega) zK x2 0 0 0 σ H F (by omega) (by show _ < (1000000 : Int); omega)
    ·
      try dsimp +instances only
      refine zO.bindp (g_ta_here_sp H) (fun r_15 p_15 => ?_)
      try dsimp +instances only
      refine zO.ite (fun c_19 => ?_) (fun c_19 => ?_)
      ·
        try dsimp +instances only
        unfold g_ta_word_L48
        try dsimp +instances only
        exact g_ta_word_L56_sp (by omega) zK x2 0 0 0 σ H F (by omega) (by show _ < (1000000 : Int); omega)
      ·
        try dsimp +instances only
        refine zO.bindp (g_ta_here_sp H) (fun r_24 p_24 => ?_)
        try dsimp +instances only
        refine zO.ite (fun c_21 => ?_) (fun c_21 => ?_)
        ·
          try dsimp +instances only
          unfold g_ta_word_L48
          try dsimp +instances only
          exact g_ta_word_L56_sp (by omega) zK x2 0 0 0 σ H F (by omega) (by show _ < (1000000 : Int); omega)
        ·
          try dsimp +instances only
          generalize hv_v_34 : σ 120 2 = v_34
          have rv_v_34 := CI.ca H
          rw [hv_v_34] at rv_v_34
          try have ew_22 := w32_id (x := v_34 + 1) (by omega) (by omega)
          generalize hs_s_39 : zu σ 120 2 (w32 (v_34 + 1)) = s_39
          have H_39 : CI s_39 := by rw [← hs_s_39]; exact CI_zuy H (by omega) (by omega) (lo := 0) (hi := 160) rfl (by omega) (by omega)
          have F_39 : fr (fw_ta_word a1) σ0 s_39 := by rw [← hs_s_39]; exact fr.zu F (by omega) (br (bl (zbb _ _)))
          have e_s_39_120_1 : s_39 120 1 = σ 120 1 := by rw [← hs_s_39]; exact zu_c (by omega)
          try have ew_23 := w32_id (x := x3 + 1) (by omega) (by omega)
          exact g_ta_word_L7_sp (by omega) n x2 (w32 (x3 + 1)) s_39 H_39 F_39 (by omega) (by omega)
theorem g_ta_word_sp {a1 : Nat} (ha1 : a1 = 1 ∨ a1 = 2 ∨ a1 = 3 ∨ a1 = 4 ∨ a1 = 5) {σ : zS} (H : CI σ) : zO (g_ta_word a1 σ) (fun v s => CI s ∧ fr (fw_ta_word a1) σ s ∧ (True)) := by
  have F : fr (fw_ta_word a1) σ σ := fr.refl σ
  have ri_120_1 := CI.ct H
  have hzs := zLI_str (a := a1) (by omega) (by omega)
  unfold g_ta_word
  try dsimp +instances only
  generalize hv_v_1 : σ 120 2 = v_1
  have rv_v_1 := CI.ca H
  rw [hv_v_1] at rv_v_1
  exact g_ta_word_L7_sp (by omega) zK v_1 0 σ H F (by omega) (by show _ < (1000000 : Int); omega)
def fw_ta_another (a : Nat) (j : Int) : Bool := (fw_ta_blame a j) || ((fw_ta_takes a j) || false)
theorem g_ta_another_sp {x1 : Int} {σ : zS} (H : CI σ) : zO (g_ta_another x1 σ) (fun v s => CI s ∧ fr (fw_ta_another) σ s ∧ (True)) := by
  have F : fr (fw_ta_another) σ σ := fr.refl σ
  unfold g_ta_another
  try dsimp +instances only
  refine zO.ite (fun c_1 => ?_) (fun c_1 => ?_)
  ·
    try dsimp +instances only
    unfold g_ta_another_L15
    try dsimp +instances only
    refine zO.bindp (g_ta_here_sp H) (fun r_16 p_16 => ?_)
    try dsimp +instances only
    refine zO.ite (fun c_3 => ?_) (fun c_3 => ?_)
    ·
      try dsimp +instances only
      exact zO.ret ⟨H, F, trivial⟩
    ·
      try dsimp +instances only
      generalize hv_v_24 : σ 120 2 = v_24
      have rv_v_24 := CI.ca H
      rw [hv_v_24] at rv_v_24
      refine zO.bind (g_ta_blame_sp H) (fun r_27 t_27 p_27 => ?_)
      obtain ⟨H_27, G_27, q_27⟩ := p_27
      try dsimp +instances only
      have F_27 := F.trans (fr.mono G_27 (fun a j h => ffl h))
      exact zO.ret ⟨H_27, F_27, trivial⟩
  ·
    try dsimp +instances only
    refine zO.bind (g_ta_takes_sp H (by omega)) (fun r_7 t_7 p_7 => ?_)
    obtain ⟨H_7, G_7, q_7⟩ := p_7
    try dsimp +instances only
    have F_7 := F.trans (fr.mono G_7 (fun a j h => ffl (ffr h)))
    refine zO.ite (fun c_6 => ?_) (fun c_6 => ?_)
    ·
      try dsimp +instances only
      unfold g_ta_another_L15
      try dsimp +instances only
      refine zO.bindp (g_ta_here_sp H_7) (fun r_16 p_16 => ?_)
      try dsimp +instances only
      refine zO.ite (fun c_8 => ?_) (fun c_8 => ?_)
      ·
        try dsimp +instances only
        exact zO.ret ⟨H_7, F_7, trivial⟩
      ·
        try dsimp +instances only
        generalize hv_v_24 : t_7 120 2 = v_24
        have rv_v_24 := CI.ca H_7
        rw [hv_v_24] at rv_v_24
        refine zO.bind (g_ta_blame_sp H_7) (fun r_27 t_27 p_27 => ?_)
        obtain ⟨H_27, G_27, q_27⟩ := p_27
        try dsimp +instances only
        have F_27 := F_7.trans (fr.mono G_27 (fun a j h => ffl h))
        exact zO.ret ⟨H_27, F_27, trivial⟩
    ·
      try dsimp +instances only
      exact zO.ret ⟨H_7, F_7, trivial⟩
def fw_ta_range (a : Nat) (j : Int) : Bool := (fw_ta_takes a j) || ((fw_ta_number a j) || false)
theorem g_ta_range_sp {σ : zS} (H : CI σ) : zO (g_ta_range σ) (fun v s => CI s ∧ fr (fw_ta_range) σ s ∧ (True)) := by
  have F : fr (fw_ta_range) σ σ := fr.refl σ
  unfold g_ta_range
  try dsimp +instances only
  refine zO.bind (g_ta_takes_sp H (by omega)) (fun r_3 t_3 p_3 => ?_)
  obtain ⟨H_3, G_3, q_3⟩ := p_3
  try dsimp +instances only
  have F_3 := F.trans (fr.mono G_3 (fun a j h => ffl h))
  refine zO.ite (fun c_2 => ?_) (fun c_2 => ?_)
  ·
    try dsimp +instances only
    refine zO.bind (g_ta_number_sp H_3 (by omega)) (fun r_17 t_17 p_17 => ?_)
    obtain ⟨H_17, G_17, q_17⟩ := p_17
    try dsimp +instances only
    have F_17 := F_3.trans (fr.mono G_17 (fun a j h => ffl (ffr h)))
    refine zO.bind (g_ta_takes_sp H_17 (by omega)) (fun r_28 t_28 p_28 => ?_)
    obtain ⟨H_28, G_28, q_28⟩ := p_28
    try dsimp +instances only
    have F_28 := F_17.trans (fr.mono G_28 (fun a j h => ffl h))
    refine zO.ite (fun c_5 => ?_) (fun c_5 => ?_)
    ·
      try dsimp +instances only
      try have ew_6 := w32_id (x := r_17 * 32) (by omega) (by omega)
      try have ew_7 := w32_id (x := (w32 (r_17 * 32)) + r_17) (by omega) (by omega)
      exact zO.ret ⟨H_28, F_28, trivial⟩
    ·
      try dsimp +instances only
      refine zO.bind (g_ta_number_sp H_28 (by omega)) (fun r_39 t_39 p_39 => ?_)
      obtain ⟨H_39, G_39, q_39⟩ := p_39
      try dsimp +instances only
      have F_39 := F_28.trans (fr.mono G_39 (fun a j h => ffl (ffr h)))
      try have ew_9 := w32_id (x := r_17 * 32) (by omega) (by omega)
      try have ew_10 := w32_id (x := (w32 (r_17 * 32)) + r_39) (by omega) (by omega)
      exact zO.ret ⟨H_39, F_39, trivial⟩
  ·
    try dsimp +instances only
    exact zO.ret ⟨H_3, F_3, trivial⟩
def fw_ta_ranges (a : Nat) (j : Int) : Bool := (fw_ta_range a j) || ((fw_ta_wants a j) || false)
theorem g_ta_ranges_sp {σ : zS} (H : CI σ) : zO (g_ta_ranges σ) (fun v s => CI s ∧ fr (fw_ta_ranges) σ s ∧ (True)) := by
  have F : fr (fw_ta_ranges) σ σ := fr.refl σ
  unfold g_ta_ranges
  try dsimp +instances only
  refine zO.bind (g_ta_range_sp H) (fun r_1 t_1 p_1 => ?_)
  obtain ⟨H_1, G_1, q_1⟩ := p_1
  try dsimp +instances only
  have F_1 := F.trans (fr.mono G_1 (fun a j h => ffl h))
  refine zO.bind (g_ta_wants_sp H_1 (by omega)) (fun r_8 t_8 p_8 => ?_)
  obtain ⟨H_8, G_8, q_8⟩ := p_8
  try dsimp +instances only
  have F_8 := F_1.trans (fr.mono G_8 (fun a j h => ffl (ffr h)))
  refine zO.bind (g_ta_range_sp H_8) (fun r_12 t_12 p_12 => ?_)
  obtain ⟨H_12, G_12, q_12⟩ := p_12
  try dsimp +instances only
  have F_12 := F_8.trans (fr.mono G_12 (fun a j h => ffl h))
  refine zO.bindp (g_ta_isSound_sp) (fun r_17 p_17 => ?_)
  try dsimp +instances only
  refine zO.ite (fun c_5 => ?_) (fun c_5 => ?_)
  ·
    try dsimp +instances only
    exact zO.ret ⟨H_12, F_12, trivial⟩
  ·
    try dsimp +instances only
    try have ew_6 := w32_id (x := Int.tdiv r_1 32) (by omega) (by omega)
    try have ew_7 := w32_id (x := Int.tdiv r_12 32) (by omega) (by omega)
    refine zO.bindp (g_b_of_sp) (fun r_39 p_39 => ?_)
    try dsimp +instances only
    exact zO.ret ⟨H_12, F_12, trivial⟩
def fw_ta_begin (a : Nat) (j : Int) : Bool := ((a == 120 && j == 2)) || (((a == 120 && j == 3)) || false)
theorem g_ta_begin_sp {σ : zS} (H : CI σ) : zO (g_ta_begin σ) (fun v s => CI s ∧ fr (fw_ta_begin) σ s ∧ (True)) := by
  have F : fr (fw_ta_begin) σ σ := fr.refl σ
  unfold g_ta_begin
  try dsimp +instances only
  generalize hs_s_2 : zu σ 120 2 0 = s_2
  have H_2 : CI s_2 := by rw [← hs_s_2]; exact CI_zuy H (by omega) (by omega) (lo := 0) (hi := 160) rfl (by omega) (by omega)
  have F_2 : fr (fw_ta_begin) σ s_2 := by rw [← hs_s_2]; exact fr.zu F (by omega) (bl (zbb _ _))
  generalize hs_s_7 : zu s_2 120 3 (-1) = s_7
  have H_7 : CI s_7 := by rw [← hs_s_7]; exact CI_zun H_2 (by omega) (by omega) rfl
  have F_7 : fr (fw_ta_begin) σ s_7 := by rw [← hs_s_7]; exact fr.zu F_2 (by omega) (br (bl (zbb _ _)))
  exact zO.ret ⟨H_7, F_7, trivial⟩
def fw_ta_end (a : Nat) (j : Int) : Bool := ((a == 120 && j == 1)) || false
theorem g_ta_end_sp {x1 : Int} {σ : zS} (H : CI σ) : zO (g_ta_end x1 σ) (fun v s => CI s ∧ fr (fw_ta_end) σ s ∧ (s 120 1 = 0)) := by
  have F : fr (fw_ta_end) σ σ := fr.refl σ
  have ri_120_1 := CI.ct H
  unfold g_ta_end
  try dsimp +instances only
  generalize hs_s_2 : zu σ 120 1 0 = s_2
  have H_2 : CI s_2 := by rw [← hs_s_2]; exact CI_zuy H (by omega) (by omega) (lo := 0) (hi := 160) rfl (by omega) (by omega)
  have F_2 : fr (fw_ta_end) σ s_2 := by rw [← hs_s_2]; exact fr.zu F (by omega) (bl (zbb _ _))
  have e_s_2_120_1 : s_2 120 1 = 0 := by rw [← hs_s_2]; exact zu_e rfl
  refine zO.bindp (g_ta_isSound_sp) (fun r_6 p_6 => ?_)
  try dsimp +instances only
  refine zO.ite (fun c_2 => ?_) (fun c_2 => ?_)
  ·
    try dsimp +instances only
    generalize hv_v_19 : s_2 120 3 = v_19
    try have ew_3 := w32_id (x := (-100) - v_19) (by omega) (by omega)
    exact zO.ret ⟨H_2, F_2, (by omega)⟩
  ·
    try dsimp +instances only
    exact zO.ret ⟨H_2, F_2, (by omega)⟩
def fw_ta_append (a : Nat) (j : Int) : Bool := (a == 121) || (((a == 120 && j == 1)) || false)
theorem g_ta_append_sp {x1 : Int} {σ : zS} (H : CI σ) : zO (g_ta_append x1 σ) (fun v s => CI s ∧ fr (fw_ta_append) σ s ∧ ((v = 0 → σ 120 1 = 160 ∧ s 120 1 = σ 120 1) ∧ (v ≠ 0 → s 120 1 = σ 120 1 + 1 ∧ σ 120 1 < 160))) := by
  have F : fr (fw_ta_append) σ σ := fr.refl σ
  have ri_120_1 := CI.ct H
  unfold g_ta_append
  try dsimp +instances only
  generalize hv_v_1 : σ 120 1 = v_1
  have rv_v_1 := CI.ct H
  rw [hv_v_1] at rv_v_1
  refine zO.ite (fun c_1 => ?_) (fun c_1 => ?_)
  ·
    try dsimp +instances only
    refine zO.gd (by omega) ?_
    try dsimp +instances only
    generalize hs_s_22 : zu σ 121 v_1 (w8 (w8 x1)) = s_22
    have H_22 : CI s_22 := by rw [← hs_s_22]; exact CI_zun H (by omega) (by omega) rfl
    have F_22 : fr (fw_ta_append) σ s_22 := by rw [← hs_s_22]; exact fr.zu F (by omega) (bl (beq_self_eq_true _))
    have e_s_22_120_1 : s_22 120 1 = σ 120 1 := by rw [← hs_s_22]; exact zu_c (by omega)
    generalize hv_v_25 : s_22 120 1 = v_25
    have rv_v_25 := CI.ct H_22
    rw [hv_v_25] at rv_v_25
    try have ew_2 := w32_id (x := v_25 + 1) (by omega) (by omega)
    generalize hs_s_30 : zu s_22 120 1 (w32 (v_25 + 1)) = s_30
    have H_30 : CI s_30 := by rw [← hs_s_30]; exact CI_zuy H_22 (by omega) (by omega) (lo := 0) (hi := 160) rfl (by omega) (by omega)
    have F_30 : fr (fw_ta_append) σ s_30 := by rw [← hs_s_30]; exact fr.zu F_22 (by omega) (br (bl (zbb _ _)))
    have e_s_30_120_1 : s_30 120 1 = (w32 (v_25 + 1)) := by rw [← hs_s_30]; exact zu_e rfl
    exact zO.ret ⟨H_30, F_30, (by omega)⟩
  ·
    try dsimp +instances only
    exact zO.ret ⟨H, F, (by omega)⟩
def fw_ta_plainBox (a : Nat) (j : Int) : Bool := (fw_ta_number a j) || ((fw_ta_wants a j) || false)
theorem g_ta_plainBox_sp {σ : zS} (H : CI σ) : zO (g_ta_plainBox σ) (fun v s => CI s ∧ fr (fw_ta_plainBox) σ s ∧ (True)) := by
  have F : fr (fw_ta_plainBox) σ σ := fr.refl σ
  unfold g_ta_plainBox
  try dsimp +instances only
  refine zO.bind (g_ta_number_sp H (by omega)) (fun r_5 t_5 p_5 => ?_)
  obtain ⟨H_5, G_5, q_5⟩ := p_5
  try dsimp +instances only
  have F_5 := F.trans (fr.mono G_5 (fun a j h => ffl h))
  refine zO.bind (g_ta_wants_sp H_5 (by omega)) (fun r_12 t_12 p_12 => ?_)
  obtain ⟨H_12, G_12, q_12⟩ := p_12
  try dsimp +instances only
  have F_12 := F_5.trans (fr.mono G_12 (fun a j h => ffl (ffr h)))
  refine zO.bind (g_ta_number_sp H_12 (by omega)) (fun r_20 t_20 p_20 => ?_)
  obtain ⟨H_20, G_20, q_20⟩ := p_20
  try dsimp +instances only
  have F_20 := F_12.trans (fr.mono G_20 (fun a j h => ffl h))
  refine zO.bind (g_ta_wants_sp H_20 (by omega)) (fun r_27 t_27 p_27 => ?_)
  obtain ⟨H_27, G_27, q_27⟩ := p_27
  try dsimp +instances only
  have F_27 := F_20.trans (fr.mono G_27 (fun a j h => ffl (ffr h)))
  refine zO.bind (g_ta_number_sp H_27 (by omega)) (fun r_35 t_35 p_35 => ?_)
  obtain ⟨H_35, G_35, q_35⟩ := p_35
  try dsimp +instances only
  have F_35 := F_27.trans (fr.mono G_35 (fun a j h => ffl h))
  refine zO.bind (g_ta_wants_sp H_35 (by omega)) (fun r_42 t_42 p_42 => ?_)
  obtain ⟨H_42, G_42, q_42⟩ := p_42
  try dsimp +instances only
  have F_42 := F_35.trans (fr.mono G_42 (fun a j h => ffl (ffr h)))
  refine zO.bind (g_ta_number_sp H_42 (by omega)) (fun r_50 t_50 p_50 => ?_)
  obtain ⟨H_50, G_50, q_50⟩ := p_50
  try dsimp +instances only
  have F_50 := F_42.trans (fr.mono G_50 (fun a j h => ffl h))
  refine zO.bindp (g_ta_isSound_sp) (fun r_56 p_56 => ?_)
  try dsimp +instances only
  refine zO.ite (fun c_9 => ?_) (fun c_9 => ?_)
  ·
    try dsimp +instances only
    exact zO.ret ⟨H_50, F_50, trivial⟩
  ·
    try dsimp +instances only
    refine zO.bindp (g_b_of_sp) (fun r_67 p_67 => ?_)
    try dsimp +instances only
    exact zO.ret ⟨H_50, F_50, trivial⟩
def fw_se_become (a0 : Nat) (a : Nat) (j : Int) : Bool := (a == (a0 + 1)) || false
theorem g_se_become_sp {a0 : Nat} (ha0 : a0 = 49 ∨ a0 = 82 ∨ a0 = 107 ∨ a0 = 118) {x1 : Int} {x2 : Int} {σ : zS} (H : CI σ) : zO (g_se_become a0 x1 x2 σ) (fun v s => CI s ∧ fr (fw_se_become a0) σ s ∧ (True)) := by
  have F : fr (fw_se_become a0) σ σ := fr.refl σ
  unfold g_se_become
  try dsimp +instances only
  refine zO.ite (fun c_1 => ?_) (fun c_1 => ?_)
  ·
    try dsimp +instances only
    exact zO.ret ⟨H, F, trivial⟩
  ·
    try dsimp +instances only
    refine zO.ite (fun c_2 => ?_) (fun c_2 => ?_)
    ·
      try dsimp +instances only
      exact zO.ret ⟨H, F, trivial⟩
    ·
      try dsimp +instances only
      refine zO.gd (by omega) ?_
      try dsimp +instances only
      generalize hs_s_16 : zu σ (a0 + 1) x1 x2 = s_16
      have H_16 : CI s_16 := by rw [← hs_s_16]; exact CI_zun H (by omega) (by omega) (by rcases ha0 with rfl | rfl | rfl | rfl <;> rfl)
      have F_16 : fr (fw_se_become a0) σ s_16 := by rw [← hs_s_16]; exact fr.zu F (by omega) (bl (beq_self_eq_true _))
      exact zO.ret ⟨H_16, F_16, trivial⟩
def fw_se_readValue (a : Nat) (j : Int) : Bool := (fw_ta_number a j) || ((fw_ta_word 2 a j) || ((fw_ta_word 3 a j) || false))
theorem g_se_readValue_sp {x2 : Int} {σ : zS} (H : CI σ) : zO (g_se_readValue x2 σ) (fun v s => CI s ∧ fr (fw_se_readValue) σ s ∧ (True)) := by
  have F : fr (fw_se_readValue) σ σ := fr.refl σ
  unfold g_se_readValue
  try dsimp +instances only
  refine zO.ite (fun c_1 => ?_) (fun c_1 => ?_)
  ·
    try dsimp +instances only
    refine zO.bind (g_ta_number_sp H (by omega)) (fun r_49 t_49 p_49 => ?_)
    obtain ⟨H_49, G_49, q_49⟩ := p_49
    try dsimp +instances only
    have F_49 := F.trans (fr.mono G_49 (fun a j h => ffl h))
    exact zO.ret ⟨H_49, F_49, trivial⟩
  ·
    try dsimp +instances only
    refine zO.ite (fun c_3 => ?_) (fun c_3 => ?_)
    ·
      try dsimp +instances only
      refine zO.bind (g_ta_number_sp H (by omega)) (fun r_58 t_58 p_58 => ?_)
      obtain ⟨H_58, G_58, q_58⟩ := p_58
      try dsimp +instances only
      have F_58 := F.trans (fr.mono G_58 (fun a j h => ffl h))
      exact zO.ret ⟨H_58, F_58, trivial⟩
    ·
      try dsimp +instances only
      refine zO.ite (fun c_5 => ?_) (fun c_5 => ?_)
      ·
        try dsimp +instances only
        refine zO.bind (g_ta_number_sp H (by omega)) (fun r_67 t_67 p_67 => ?_)
        obtain ⟨H_67, G_67, q_67⟩ := p_67
        try dsimp +instances only
        have F_67 := F.trans (fr.mono G_67 (fun a j h => ffl h))
        exact zO.ret ⟨H_67, F_67, trivial⟩
      ·
        try dsimp +instances only
        refine zO.ite (fun c_7 => ?_) (fun c_7 => ?_)
        ·
          try dsimp +instances only
          refine zO.bind (g_ta_word_sp (by omega) H) (fun r_74 t_74 p_74 => ?_)
          obtain ⟨H_74, G_74, q_74⟩ := p_74
          try dsimp +instances only
          have F_74 := F.trans (fr.mono G_74 (fun a j h => ffl (ffr h)))
          exact zO.ret ⟨H_74, F_74, trivial⟩
        ·
          try dsimp +instances only
          refine zO.ite (fun c_9 => ?_) (fun c_9 => ?_)
          ·
            try dsimp +instances only
            refine zO.bind (g_ta_number_sp H (by omega)) (fun r_84 t_84 p_84 => ?_)
            obtain ⟨H_84, G_84, q_84⟩ := p_84
            try dsimp +instances only
            have F_84 := F.trans (fr.mono G_84 (fun a j h => ffl h))
            exact zO.ret ⟨H_84, F_84, trivial⟩
          ·
            try dsimp +instances only
            refine zO.bind (g_ta_word_sp (by omega) H) (fun r_91 t_91 p_91 => ?_)
            obtain ⟨H_91, G_91, q_91⟩ := p_91
            try dsimp +instances only
            have F_91 := F.trans (fr.mono G_91 (fun a j h => ffl (ffr (ffr h))))
            exact zO.ret ⟨H_91, F_91, trivial⟩
def fw_se_readParts (a : Nat) (j : Int) : Bool := (fw_ta_word 1 a j) || ((fw_ta_wants a j) || ((fw_se_readValue a j) || ((fw_se_become 118 a j) || ((fw_ta_another a j) || false))))
set_option maxHeartbeats 4000000 in
theorem g_se_readParts_L4_sp {σ0 : zS} : ∀ (n : Nat) (x2 : Int) (x3 : Int) (σ : zS), CI σ → fr (fw_se_readParts) σ0 σ → (0 ≤ x2 ∧ x2 ≤ 160) → (160 - x2) < (n : Int) → zO (g_se_readParts_L4 n x2 x3 σ) (fun v s => CI s ∧ fr (fw_se_readParts) σ0 s ∧ (True))
  | 0, _, _, σ, _, _, hi, hm => by exfalso; omega
  | n + 1, x2, x3, σ, H, F, hi, hm => by
    unfold g_se_readParts_L4
    try dsimp +instances only
    refine zO.ite (fun c_1 => ?_) (fun c_1 => ?_)
    ·
      try dsimp +instances only
      exact zO.ret ⟨H, F, trivial⟩
    ·
      try dsimp +instances only
      refine zO.ite (fun c_2 => ?_) (fun c_2 => ?_)
      ·
        try dsimp +instances only
        exact zO.ret ⟨H, F, trivial⟩
      ·
        try dsimp +instances only
        refine zO.bind (g_ta_word_sp (by omega) H) (fun r_18 t_18 p_18 => ?_)
        obtain ⟨H_18, G_18, q_18⟩ := p_18
        try dsimp +instances only
        have F_18 := F.trans (fr.mono G_18 (fun a j h => ffl h))
        refine zO.bind (g_ta_wants_sp H_18 (by omega)) (fun r_26 t_26 p_26 => ?_)
        obtain ⟨H_26, G_26, q_26⟩ := p_26
        try dsimp +instances only
        have F_26 := F_18.trans (fr.mono G_26 (fun a j h => ffl (ffr h)))
        refine zO.bind (g_se_readValue_sp H_26) (fun r_36 t_36 p_36 => ?_)
        obtain ⟨H_36, G_36, q_36⟩ := p_36
        try dsimp +instances only
        have F_36 := F_26.trans (fr.mono G_36 (fun a j h => ffl (ffr (ffr h))))
        refine zO.bind (g_se_become_sp (by omega) H_36) (fun r_39 t_39 p_39 => ?_)
        obtain ⟨H_39, G_39, q_39⟩ := p_39
        try dsimp +instances only
        have F_39 := F_36.trans (fr.mono G_39 (fun a j h => ffl (ffr (ffr (ffr h)))))
        refine zO.bind (g_ta_another_sp H_39) (fun r_44 t_44 p_44 => ?_)
        obtain ⟨H_44, G_44, q_44⟩ := p_44
        try dsimp +instances only
        have F_44 := F_39.trans (fr.mono G_44 (fun a j h => ffl (ffr (ffr (ffr (ffr h))))))
        try have ew_8 := w32_id (x := x2 + 1) (by omega) (by omega)
        exact g_se_readParts_L4_sp n (w32 (x2 + 1)) r_44 t_44 H_44 F_44 (by omega) (by omega)
theorem g_se_readParts_sp {σ : zS} (H : CI σ) : zO (g_se_readParts σ) (fun v s => CI s ∧ fr (fw_se_readParts) σ s ∧ (True)) := by
  have F : fr (fw_se_readParts) σ σ := fr.refl σ
  unfold g_se_readParts
  try dsimp +instances only
  exact g_se_readParts_L4_sp zK 0 1 σ H F (by omega) (by show _ < (1000000 : Int); omega)
end
section
/-! 56.cls6 -/
/-! THE CLASS over the typed memory: the tests of a query; the paper grows -/
def fw_qu_top (a : Nat) (j : Int) : Bool := ((a == 120 && j == 2)) || (((a == 120 && j == 3)) || false)
def okC (g : Int → zS → Option (Int × zS)) (e : Int) : Prop := ∀ σ : zS, CI σ → zO (g e σ) (fun _ s => CI s ∧ fr fw_qu_top σ s)
theorem okC.ap {g : Int → zS → Option (Int × zS)} {e : Int} {σ0 σ : zS} (h : okC g e) (H : CI σ) (F : fr fw_qu_top σ0 σ) : zO (g e σ) (fun _ s => CI s ∧ fr fw_qu_top σ0 s) := (h σ H).imp (fun _ _ p => ⟨p.1, F.trans p.2⟩)
theorem q_takes {x1 : Int} {σ0 σ : zS} (H : CI σ) (F : fr fw_qu_top σ0 σ) (hp : x1 ≠ 0) : zO (g_ta_takes x1 σ) (fun _ s => CI s ∧ fr fw_qu_top σ0 s) := (g_ta_takes_sp H hp).imp (fun _ _ p => ⟨p.1, F.trans (p.2.1.mono (fun _ _ h => orf (ffl h) rfl))⟩)
theorem q_wants {x1 : Int} {σ0 σ : zS} (H : CI σ) (F : fr fw_qu_top σ0 σ) (hp : x1 ≠ 0) : zO (g_ta_wants x1 σ) (fun _ s => CI s ∧ fr fw_qu_top σ0 s) := (g_ta_wants_sp H hp).imp (fun _ _ p => ⟨p.1, F.trans (p.2.1.mono (fun _ _ h => orf (orf (ffl (ffr h)) rfl) (orf (ffl h) rfl)))⟩)
theorem q_oneOf {a1 : Nat} (ha1 : a1 = 6 ∨ a1 = 7) {σ0 σ : zS} (H : CI σ) (F : fr fw_qu_top σ0 σ) : zO (g_ta_oneOf a1 σ) (fun _ s => CI s ∧ fr fw_qu_top σ0 s) := (g_ta_oneOf_sp ha1 H).imp (fun _ _ p => ⟨p.1, F.trans (p.2.1.mono (fun _ _ h => orf (ffl h) (orf (orf (ffl (ffr h)) rfl) rfl)))⟩)
theorem q_number {x1 x2 x3 : Int} {σ0 σ : zS} (H : CI σ) (F : fr fw_qu_top σ0 σ) (hp : x1 ≤ 10) : zO (g_ta_number x1 x2 x3 σ) (fun _ s => CI s ∧ fr fw_qu_top σ0 s) := (g_ta_number_sp H hp).imp (fun _ _ p => ⟨p.1, F.trans (p.2.1.mono (fun _ _ h => orf (orf (ffl (ffr h)) rfl) (orf (ffl h) rfl)))⟩)
theorem q_129 {rec : Nat → Int → zS → Option (Int × zS)} {x y z : Int} {σ0 σ : zS} (H : CI σ) (F : fr fw_qu_top σ0 σ) : zO (g_qu_single_L129 rec x y z σ) (fun _ s => CI s ∧ fr fw_qu_top σ0 s) := by
  unfold g_qu_single_L129
  refine zO.bindp (g_so_rowsWith_sp H) (fun v _ => ?_)
  exact zO.ret ⟨H, F⟩
theorem q_65 {rec : Nat → Int → zS → Option (Int × zS)} {σ0 σ : zS} (H : CI σ) (F : fr fw_qu_top σ0 σ) : zO (g_qu_single_L65 rec σ) (fun _ s => CI s ∧ fr fw_qu_top σ0 s) := by
  unfold g_qu_single_L65
  refine zO.bind (q_oneOf (Or.inl rfl) H F) (fun v1 s1 p1 => ?_)
  refine zO.bind (q_oneOf (Or.inr rfl) p1.1 p1.2) (fun v2 s2 p2 => ?_)
  refine zO.bind (q_takes p2.1 p2.2 (by decide)) (fun v3 s3 p3 => ?_)
  refine zO.bind (q_number p3.1 p3.2 (by decide)) (fun v4 s4 p4 => ?_)
  refine zO.ite (fun _ => ?_) (fun _ => ?_)
  · exact q_129 p4.1 p4.2
  · exact q_129 p4.1 p4.2
theorem q_29 {rec : Nat → Int → zS → Option (Int × zS)} {e : Int} {σ0 σ : zS} (h68 : e < 4 → okC (rec 68) (w32 (e + 1))) (H : CI σ) (F : fr fw_qu_top σ0 σ) : zO (g_qu_single_L29 rec e σ) (fun _ s => CI s ∧ fr fw_qu_top σ0 s) := by
  unfold g_qu_single_L29
  refine zO.ite (fun _ => ?_) (fun c => ?_)
  · exact q_65 H F
  · refine zO.bind (q_takes H F (by decide)) (fun v1 s1 p1 => ?_)
    refine zO.ite (fun _ => ?_) (fun _ => ?_)
    · exact q_65 p1.1 p1.2
    · refine zO.bind ((h68 (by omega)).ap p1.1 p1.2) (fun v2 s2 p2 => ?_)
      refine zO.bind (q_wants p2.1 p2.2 (by decide)) (fun v3 s3 p3 => ?_)
      exact zO.ret p3
theorem q_single {rec : Nat → Int → zS → Option (Int × zS)} {e : Int} (h68 : e < 4 → okC (rec 68) (w32 (e + 1))) (h70 : e < 4 → okC (rec 70) (w32 (e + 1))) : okC (g_qu_single rec) e := by
  intro σ H
  unfold g_qu_single
  refine zO.ite (fun _ => ?_) (fun c => ?_)
  · exact q_29 h68 H (fr.refl σ)
  · refine zO.bind (q_takes H (fr.refl σ) (by decide)) (fun v1 s1 p1 => ?_)
    refine zO.ite (fun _ => ?_) (fun _ => ?_)
    · exact q_29 h68 p1.1 p1.2
    · refine zO.bind ((h70 (by omega)).ap p1.1 p1.2) (fun v2 s2 p2 => ?_)
      exact zO.ret p2
theorem q_both9 {rec : Nat → Int → zS → Option (Int × zS)} {e : Int} {σ0 : zS} (h70 : okC (rec 70) e) : ∀ (n : Nat) (y x : Int) (σ : zS), CI σ → fr fw_qu_top σ0 σ → 0 ≤ x → x ≤ 160 → 160 - x < (n : Int) → zO (g_qu_both_L9 rec n e y x σ) (fun _ s => CI s ∧ fr fw_qu_top σ0 s)
  | 0, _, _, _, _, _, _, _, h => by exfalso; omega
  | n + 1, y, x, σ, H, F, h1, h2, h3 => by
    unfold g_qu_both_L9
    refine zO.ite (fun _ => ?_) (fun c => ?_)
    · exact zO.ret ⟨H, F⟩
    · refine zO.bind (q_takes H F (by decide)) (fun v1 s1 p1 => ?_)
      refine zO.ite (fun _ => ?_) (fun _ => ?_)
      · exact zO.ret p1
      · refine zO.bind (h70.ap p1.1 p1.2) (fun v2 s2 p2 => ?_)
        have ew := w32_id (x := x + 1) (by omega) (by omega)
        exact q_both9 h70 n _ _ s2 p2.1 p2.2 (by omega) (by omega) (by omega)
theorem q_both {rec : Nat → Int → zS → Option (Int × zS)} {e : Int} (h70 : okC (rec 70) e) : okC (g_qu_both rec) e := by
  intro σ H
  unfold g_qu_both
  refine zO.bind (h70 σ H) (fun v1 s1 p1 => ?_)
  exact q_both9 h70 zK _ 0 s1 p1.1 p1.2 (by omega) (by omega) (by show _ < (1000000 : Int); omega)
theorem q_either9 {rec : Nat → Int → zS → Option (Int × zS)} {e : Int} {σ0 : zS} (h69 : okC (rec 69) e) : ∀ (n : Nat) (y x : Int) (σ : zS), CI σ → fr fw_qu_top σ0 σ → 0 ≤ x → x ≤ 160 → 160 - x < (n : Int) → zO (g_qu_either_L9 rec n e y x σ) (fun _ s => CI s ∧ fr fw_qu_top σ0 s)
  | 0, _, _, _, _, _, _, _, h => by exfalso; omega
  | n + 1, y, x, σ, H, F, h1, h2, h3 => by
    unfold g_qu_either_L9
    refine zO.ite (fun _ => ?_) (fun c => ?_)
    · exact zO.ret ⟨H, F⟩
    · refine zO.bind (q_takes H F (by decide)) (fun v1 s1 p1 => ?_)
      refine zO.ite (fun _ => ?_) (fun _ => ?_)
      · exact zO.ret p1
      · refine zO.bind (h69.ap p1.1 p1.2) (fun v2 s2 p2 => ?_)
        have ew := w32_id (x := x + 1) (by omega) (by omega)
        exact q_either9 h69 n _ _ s2 p2.1 p2.2 (by omega) (by omega) (by omega)
theorem q_either {rec : Nat → Int → zS → Option (Int × zS)} {e : Int} (h69 : okC (rec 69) e) : okC (g_qu_either rec) e := by
  intro σ H
  unfold g_qu_either
  refine zO.bind (h69 σ H) (fun v1 s1 p1 => ?_)
  exact q_either9 h69 zK _ 0 s1 p1.1 p1.2 (by omega) (by omega) (by show _ < (1000000 : Int); omega)
theorem grp68_68 {n : Nat} : g_grp68 (n + 1) 68 = g_qu_either (g_grp68 n) := by
  funext x σ
  show (if 68 = 68 then g_qu_either (g_grp68 n) x σ else _) = _
  rw [if_pos rfl]
theorem grp68_69 {n : Nat} : g_grp68 (n + 1) 69 = g_qu_both (g_grp68 n) := by
  funext x σ
  show (if 69 = 68 then g_qu_either (g_grp68 n) x σ else if 69 = 69 then g_qu_both (g_grp68 n) x σ else _) = _
  rw [if_neg (by decide), if_pos rfl]
theorem grp68_70 {n : Nat} : g_grp68 (n + 1) 70 = g_qu_single (g_grp68 n) := by
  funext x σ
  show (if 70 = 68 then g_qu_either (g_grp68 n) x σ else if 70 = 69 then g_qu_both (g_grp68 n) x σ else if 70 = 70 then g_qu_single (g_grp68 n) x σ else _) = _
  rw [if_neg (by decide), if_neg (by decide), if_pos rfl]
theorem q_all : ∀ (d n : Nat), d ≤ 4 → 3 * d + 1 ≤ n → okC (g_grp68 n 70) (4 - (d : Int))
  | _, 0, _, h => absurd h (by omega)
  | 0, n + 1, _, _ => by
    rw [grp68_70]
    exact q_single (fun h => absurd h (by omega)) (fun h => absurd h (by omega))
  | d + 1, n + 1, h1, h2 => by
    rw [grp68_70]
    have e1 : w32 (4 - ((d + 1 : Nat) : Int) + 1) = 4 - (d : Int) := by rw [w32_id (by omega) (by omega)]; omega
    obtain ⟨m, rfl⟩ : ∃ m, n = m + 2 := ⟨n - 2, by omega⟩
    refine q_single (fun _ => ?_) (fun _ => ?_)
    · rw [e1, grp68_68]
      refine q_either ?_
      rw [grp68_69]
      exact q_both (q_all d m (by omega) (by omega))
    · rw [e1]
      exact q_all d (m + 2) (by omega) (by omega)
theorem g_qu_top_sp {σ : zS} (H : CI σ) : zO (g_grp68 zR 68 0 σ) (fun _ s => CI s ∧ fr fw_qu_top σ s ∧ (True)) := by
  have h : okC (g_grp68 zR 68) 0 := by
    rw [show zR = 499 + 1 from rfl, grp68_68]
    refine q_either ?_
    rw [show 499 = 498 + 1 from rfl, grp68_69]
    exact q_both (q_all 4 498 (by omega) (by omega))
  exact (h σ H).imp (fun _ _ p => ⟨p.1, p.2, trivial⟩)
/-! THE PAPER -/
def fw_page (a : Nat) (j : Int) : Bool := ((a == 129 && j == 2)) || (((a == 129 && j == 3)) || ((a == 168) || ((a == 169) || false)))
theorem zgw_a {σ : zS} {x i : Int} {a : Nat} (h1 : a ≠ 168) (h2 : a ≠ 169) : zgw σ x a i = σ a i := by
  unfold zgw
  rw [if_neg (fun h => h2 h.1), if_neg (fun h => h1 h.1)]
theorem zgw_c {σ : zS} {x : Int} : zgw σ x 169 0 = if x ≤ 2 * σ 169 0 + 2 then 2 * σ 169 0 + 2 else x := by
  unfold zgw
  rw [if_pos ⟨rfl, rfl⟩]
/-- the invariant where only the paper's cells differ -/
theorem CI_pg {σ s : zS} (H : CI σ) (e : ∀ a j, a ≠ 129 → a ≠ 168 → a ≠ 169 → s a j = σ a j) (hp : PG s) : CI s := by
  refine ⟨fun a j => ?_, hp⟩
  by_cases c : a = 129 ∨ a = 168 ∨ a = 169
  · intro lo hi h
    exfalso
    have hn : rng a j = none := by
      rcases c with rfl | rfl | rfl <;> rfl
    rw [hn] at h
    cases h
  · rw [e a j (by omega) (by omega) (by omega)]
    exact H.1 a j
theorem sb_ens {x : Int} {σ : zS} (H : CI σ) (h1 : 0 ≤ x) (h2 : x ≤ 60000) : ∃ s, g_sb_ensure x σ = some ((), s) ∧ CI s ∧ fr fw_page σ s ∧ s 129 3 = σ 129 3 ∧ s 129 1 = 0 ∧ x ≤ s 169 0 := by
  obtain ⟨p1, p2, p3, p4, p5⟩ := H.2
  unfold g_sb_ensure
  rw [if_pos ⟨h1, h2, p1⟩]
  by_cases c : x ≤ σ 169 0
  · rw [if_pos c]
    exact ⟨σ, rfl, H, fr.refl σ, rfl, p1, c⟩
  · rw [if_neg c]
    have e1 : zgw σ x 129 1 = σ 129 1 := zgw_a (by decide) (by decide)
    have e3 : zgw σ x 129 3 = σ 129 3 := zgw_a (by decide) (by decide)
    have ec : x ≤ zgw σ x 169 0 ∧ σ 169 0 ≤ zgw σ x 169 0 ∧ zgw σ x 169 0 ≤ 200000 := by
      rw [zgw_c]
      split <;> omega
    refine ⟨_, rfl, CI_pg H (fun a j _ k2 k3 => zgw_a k2 k3) ⟨by omega, by omega, by omega, by omega, by omega⟩, fun a j k => ?_, e3, by omega, ec.1⟩
    rcases k with k | k
    · exact zgw_a (by omega) (by omega)
    · have k3 := ffl (ffr (ffr k))
      have k4 := ffl (ffr (ffr (ffr k)))
      exact zgw_a (fun h => by rw [h] at k3; cases k3) (fun h => by rw [h] at k4; cases k4)
theorem pg_zu {σ0 σ : zS} {a : Nat} {i v : Int} (F : fr fw_page σ0 σ) (h : (a = 129 ∧ (i = 2 ∨ i = 3)) ∨ a = 168 ∨ a = 169) : fr fw_page σ0 (zu σ a i v) := by
  refine fr.zu F (by omega) ?_
  rcases h with ⟨rfl, rfl | rfl⟩ | rfl | rfl
  · exact bl rfl
  · exact br (bl rfl)
  · exact br (br (bl rfl))
  · exact br (br (br (bl rfl)))
/-- a byte more in the paper's room -/
theorem CI_168 {σ : zS} {i v : Int} (H : CI σ) : CI (zu σ 168 i v) := CI_pg H (fun a j _ k _ => zu_a k) (by unfold PG; rw [zu_a (by decide), zu_a (by decide), zu_a (by decide)]; exact H.2)
theorem CI_len {σ : zS} {v : Int} (H : CI σ) (h1 : 0 ≤ v) (h2 : v ≤ σ 169 0) (h3 : v ≤ 50000) : CI (zu σ 129 3 v) := CI_pg H (fun a j k _ _ => zu_a k) (by
  unfold PG
  rw [zu_i (by decide), zu_e rfl, zu_a (by decide)]
  exact ⟨H.2.1, h1, h2, h3, H.2.2.2.2.2⟩)
theorem sb_lat {σ : zS} (H : CI σ) : g_jAbstractStringBuilder_isLatin1 σ = some (1, σ) := by
  unfold g_jAbstractStringBuilder_isLatin1
  rw [if_neg (by decide)]
  show (if σ 129 1 ≠ 0 then _ else _) = _
  rw [if_neg (by have := H.2.1; omega)]
theorem g_jStringBuilder_append_303_sp {x1 : Int} {σ : zS} (H : CI σ) (hp : σ 129 3 ≤ 49000 ∧ 0 ≤ x1 ∧ x1 ≤ 127) : zO (g_jStringBuilder_append_303 x1 σ) (fun v s => CI s ∧ fr fw_page σ s ∧ (s 129 3 ≤ σ 129 3 + 1)) := by
  obtain ⟨p1, p2, p3, p4, p5⟩ := H.2
  unfold g_jStringBuilder_append_303 g_jAbstractStringBuilder_append_279
  dsimp only
  have ew := w32_id (x := σ 129 3 + 1) (by omega) (by omega)
  obtain ⟨s1, e1, H1, F1, q1, q2, q3⟩ := sb_ens (x := σ 129 3 + 1) H (by omega) (by omega)
  rw [ew, e1]
  rw [Option.bind_some]
  dsimp only
  rw [sb_lat H1]
  rw [Option.bind_some]
  dsimp +instances only
  rw [if_neg (by decide)]
  unfold g_jStringLatin1_canEncode_309
  rw [if_neg (by omega)]
  rw [Option.bind_some]
  dsimp +instances only
  rw [if_neg (by decide), q1, ew]
  rw [if_pos (by rw [zu_a (by decide)]; omega)]
  rw [Option.bind_some]
  refine zO.ret ⟨CI_168 (CI_len H1 (by omega) (by omega) (by omega)), pg_zu (pg_zu F1 (by omega)) (by omega), ?_⟩
  dsimp only
  rw [zu_a (by decide), zu_e rfl]
  omega
theorem g_jStringBuilder_length_sp {σ : zS} (H : CI σ) : zOp (g_jStringBuilder_length σ) σ (fun v => v = σ 129 3) := ⟨_, rfl, rfl⟩
theorem g_jStringBuilder_setLength_sp {x1 : Int} {σ : zS} (H : CI σ) (hp : x1 = 0) : zO (g_jStringBuilder_setLength x1 σ) (fun v s => CI s ∧ fr fw_page σ s ∧ (s 129 3 = 0)) := by
  subst hp
  obtain ⟨p1, p2, p3, p4, p5⟩ := H.2
  unfold g_jStringBuilder_setLength g_jAbstractStringBuilder_setLength
  rw [if_pos (by decide)]
  obtain ⟨s1, e1, H1, F1, q1, q2, q3⟩ := sb_ens (x := 0) H (by omega) (by omega)
  rw [e1]
  rw [Option.bind_some]
  dsimp +instances only
  rw [if_pos (by omega)]
  unfold g_jAbstractStringBuilder_setLength_L76
  by_cases c : s1 129 3 ≤ 0
  · rw [if_pos c]
    exact zO.ret ⟨CI_len H1 (by omega) (by omega) (by omega), pg_zu F1 (by omega), by dsimp only; exact zu_e rfl⟩
  · rw [if_neg c]
    have H2 : CI (zu s1 129 2 1) := CI_pg H1 (fun a j k _ _ => zu_a k) (by unfold PG; rw [zu_i (by decide), zu_i (by decide), zu_a (by decide)]; exact H1.2)
    exact zO.ret ⟨CI_len H2 (by omega) (by rw [zu_a (by decide)]; omega) (by omega), pg_zu (pg_zu F1 (by omega)) (by omega), by dsimp only; exact zu_e rfl⟩
theorem g_jStringBuilder_append_302_sp {a1 : Nat} (ha1 : 1 ≤ a1 ∧ a1 ≤ 18 ∧ zLI (a1 + 18) ≤ 5) {σ : zS} (H : CI σ) (hp : σ 129 3 ≤ 49000) : zO (g_jStringBuilder_append_302 a1 σ) (fun v s => CI s ∧ fr fw_page σ s ∧ (s 129 3 ≤ σ 129 3 + 5)) := by
  obtain ⟨p1, p2, p3, p4, p5⟩ := H.2
  have hz := zLI_str ha1.1 ha1.2.1
  unfold g_jStringBuilder_append_302 g_jAbstractStringBuilder_append_278
  rw [s_length (iShr0 (by omega) (by omega))]
  rw [Option.bind_some]
  dsimp +instances only
  have ew := w32_id (x := σ 129 3 + zLI (a1 + 18)) (by omega) (by omega)
  obtain ⟨s1, e1, H1, F1, q1, q2, q3⟩ := sb_ens (x := σ 129 3 + zLI (a1 + 18)) H (by omega) (by omega)
  rw [ew, e1]
  rw [Option.bind_some]
  dsimp +instances only
  unfold g_jAbstractStringBuilder_putStringAt g_jAbstractStringBuilder_inflateIfNeededFor g_jString_coder
  rw [if_neg (by decide), if_neg (by decide)]
  rw [Option.bind_some]
  dsimp +instances only
  rw [if_pos q2]
  rw [Option.bind_some]
  dsimp +instances only
  unfold g_jString_getBytes g_jString_coder
  rw [if_neg (by decide)]
  rw [Option.bind_some]
  dsimp +instances only
  rw [q2, if_neg (by decide), iShl0 (by omega) (by omega), q1, if_pos (by omega)]
  rw [Option.bind_some]
  dsimp +instances only
  have ez : ∀ b j, b ≠ 168 → zcP s1 (a1 + 18) 0 (σ 129 3) (zLI (a1 + 18)) b j = s1 b j := fun b j h => if_neg (fun e => h e.1)
  rw [Option.bind_some]
  dsimp +instances only
  rw [ez 129 3 (by decide), q1, ew]
  have H2 : CI (zcP s1 (a1 + 18) 0 (σ 129 3) (zLI (a1 + 18))) := CI_pg H1 (fun b j _ k _ => ez b j k) (by unfold PG; rw [ez 129 1 (by decide), ez 129 3 (by decide), ez 169 0 (by decide)]; exact H1.2)
  rw [Option.bind_some]
  refine zO.ret ⟨CI_len H2 (by omega) (by rw [ez 169 0 (by decide)]; omega) (by omega), pg_zu (fun b j k => ?_) (by omega), ?_⟩
  · rw [ez b j (fun h => ?_)]
    · exact F1 b j k
    · rcases k with k | k
      · omega
      · have k3 := ffl (ffr (ffr k))
        rw [h] at k3
        cases k3
  · dsimp only; rw [zu_e rfl]; omega
theorem g_jStringBuilder_charAt_sp {x1 : Int} {σ : zS} (H : CI σ) (hp : 0 ≤ x1 ∧ x1 < σ 129 3) : zOp (g_jStringBuilder_charAt x1 σ) σ (fun _ => True) := by
  obtain ⟨p1, p2, p3, p4, p5⟩ := H.2
  have hb : 0 ≤ w16 (iAnd (σ 168 x1) 255) ∧ w16 (iAnd (σ 168 x1) 255) < 65536 := by unfold w16; omega
  unfold g_jStringBuilder_charAt
  refine zOp.bindp (P := fun v => 0 ≤ v ∧ v < 65536) ?_ (fun v hv => zOp.gd hv (zOp.ret trivial))
  unfold g_jAbstractStringBuilder_charAt
  dsimp +instances only
  have e : iShr (σ 169 0) (σ 129 1) = σ 169 0 := by rw [p1]; exact iShr0 (by omega) (by omega)
  refine zOp.bindp g_jMath_min_291_sp (fun r hr => ?_)
  rw [e] at hr
  dsimp +instances only
  refine zOp.gd (by omega) ?_
  refine zOp.ite (fun c => absurd p1 c) (fun _ => ?_)
  refine zOp.gd (by omega) ?_
  exact zOp.gd hb (zOp.ret hb)
/-! A NUMBER's figures -/
def gcQ (σ : zS) : Int → zS → Prop := fun _ s => CI s ∧ fr fw_page σ s ∧ s 129 3 = σ 129 3 ∧ s 169 0 = σ 169 0
theorem gcQ_u {σ : zS} {i v : Int} {x : Option (Int × zS)} (h : zO x (gcQ (zu σ 168 i v))) : zO x (gcQ σ) := by
  refine h.imp (fun _ s p => ⟨p.1, (pg_zu (fr.refl σ) (by omega)).trans p.2.1, ?_, ?_⟩)
  · rw [p.2.2.1]; exact zu_a (by decide)
  · rw [p.2.2.2]; exact zu_a (by decide)
theorem gc_104 {x5 x6 : Int} {σ : zS} (H : CI σ) (h1 : x6 ≠ 0 → 1 ≤ x5) (h2 : x5 ≤ σ 169 0) (h3 : x5 ≤ 60000) (h4 : 0 ≤ x5) : zO (g_jInteger_getChars_L104 x5 x6 σ) (gcQ σ) := by
  unfold g_jInteger_getChars_L104
  refine zO.ite (fun _ => zO.ret ⟨H, fr.refl σ, rfl, rfl⟩) (fun c => ?_)
  have ew := w32_id (x := x5 - 1) (by omega) (by omega)
  refine zO.gd (by omega) ?_
  exact gcQ_u (zO.ret ⟨CI_168 H, fr.refl _, rfl, rfl⟩)
theorem tdiv_neg100 {z : Int} (h : 0 ≤ z) : Int.tdiv (-z) 100 = -(z / 100) := by
  rw [Int.neg_tdiv, Int.tdiv_eq_ediv_of_nonneg h]
theorem gc_22 : ∀ (k n : Nat) (z p x5 x6 : Int) (σ : zS), (10 : Int) ^ k = p → 1 ≤ k → 0 ≤ z → z < p → z ≤ 2147483648 → k < n → CI σ → x5 ≤ σ 169 0 → x5 ≤ 60000 → (k : Int) ≤ x5 → (x6 ≠ 0 → (k : Int) + 1 ≤ x5) → zO (g_jInteger_getChars_L22 n (-z) x5 x6 σ) (gcQ σ) := by
  intro k
  induction k using Nat.strongRecOn with
  | _ k ih =>
    intro n z p x5 x6 σ hp hk hz hzp hz2 hn H h1 h2 h3 h4
    obtain ⟨n, rfl⟩ : ∃ m, n = m + 1 := ⟨n - 1, by omega⟩
    unfold g_jInteger_getChars_L22
    have e1 := w32_id (x := x5 - 1) (by omega) (by omega)
    refine zO.ite (fun c => ?_) (fun c => ?_)
    · have e0 : w32 (-(-z)) = z := by rw [Int.neg_neg]; exact w32_id (by omega) (by omega)
      refine zO.gd (by omega) ?_
      dsimp +instances only
      refine zO.gd (by omega) ?_
      generalize hs : zu σ 168 (w32 (x5 - 1)) (w8 (zs0 37 (w32 (-(-z))))) = s1
      have H1 : CI s1 := by rw [← hs]; exact CI_168 H
      have q1 : s1 169 0 = σ 169 0 := by rw [← hs]; exact zu_a (by decide)
      have goOn : ∀ {x : Option (Int × zS)}, zO x (gcQ s1) → zO x (gcQ σ) := fun h => gcQ_u (by rw [hs]; exact h)
      refine goOn ?_
      refine zO.ite (fun c2 => ?_) (fun c2 => ?_)
      · exact gc_104 H1 (fun h => by have := h4 h; omega) (by omega) (by omega) (by omega)
      · have k2 : 2 ≤ k := by
          by_cases kk : k = 1
          · subst kk
            rw [show (10 : Int) ^ 1 = 10 from rfl] at hp
            omega
          · omega
        have e2 := w32_id (x := w32 (x5 - 1) - 1) (by omega) (by omega)
        refine zO.gd (by omega) ?_
        refine zO.gd (by omega) ?_
        exact gcQ_u (gc_104 (CI_168 H1) (fun h => by have := h4 h; omega) (by rw [zu_a (by decide)]; omega) (by omega) (by omega))
    · have k3 : 3 ≤ k := by
        by_cases kk : k = 1
        · subst kk
          rw [show (10 : Int) ^ 1 = 10 from rfl] at hp
          omega
        · by_cases kk2 : k = 2
          · subst kk2
            rw [show (10 : Int) ^ 2 = 100 from rfl] at hp
            omega
          · omega
      have ed := tdiv_neg100 hz
      have e0 : w32 (Int.tdiv (-z) 100) = -(z / 100) := by rw [ed]; exact w32_id (by omega) (by omega)
      have e3 : w32 (w32 (Int.tdiv (-z) 100) * 100) = -(z / 100) * 100 := by rw [e0]; exact w32_id (by omega) (by omega)
      have e4 : w32 (w32 (w32 (Int.tdiv (-z) 100) * 100) - (-z)) = z - z / 100 * 100 := by rw [e3, w32_id (by omega) (by omega)]; omega
      have e2 := w32_id (x := w32 (x5 - 1) - 1) (by omega) (by omega)
      refine zO.gd (by omega) ?_
      dsimp +instances only
      refine zO.gd (by omega) ?_
      refine zO.gd (by omega) ?_
      refine zO.gd (by rw [zu_a (by decide)]; omega) ?_
      rw [e0]
      obtain ⟨k, rfl⟩ : ∃ m, k = m + 2 := ⟨k - 2, by omega⟩
      rw [Int.pow_succ, Int.pow_succ] at hp
      generalize hq : (10 : Int) ^ k = q at hp
      exact gcQ_u (gcQ_u (ih k (by omega) n (z / 100) q _ x6 _ hq (by omega) (by omega) (by omega) (by omega) (by omega) (CI_168 (CI_168 H)) (by rw [zu_a (by decide), zu_a (by decide)]; omega) (by omega) (by omega) (fun h => by have := h4 h; omega)))
theorem pw9 {j : Nat} (h : j ≤ 8) : (1 : Int) ≤ (10 : Int) ^ j ∧ (10 : Int) ^ j ≤ 100000000 := by
  have h9 : ∀ i : Fin 9, (1 : Int) ≤ (10 : Int) ^ i.val ∧ (10 : Int) ^ i.val ≤ 100000000 := by decide +kernel
  exact h9 ⟨j, by omega⟩
theorem ss_16 {z x1 : Int} {σ : zS} (hz : 0 ≤ z) (hz2 : z ≤ 2147483648) (h1 : x1 = 0 ∨ x1 = 1) : ∀ (m n j : Nat) (p x2 : Int), j + m = 10 → 1 ≤ j → (10 : Int) ^ j = p → (j < 10 → x2 = -p) → m < n → ∃ k : Nat, g_jInteger_stringSize_L16 n (-z) x1 x2 (j : Int) σ = some ((k : Int) + x1, σ) ∧ 1 ≤ k ∧ k ≤ 10 ∧ z < (10 : Int) ^ k
  | _, 0, _, _, _, _, _, _, _, h => absurd h (Nat.not_lt_zero _)
  | 0, n + 1, j, p, x2, hj, hj1, hp, hx, _ => by
    have : j = 10 := by omega
    subst this
    unfold g_jInteger_stringSize_L16
    rw [if_pos (by omega), w32_id (x := 10 + x1) (by omega) (by omega)]
    have : (10 : Int) ^ 10 = 10000000000 := rfl
    exact ⟨10, rfl, by omega, by omega, by omega⟩
  | m + 1, n + 1, j, p, x2, hj, hj1, hp, hx, hn => by
    unfold g_jInteger_stringSize_L16
    rw [if_neg (by omega)]
    have hx := hx (by omega)
    by_cases c : -z ≤ x2
    · rw [if_pos c, w32_id (x := (j : Int) + 1) (by omega) (by omega), show (j : Int) + 1 = ((j + 1 : Nat) : Int) by omega]
      refine ss_16 hz hz2 h1 m n (j + 1) ((10 : Int) ^ (j + 1)) _ (by omega) (by omega) rfl (fun h10 => ?_) (by omega)
      have hb := pw9 (j := j) (by omega)
      rw [Int.pow_succ, hp]
      rw [hp] at hb
      rw [w32_id (x := 10 * x2) (by omega) (by omega)]
      omega
    · rw [if_neg c, w32_id (x := (j : Int) + x1) (by omega) (by omega)]
      exact ⟨j, rfl, hj1, by omega, by omega⟩
theorem ss_all {x0 : Int} {σ : zS} (h1 : -2147483648 ≤ x0) (h2 : x0 ≤ 2147483647) : ∃ (k : Nat) (z : Int), g_jInteger_stringSize x0 σ = some ((k : Int) + (if x0 < 0 then 1 else 0), σ) ∧ 1 ≤ k ∧ k ≤ 10 ∧ z < (10 : Int) ^ k ∧ 0 ≤ z ∧ z ≤ 2147483648 ∧ (x0 < 0 → x0 = -z) ∧ (0 ≤ x0 → x0 = z) := by
  unfold g_jInteger_stringSize g_jInteger_stringSize_L11
  by_cases c : x0 < 0
  · rw [if_pos c, if_pos c]
    obtain ⟨k, e1, e2, e3, e4⟩ := ss_16 (z := -x0) (x1 := 1) (σ := σ) (by omega) (by omega) (Or.inr rfl) 9 zK 1 10 (-10) rfl (by omega) rfl (fun _ => rfl) (by show _ < 1000000; omega)
    rw [Int.neg_neg] at e1
    exact ⟨k, -x0, e1, e2, e3, e4, by omega, by omega, fun _ => by omega, fun _ => by omega⟩
  · rw [if_neg c, if_neg c, w32_id (x := -x0) (by omega) (by omega)]
    obtain ⟨k, e1, e2, e3, e4⟩ := ss_16 (z := x0) (x1 := 0) (σ := σ) (by omega) (by omega) (Or.inl rfl) 9 zK 1 10 (-10) rfl (by omega) rfl (fun _ => rfl) (by show _ < 1000000; omega)
    exact ⟨k, x0, e1, e2, e3, e4, by omega, by omega, fun _ => by omega, fun _ => by omega⟩
theorem gc_all {x0 x5 z : Int} {k : Nat} {σ : zS} (hk : 1 ≤ k) (hk2 : k ≤ 10) (hz : z < (10 : Int) ^ k) (hz0 : 0 ≤ z) (hz2 : z ≤ 2147483648) (g1 : x0 < 0 → x0 = -z) (g2 : 0 ≤ x0 → x0 = z) (h0 : x0 ≤ 2147483647) (H : CI σ) (h1 : x5 ≤ σ 169 0) (h2 : x5 ≤ 60000) (h3 : (k : Int) + (if x0 < 0 then 1 else 0) ≤ x5) : zO (g_jInteger_getChars x0 x5 σ) (gcQ σ) := by
  unfold g_jInteger_getChars g_jInteger_getChars_L12
  refine zO.ite (fun c => ?_) (fun c => ?_)
  · rw [if_neg (by decide)]
    rw [if_neg (by omega)] at h3
    rw [w32_id (x := -x0) (by omega) (by omega), g2 c]
    exact gc_22 k zK z _ x5 0 σ rfl hk hz0 hz hz2 (by show _ < 1000000; omega) H h1 h2 (by omega) (fun h => absurd rfl h)
  · rw [if_pos (by decide)]
    rw [if_pos (by omega)] at h3
    rw [g1 (by omega)]
    exact gc_22 k zK z _ x5 1 σ rfl hk hz0 hz hz2 (by show _ < 1000000; omega) H h1 h2 (by omega) (fun _ => by omega)
theorem g_jStringBuilder_append_304_sp {x1 : Int} {σ : zS} (H : CI σ) (hp : σ 129 3 ≤ 49000 ∧ -2147483648 ≤ x1 ∧ x1 ≤ 2147483647) : zO (g_jStringBuilder_append_304 x1 σ) (fun v s => CI s ∧ fr fw_page σ s ∧ (s 129 3 ≤ σ 129 3 + 11)) := by
  obtain ⟨p1, p2, p3, p4, p5⟩ := H.2
  obtain ⟨k, z, e0, k1, k2, hz, hz0, hz2, g1, g2⟩ := ss_all (σ := σ) hp.2.1 hp.2.2
  have hr : 0 ≤ (k : Int) + (if x1 < 0 then 1 else 0) ∧ (k : Int) + (if x1 < 0 then 1 else 0) ≤ 11 ∧ (if x1 < 0 then (1 : Int) else 0) ≥ 0 := by split <;> omega
  unfold g_jStringBuilder_append_304 g_jAbstractStringBuilder_append_280
  dsimp only
  rw [e0]
  rw [Option.bind_some]
  dsimp only
  have ew := w32_id (x := σ 129 3 + ((k : Int) + (if x1 < 0 then 1 else 0))) (by omega) (by omega)
  obtain ⟨s1, e1, H1, F1, q1, q2, q3⟩ := sb_ens (x := σ 129 3 + ((k : Int) + (if x1 < 0 then 1 else 0))) H (by omega) (by omega)
  rw [ew, e1]
  rw [Option.bind_some]
  dsimp only
  rw [sb_lat H1]
  rw [Option.bind_some]
  dsimp +instances only
  rw [if_neg (by decide)]
  refine zO.bind (P := fun _ s => CI s ∧ fr fw_page σ s ∧ (s 129 3 ≤ σ 129 3 + 11)) ?_ (fun v s p => zO.ret p)
  refine zO.bind (gc_all k1 k2 hz hz0 hz2 g1 g2 hp.2.2 H1 q3 (by omega) (by omega)) (fun v s p => ?_)
  unfold g_jAbstractStringBuilder_append_280_L48
  refine zO.ret ⟨CI_len p.1 (by omega) (by show _ ≤ s 169 0; rw [p.2.2.2]; omega) (by omega), pg_zu (F1.trans p.2.1) (by omega), ?_⟩
  dsimp only
  rw [zu_e rfl]
  omega
end
section
/-! 57.cls7 -/
/-! THE CLASS over the typed memory: each method answers, keeps the invariant, changes what fw_.. names (printed by wip/zv.py) -/
def fw_qu_readIf (a : Nat) (j : Int) : Bool := (fw_ta_takes a j) || ((fw_ta_word 5 a j) || ((fw_ta_wants a j) || ((fw_qu_top a j) || false)))
theorem g_qu_readIf_sp {σ : zS} (H : CI σ) : zO (g_qu_readIf σ) (fun v s => CI s ∧ fr (fw_qu_readIf) σ s ∧ (True)) := by
  have F : fr (fw_qu_readIf) σ σ := fr.refl σ
  unfold g_qu_readIf
  try dsimp +instances only
  refine zO.bind (g_ta_takes_sp H (by omega)) (fun r_6 t_6 p_6 => ?_)
  obtain ⟨H_6, G_6, q_6⟩ := p_6
  try dsimp +instances only
  have F_6 := F.trans (fr.mono G_6 (fun a j h => ffl h))
  refine zO.ite (fun c_2 => ?_) (fun c_2 => ?_)
  ·
    try dsimp +instances only
    refine zO.bind (g_ta_word_sp (by omega) H_6) (fun r_22 t_22 p_22 => ?_)
    obtain ⟨H_22, G_22, q_22⟩ := p_22
    try dsimp +instances only
    have F_22 := F_6.trans (fr.mono G_22 (fun a j h => ffl (ffr h)))
    refine zO.bind (g_ta_wants_sp H_22 (by omega)) (fun r_32 t_32 p_32 => ?_)
    obtain ⟨H_32, G_32, q_32⟩ := p_32
    try dsimp +instances only
    have F_32 := F_22.trans (fr.mono G_32 (fun a j h => ffl (ffr (ffr h))))
    refine zO.bind (g_qu_top_sp H_32) (fun r_37 t_37 p_37 => ?_)
    obtain ⟨H_37, G_37, q_37⟩ := p_37
    try dsimp +instances only
    have F_37 := F_32.trans (fr.mono G_37 (fun a j h => ffl (ffr (ffr (ffr h)))))
    exact zO.ret ⟨H_37, F_37, trivial⟩
  ·
    try dsimp +instances only
    exact zO.ret ⟨H_6, F_6, trivial⟩
def fw_qu_readParts (a : Nat) (j : Int) : Bool := (fw_ta_another a j) || ((fw_ta_word 4 a j) || ((a == 123) || ((fw_ta_wants a j) || ((fw_ta_ranges a j) || ((a == 124) || ((fw_qu_readIf a j) || ((a == 125) || (((a == 122 && j == 5)) || false))))))))
set_option maxHeartbeats 4000000 in
theorem g_qu_readParts_L9_sp {σ0 : zS} : ∀ (n : Nat) (x1 : Int) (x2 : Int) (σ : zS), CI σ → fr (fw_qu_readParts) σ0 σ → (0 ≤ x2 ∧ x2 ≤ 8) → (8 - x2) < (n : Int) → zO (g_qu_readParts_L9 n x1 x2 σ) (fun v s => CI s ∧ fr (fw_qu_readParts) σ0 s ∧ (True))
  | 0, _, _, σ, _, _, hi, hm => by exfalso; omega
  | n + 1, x1, x2, σ, H, F, hi, hm => by
    unfold g_qu_readParts_L9
    try dsimp +instances only
    refine zO.ite (fun c_1 => ?_) (fun c_1 => ?_)
    ·
      try dsimp +instances only
      exact zO.ret ⟨H, F, trivial⟩
    ·
      try dsimp +instances only
      refine zO.ite (fun c_2 => ?_) (fun c_2 => ?_)
      ·
        try dsimp +instances only
        exact zO.ret ⟨H, F, trivial⟩
      ·
        try dsimp +instances only
        refine zO.bind (g_ta_word_sp (by omega) H) (fun r_30 t_30 p_30 => ?_)
        obtain ⟨H_30, G_30, q_30⟩ := p_30
        try dsimp +instances only
        have F_30 := F.trans (fr.mono G_30 (fun a j h => ffl (ffr h)))
        refine zO.gd (by omega) ?_
        try dsimp +instances only
        generalize hs_s_33 : zu t_30 123 x2 r_30 = s_33
        have H_33 : CI s_33 := by rw [← hs_s_33]; exact CI_zun H_30 (by omega) (by omega) rfl
        have F_33 : fr (fw_qu_readParts) σ0 s_33 := by rw [← hs_s_33]; exact fr.zu F_30 (by omega) (br (br (bl (beq_self_eq_true _))))
        refine zO.bind (g_ta_wants_sp H_33 (by omega)) (fun r_40 t_40 p_40 => ?_)
        obtain ⟨H_40, G_40, q_40⟩ := p_40
        try dsimp +instances only
        have F_40 := F_33.trans (fr.mono G_40 (fun a j h => ffl (ffr (ffr (ffr h)))))
        refine zO.bind (g_ta_ranges_sp H_40) (fun r_52 t_52 p_52 => ?_)
        obtain ⟨H_52, G_52, q_52⟩ := p_52
        try dsimp +instances only
        have F_52 := F_40.trans (fr.mono G_52 (fun a j h => ffl (ffr (ffr (ffr (ffr h))))))
        refine zO.gd (by omega) ?_
        try dsimp +instances only
        generalize hs_s_55 : zu t_52 124 x2 r_52 = s_55
        have H_55 : CI s_55 := by rw [← hs_s_55]; exact CI_zun H_52 (by omega) (by omega) rfl
        have F_55 : fr (fw_qu_readParts) σ0 s_55 := by rw [← hs_s_55]; exact fr.zu F_52 (by omega) (br (br (br (br (br (bl (beq_self_eq_true _)))))))
        refine zO.bind (g_qu_readIf_sp H_55) (fun r_62 t_62 p_62 => ?_)
        obtain ⟨H_62, G_62, q_62⟩ := p_62
        try dsimp +instances only
        have F_62 := F_55.trans (fr.mono G_62 (fun a j h => ffl (ffr (ffr (ffr (ffr (ffr (ffr h))))))))
        refine zO.gd (by omega) ?_
        try dsimp +instances only
        generalize hs_s_65 : zu t_62 125 x2 r_62 = s_65
        have H_65 : CI s_65 := by rw [← hs_s_65]; exact CI_zun H_62 (by omega) (by omega) rfl
        have F_65 : fr (fw_qu_readParts) σ0 s_65 := by rw [← hs_s_65]; exact fr.zu F_62 (by omega) (br (br (br (br (br (br (br (bl (beq_self_eq_true _)))))))))
        try have ew_7 := w32_id (x := x2 + 1) (by omega) (by omega)
        generalize hs_s_70 : zu s_65 122 5 (w32 (x2 + 1)) = s_70
        have H_70 : CI s_70 := by rw [← hs_s_70]; exact CI_zuy H_65 (by omega) (by omega) (lo := 0) (hi := 8) rfl (by omega) (by omega)
        have F_70 : fr (fw_qu_readParts) σ0 s_70 := by rw [← hs_s_70]; exact fr.zu F_65 (by omega) (br (br (br (br (br (br (br (br (bl (zbb _ _))))))))))
        generalize hv_v_78 : s_70 122 5 = v_78
        have rv_v_78 := CI.cq H_70
        rw [hv_v_78] at rv_v_78
        refine zO.ite (fun c_8 => ?_) (fun c_8 => ?_)
        ·
          try dsimp +instances only
          unfold g_qu_readParts_L91
          try dsimp +instances only
          refine zO.bind (g_ta_another_sp H_70) (fun r_91 t_91 p_91 => ?_)
          obtain ⟨H_91, G_91, q_91⟩ := p_91
          try dsimp +instances only
          have F_91 := F_70.trans (fr.mono G_91 (fun a j h => ffl h))
          exact g_qu_readParts_L9_sp n r_91 (w32 (x2 + 1)) t_91 H_91 F_91 (by omega) (by omega)
        ·
          try dsimp +instances only
          unfold g_qu_readParts_L91
          try dsimp +instances only
          refine zO.bind (g_ta_another_sp H_70) (fun r_91 t_91 p_91 => ?_)
          obtain ⟨H_91, G_91, q_91⟩ := p_91
          try dsimp +instances only
          have F_91 := F_70.trans (fr.mono G_91 (fun a j h => ffl h))
          exact g_qu_readParts_L9_sp n r_91 (w32 (x2 + 1)) t_91 H_91 F_91 (by omega) (by omega)
theorem g_qu_readParts_sp {σ : zS} (H : CI σ) : zO (g_qu_readParts σ) (fun v s => CI s ∧ fr (fw_qu_readParts) σ s ∧ (True)) := by
  have F : fr (fw_qu_readParts) σ σ := fr.refl σ
  unfold g_qu_readParts
  try dsimp +instances only
  generalize hs_s_2 : zu σ 122 5 0 = s_2
  have H_2 : CI s_2 := by rw [← hs_s_2]; exact CI_zuy H (by omega) (by omega) (lo := 0) (hi := 8) rfl (by omega) (by omega)
  have F_2 : fr (fw_qu_readParts) σ s_2 := by rw [← hs_s_2]; exact fr.zu F (by omega) (br (br (br (br (br (br (br (br (bl (zbb _ _))))))))))
  exact g_qu_readParts_L9_sp zK 1 0 s_2 H_2 F_2 (by omega) (by show _ < (1000000 : Int); omega)
def fw_c_afterWrites (a : Nat) (j : Int) : Bool := (fw_ca_trim 48 a j) || ((fw_wa_compare a j) || false)
theorem g_c_afterWrites_sp {σ : zS} (H : CI σ) : zO (g_c_afterWrites σ) (fun v s => CI s ∧ fr (fw_c_afterWrites) σ s ∧ (True)) := by
  have F : fr (fw_c_afterWrites) σ σ := fr.refl σ
  unfold g_c_afterWrites
  try dsimp +instances only
  refine zO.bind (g_ca_trim_sp (by omega) H) (fun r_7 t_7 p_7 => ?_)
  obtain ⟨H_7, G_7, q_7⟩ := p_7
  try dsimp +instances only
  have F_7 := F.trans (fr.mono G_7 (fun a j h => ffl h))
  refine zO.bind (g_wa_compare_sp H_7) (fun r_24 t_24 p_24 => ?_)
  obtain ⟨H_24, G_24, q_24⟩ := p_24
  try dsimp +instances only
  have F_24 := F_7.trans (fr.mono G_24 (fun a j h => ffl (ffr h)))
  generalize hv_v_34 : t_24 48 2 = v_34
  have rv_v_34 := CI.c2 (a := 48) H_24 (by omega)
  rw [hv_v_34] at rv_v_34
  exact zO.ret ⟨H_24, F_24, trivial⟩
def fw_c_put (a : Nat) (j : Int) : Bool := (fw_so_bringIn a j) || ((fw_ca_write 48 a j) || ((fw_c_afterWrites a j) || ((fw_wa_remember a j) || ((fw_so_bringOut a j) || false))))
theorem g_c_put_sp {x1 : Int} {x2 : Int} {x3 : Int} {y4 : Int} {σ : zS} (H : CI σ) : zO (g_c_put x1 x2 x3 y4 σ) (fun v s => CI s ∧ fr (fw_c_put) σ s ∧ (True)) := by
  have F : fr (fw_c_put) σ σ := fr.refl σ
  unfold g_c_put
  try dsimp +instances only
  refine zO.bindp (g_so_isRow_sp) (fun r_1 p_1 => ?_)
  try dsimp +instances only
  refine zO.ite (fun c_2 => ?_) (fun c_2 => ?_)
  ·
    try dsimp +instances only
    refine zO.bindp (g_b_isPlace_sp) (fun r_11 p_11 => ?_)
    try dsimp +instances only
    refine zO.ite (fun c_4 => ?_) (fun c_4 => ?_)
    ·
      try dsimp +instances only
      exact zO.ret ⟨H, F, trivial⟩
    ·
      try dsimp +instances only
      refine zO.ite (fun c_5 => ?_) (fun c_5 => ?_)
      ·
        try dsimp +instances only
        exact zO.ret ⟨H, F, trivial⟩
      ·
        try dsimp +instances only
        refine zO.ite (fun c_6 => ?_) (fun c_6 => ?_)
        ·
          try dsimp +instances only
          refine zO.bind (g_wa_remember_sp H) (fun r_52 t_52 p_52 => ?_)
          obtain ⟨H_52, G_52, q_52⟩ := p_52
          try dsimp +instances only
          have F_52 := F.trans (fr.mono G_52 (fun a j h => ffl (ffr (ffr (ffr h)))))
          refine zO.bindp (g_so_isIn_sp H_52) (fun r_63 p_63 => ?_)
          try dsimp +instances only
          refine zO.ite (fun c_9 => ?_) (fun c_9 => ?_)
          ·
            try dsimp +instances only
            unfold g_c_put_L90
            try dsimp +instances only
            refine zO.bind (g_so_bringIn_sp H_52) (fun r_102 t_102 p_102 => ?_)
            obtain ⟨H_102, G_102, q_102⟩ := p_102
            try dsimp +instances only
            have F_102 := F_52.trans (fr.mono G_102 (fun a j h => ffl h))
            refine zO.bindp (g_b_of_sp) (fun r_116 p_116 => ?_)
            try dsimp +instances only
            refine zO.bind (g_ca_write_sp (by omega) H_102) (fun r_119 t_119 p_119 => ?_)
            obtain ⟨H_119, G_119, q_119⟩ := p_119
            try dsimp +instances only
            have F_119 := F_102.trans (fr.mono G_119 (fun a j h => ffl (ffr h)))
            refine zO.bind (g_c_afterWrites_sp H_119) (fun r_123 t_123 p_123 => ?_)
            obtain ⟨H_123, G_123, q_123⟩ := p_123
            try dsimp +instances only
            have F_123 := F_119.trans (fr.mono G_123 (fun a j h => ffl (ffr (ffr h))))
            exact zO.ret ⟨H_123, F_123, trivial⟩
          ·
            try dsimp +instances only
            refine zO.bind (g_so_bringOut_sp H_52) (fun r_84 t_84 p_84 => ?_)
            obtain ⟨H_84, G_84, q_84⟩ := p_84
            try dsimp +instances only
            have F_84 := F_52.trans (fr.mono G_84 (fun a j h => ffl (ffr (ffr (ffr (ffr h))))))
            refine zO.bind (g_ca_write_sp (by omega) H_84) (fun r_87 t_87 p_87 => ?_)
            obtain ⟨H_87, G_87, q_87⟩ := p_87
            try dsimp +instances only
            have F_87 := F_84.trans (fr.mono G_87 (fun a j h => ffl (ffr h)))
            unfold g_c_put_L90
            try dsimp +instances only
            refine zO.bind (g_so_bringIn_sp H_87) (fun r_102 t_102 p_102 => ?_)
            obtain ⟨H_102, G_102, q_102⟩ := p_102
            try dsimp +instances only
            have F_102 := F_87.trans (fr.mono G_102 (fun a j h => ffl h))
            refine zO.bindp (g_b_of_sp) (fun r_116 p_116 => ?_)
            try dsimp +instances only
            refine zO.bind (g_ca_write_sp (by omega) H_102) (fun r_119 t_119 p_119 => ?_)
            obtain ⟨H_119, G_119, q_119⟩ := p_119
            try dsimp +instances only
            have F_119 := F_102.trans (fr.mono G_119 (fun a j h => ffl (ffr h)))
            refine zO.bind (g_c_afterWrites_sp H_119) (fun r_123 t_123 p_123 => ?_)
            obtain ⟨H_123, G_123, q_123⟩ := p_123
            try dsimp +instances only
            have F_123 := F_119.trans (fr.mono G_123 (fun a j h => ffl (ffr (ffr h))))
            exact zO.ret ⟨H_123, F_123, trivial⟩
        ·
          try dsimp +instances only
          exact zO.ret ⟨H, F, trivial⟩
  ·
    try dsimp +instances only
    exact zO.ret ⟨H, F, trivial⟩
def fw_c_take (a : Nat) (j : Int) : Bool := (fw_wa_remember a j) || ((fw_so_bringOut a j) || ((fw_ca_write 48 a j) || ((fw_c_afterWrites a j) || false)))
theorem g_c_take_sp {x1 : Int} {σ : zS} (H : CI σ) : zO (g_c_take x1 σ) (fun v s => CI s ∧ fr (fw_c_take) σ s ∧ (True)) := by
  have F : fr (fw_c_take) σ σ := fr.refl σ
  unfold g_c_take
  try dsimp +instances only
  refine zO.bindp (g_so_isRow_sp) (fun r_1 p_1 => ?_)
  try dsimp +instances only
  refine zO.ite (fun c_2 => ?_) (fun c_2 => ?_)
  ·
    try dsimp +instances only
    refine zO.bindp (g_so_isIn_sp H) (fun r_17 p_17 => ?_)
    try dsimp +instances only
    refine zO.ite (fun c_4 => ?_) (fun c_4 => ?_)
    ·
      try dsimp +instances only
      refine zO.bind (g_wa_remember_sp H) (fun r_40 t_40 p_40 => ?_)
      obtain ⟨H_40, G_40, q_40⟩ := p_40
      try dsimp +instances only
      have F_40 := F.trans (fr.mono G_40 (fun a j h => ffl h))
      refine zO.bind (g_so_bringOut_sp H_40) (fun r_58 t_58 p_58 => ?_)
      obtain ⟨H_58, G_58, q_58⟩ := p_58
      try dsimp +instances only
      have F_58 := F_40.trans (fr.mono G_58 (fun a j h => ffl (ffr h)))
      refine zO.bind (g_ca_write_sp (by omega) H_58) (fun r_61 t_61 p_61 => ?_)
      obtain ⟨H_61, G_61, q_61⟩ := p_61
      try dsimp +instances only
      have F_61 := F_58.trans (fr.mono G_61 (fun a j h => ffl (ffr (ffr h))))
      refine zO.bind (g_c_afterWrites_sp H_61) (fun r_65 t_65 p_65 => ?_)
      obtain ⟨H_65, G_65, q_65⟩ := p_65
      try dsimp +instances only
      have F_65 := F_61.trans (fr.mono G_65 (fun a j h => ffl (ffr (ffr (ffr h)))))
      exact zO.ret ⟨H_65, F_65, trivial⟩
    ·
      try dsimp +instances only
      exact zO.ret ⟨H, F, trivial⟩
  ·
    try dsimp +instances only
    exact zO.ret ⟨H, F, trivial⟩
theorem g_c_row_sp {x1 : Int} {x2 : Int} {σ : zS} (H : CI σ) : zOp (g_c_row x1 x2 σ) σ (fun v => True) := by
  unfold g_c_row
  try dsimp +instances only
  refine zOp.bindp (g_so_isRow_sp) (fun r_1 p_1 => ?_)
  try dsimp +instances only
  refine zOp.ite (fun c_2 => ?_) (fun c_2 => ?_)
  ·
    try dsimp +instances only
    exact zOp.ret trivial
  ·
    try dsimp +instances only
    refine zOp.ite (fun c_3 => ?_) (fun c_3 => ?_)
    ·
      try dsimp +instances only
      exact zOp.ret trivial
    ·
      try dsimp +instances only
      refine zOp.ite (fun c_4 => ?_) (fun c_4 => ?_)
      ·
        try dsimp +instances only
        refine zOp.bindp (g_so_isIn_sp H) (fun r_26 p_26 => ?_)
        try dsimp +instances only
        refine zOp.ite (fun c_6 => ?_) (fun c_6 => ?_)
        ·
          try dsimp +instances only
          refine zOp.ite (fun c_7 => ?_) (fun c_7 => ?_)
          ·
            try dsimp +instances only
            refine zOp.gd (by omega) ?_
            try dsimp +instances only
            generalize hv_v_65 : σ 43 x1 = v_65
            have rv_v_65 := CI.cp (a := 43) (j := x1) H (by omega)
            rw [hv_v_65] at rv_v_65
            exact zOp.ret trivial
          ·
            try dsimp +instances only
            refine zOp.gd (by omega) ?_
            try dsimp +instances only
            generalize hv_v_50 : σ 42 x1 = v_50
            have rv_v_50 := CI.cp (a := 42) (j := x1) H (by omega)
            rw [hv_v_50] at rv_v_50
            exact zOp.ret trivial
        ·
          try dsimp +instances only
          exact zOp.ret trivial
      ·
        try dsimp +instances only
        exact zOp.ret trivial
theorem g_c_worth_sp {x1 : Int} {σ : zS} (H : CI σ) : zOp (g_c_worth x1 σ) σ (fun v => True) := by
  unfold g_c_worth
  try dsimp +instances only
  refine zOp.bindp (g_so_isIn_sp H) (fun r_8 p_8 => ?_)
  try dsimp +instances only
  refine zOp.ite (fun c_2 => ?_) (fun c_2 => ?_)
  ·
    try dsimp +instances only
    exact zOp.ret trivial
  ·
    try dsimp +instances only
    refine zOp.gd (by omega) ?_
    try dsimp +instances only
    generalize hv_v_25 : σ 44 x1 = v_25
    exact zOp.ret trivial
def fw_c_feed (a : Nat) (j : Int) : Bool := (fw_ta_append a j) || false
theorem g_c_feed_sp {x1 : Int} {σ : zS} (H : CI σ) : zO (g_c_feed x1 σ) (fun v s => CI s ∧ fr (fw_c_feed) σ s ∧ ((¬ (1 ≤ x1 ∧ x1 ≤ 127) → v = -2 ∧ s 120 1 = σ 120 1) ∧ (1 ≤ x1 ∧ x1 ≤ 127 ∧ σ 120 1 < 160 → v = σ 120 1 + 1 ∧ s 120 1 = σ 120 1 + 1) ∧ (1 ≤ x1 ∧ x1 ≤ 127 ∧ σ 120 1 = 160 → v = -4 ∧ s 120 1 = σ 120 1))) := by
  have F : fr (fw_c_feed) σ σ := fr.refl σ
  have ri_120_1 := CI.ct H
  unfold g_c_feed
  try dsimp +instances only
  refine zO.ite (fun c_1 => ?_) (fun c_1 => ?_)
  ·
    try dsimp +instances only
    exact zO.ret ⟨H, F, (by omega)⟩
  ·
    try dsimp +instances only
    refine zO.ite (fun c_2 => ?_) (fun c_2 => ?_)
    ·
      try dsimp +instances only
      refine zO.bind (g_ta_append_sp H) (fun r_19 t_19 p_19 => ?_)
      obtain ⟨H_19, G_19, q_19⟩ := p_19
      try dsimp +instances only
      have F_19 := F.trans (fr.mono G_19 (fun a j h => ffl h))
      refine zO.ite (fun c_4 => ?_) (fun c_4 => ?_)
      ·
        try dsimp +instances only
        exact zO.ret ⟨H_19, F_19, (by omega)⟩
      ·
        try dsimp +instances only
        generalize hv_v_29 : t_19 120 1 = v_29
        have rv_v_29 := CI.ct H_19
        rw [hv_v_29] at rv_v_29
        exact zO.ret ⟨H_19, F_19, (by omega)⟩
    ·
      try dsimp +instances only
      exact zO.ret ⟨H, F, (by omega)⟩
def fw_c_clear (a : Nat) (j : Int) : Bool := ((a == 120 && j == 1)) || false
theorem g_c_clear_sp {σ : zS} (H : CI σ) : zO (g_c_clear σ) (fun v s => CI s ∧ fr (fw_c_clear) σ s ∧ (v = σ 120 1 ∧ s 120 1 = 0)) := by
  have F : fr (fw_c_clear) σ σ := fr.refl σ
  have ri_120_1 := CI.ct H
  unfold g_c_clear
  try dsimp +instances only
  generalize hv_v_4 : σ 120 1 = v_4
  have rv_v_4 := CI.ct H
  rw [hv_v_4] at rv_v_4
  generalize hs_s_13 : zu σ 120 1 0 = s_13
  have H_13 : CI s_13 := by rw [← hs_s_13]; exact CI_zuy H (by omega) (by omega) (lo := 0) (hi := 160) rfl (by omega) (by omega)
  have F_13 : fr (fw_c_clear) σ s_13 := by rw [← hs_s_13]; exact fr.zu F (by omega) (bl (zbb _ _))
  have e_s_13_120_1 : s_13 120 1 = 0 := by rw [← hs_s_13]; exact zu_e rfl
  exact zO.ret ⟨H_13, F_13, (by omega)⟩
def fw_c_settings (a : Nat) (j : Int) : Bool := (fw_ta_end a j) || ((fw_ta_begin a j) || ((fw_se_copyFrom 118 49 a j) || ((fw_se_readParts a j) || ((fw_se_copyFrom 49 118 a j) || ((fw_ca_trim 48 a j) || false)))))
theorem g_c_settings_sp {σ : zS} (H : CI σ) : zO (g_c_settings σ) (fun v s => CI s ∧ fr (fw_c_settings) σ s ∧ (s 120 1 = 0)) := by
  have F : fr (fw_c_settings) σ σ := fr.refl σ
  have ri_120_1 := CI.ct H
  unfold g_c_settings
  try dsimp +instances only
  refine zO.bind (g_ta_begin_sp H) (fun r_4 t_4 p_4 => ?_)
  obtain ⟨H_4, G_4, q_4⟩ := p_4
  try dsimp +instances only
  have F_4 := F.trans (fr.mono G_4 (fun a j h => ffl (ffr h)))
  have e_t_4_120_1 := G_4 120 1 (Or.inr rfl)
  refine zO.bind (g_se_copyFrom_sp (by omega) (by omega) H_4) (fun r_21 t_21 p_21 => ?_)
  obtain ⟨H_21, G_21, q_21⟩ := p_21
  try dsimp +instances only
  have F_21 := F_4.trans (fr.mono G_21 (fun a j h => ffl (ffr (ffr h))))
  have e_t_21_120_1 := G_21 120 1 (Or.inr rfl)
  refine zO.bind (g_se_readParts_sp H_21) (fun r_32 t_32 p_32 => ?_)
  obtain ⟨H_32, G_32, q_32⟩ := p_32
  try dsimp +instances only
  have F_32 := F_21.trans (fr.mono G_32 (fun a j h => ffl (ffr (ffr (ffr h)))))
  have e_t_32_120_1 := G_32 120 1 (Or.inr rfl)
  refine zO.bindp (g_ta_isSound_sp) (fun r_40 p_40 => ?_)
  try dsimp +instances only
  refine zO.ite (fun c_5 => ?_) (fun c_5 => ?_)
  ·
    try dsimp +instances only
    unfold g_c_settings_L73
    try dsimp +instances only
    refine zO.bind (g_ta_end_sp H_32) (fun r_78 t_78 p_78 => ?_)
    obtain ⟨H_78, G_78, q_78⟩ := p_78
    try dsimp +instances only
    have F_78 := F_32.trans (fr.mono G_78 (fun a j h => ffl h))
    exact zO.ret ⟨H_78, F_78, (by omega)⟩
  ·
    try dsimp +instances only
    refine zO.bind (g_se_copyFrom_sp (by omega) (by omega) H_32) (fun r_60 t_60 p_60 => ?_)
    obtain ⟨H_60, G_60, q_60⟩ := p_60
    try dsimp +instances only
    have F_60 := F_32.trans (fr.mono G_60 (fun a j h => ffl (ffr (ffr (ffr (ffr h))))))
    have e_t_60_120_1 := G_60 120 1 (Or.inr rfl)
    refine zO.bind (g_ca_trim_sp (by omega) H_60) (fun r_70 t_70 p_70 => ?_)
    obtain ⟨H_70, G_70, q_70⟩ := p_70
    try dsimp +instances only
    have F_70 := F_60.trans (fr.mono G_70 (fun a j h => ffl (ffr (ffr (ffr (ffr (ffr h)))))))
    have e_t_70_120_1 := G_70 120 1 (Or.inr rfl)
    unfold g_c_settings_L73
    try dsimp +instances only
    refine zO.bind (g_ta_end_sp H_70) (fun r_78 t_78 p_78 => ?_)
    obtain ⟨H_78, G_78, q_78⟩ := p_78
    try dsimp +instances only
    have F_78 := F_70.trans (fr.mono G_78 (fun a j h => ffl h))
    exact zO.ret ⟨H_78, F_78, (by omega)⟩
theorem g_c_setting_sp {x1 : Int} {σ : zS} (H : CI σ) : zOp (g_c_setting x1 σ) σ (fun v => True) := by
  unfold g_c_setting
  try dsimp +instances only
  refine zOp.bindp (g_se_of_sp (by omega)) (fun r_11 p_11 => ?_)
  try dsimp +instances only
  exact zOp.ret trivial
def fw_c_done (a : Nat) (j : Int) : Bool := (fw_ca_serve 48 a j) || ((fw_fi_gather 60 a j) || false)
theorem g_c_done_sp {x1 : Int} {x2 : Int} {y3 : Int} {σ : zS} (H : CI σ) : zO (g_c_done x1 x2 y3 σ) (fun v s => CI s ∧ fr (fw_c_done) σ s ∧ (True)) := by
  have F : fr (fw_c_done) σ σ := fr.refl σ
  unfold g_c_done
  try dsimp +instances only
  refine zO.bind (g_ca_serve_sp (by omega) H) (fun r_8 t_8 p_8 => ?_)
  obtain ⟨H_8, G_8, q_8⟩ := p_8
  try dsimp +instances only
  have F_8 := F.trans (fr.mono G_8 (fun a j h => ffl h))
  refine zO.bindp (g_so_rowsIn_sp) (fun r_33 p_33 => ?_)
  try dsimp +instances only
  refine zO.bind (g_fi_gather_sp (by omega) H_8) (fun r_38 t_38 p_38 => ?_)
  obtain ⟨H_38, G_38, q_38⟩ := p_38
  try dsimp +instances only
  have F_38 := F_8.trans (fr.mono G_38 (fun a j h => ffl (ffr h)))
  refine zO.bindp (g_fi_measured_sp (by omega) H_38) (fun r_49 p_49 => ?_)
  try dsimp +instances only
  exact zO.ret ⟨H_38, F_38, trivial⟩
def fw_c_run (a : Nat) (j : Int) : Bool := (fw_ta_end a j) || ((fw_c_done a j) || ((a == 128) || ((fw_ta_begin a j) || ((fw_qu_readParts a j) || (((a == 39 && j == 9)) || false)))))
set_option maxHeartbeats 4000000 in
theorem g_c_run_L37_sp {σ0 : zS} : ∀ (n : Nat) (x1 : Int) (σ : zS), CI σ → fr (fw_c_run) σ0 σ → (0 ≤ x1 ∧ x1 ≤ 8) → (8 - x1) < (n : Int) → zO (g_c_run_L37 n x1 σ) (fun v s => CI s ∧ fr (fw_c_run) σ0 s ∧ (s 120 1 = 0))
  | 0, _, σ, _, _, hi, hm => by exfalso; omega
  | n + 1, x1, σ, H, F, hi, hm => by
    have ri_120_1 := CI.ct H
    unfold g_c_run_L37
    try dsimp +instances only
    generalize hv_v_42 : σ 122 5 = v_42
    have rv_v_42 := CI.cq H
    rw [hv_v_42] at rv_v_42
    refine zO.ite (fun c_1 => ?_) (fun c_1 => ?_)
    ·
      try dsimp +instances only
      unfold g_c_run_L100
      try dsimp +instances only
      generalize hv_v_108 : σ 122 5 = v_108
      have rv_v_108 := CI.cq H
      rw [hv_v_108] at rv_v_108
      refine zO.bind (g_ta_end_sp H) (fun r_111 t_111 p_111 => ?_)
      obtain ⟨H_111, G_111, q_111⟩ := p_111
      try dsimp +instances only
      have F_111 := F.trans (fr.mono G_111 (fun a j h => ffl h))
      exact zO.ret ⟨H_111, F_111, (by omega)⟩
    ·
      try dsimp +instances only
      refine zO.ite (fun c_3 => ?_) (fun c_3 => ?_)
      ·
        try dsimp +instances only
        unfold g_c_run_L100
        try dsimp +instances only
        generalize hv_v_108 : σ 122 5 = v_108
        have rv_v_108 := CI.cq H
        rw [hv_v_108] at rv_v_108
        refine zO.bind (g_ta_end_sp H) (fun r_111 t_111 p_111 => ?_)
        obtain ⟨H_111, G_111, q_111⟩ := p_111
        try dsimp +instances only
        have F_111 := F.trans (fr.mono G_111 (fun a j h => ffl h))
        exact zO.ret ⟨H_111, F_111, (by omega)⟩
      ·
        try dsimp +instances only
        refine zO.gd (by omega) ?_
        try dsimp +instances only
        generalize hv_v_71 : σ 123 x1 = v_71
        refine zO.gd (by omega) ?_
        try dsimp +instances only
        generalize hv_v_80 : σ 124 x1 = v_80
        refine zO.gd (by omega) ?_
        try dsimp +instances only
        generalize hv_v_89 : σ 125 x1 = v_89
        refine zO.bind (g_c_done_sp H) (fun r_90 t_90 p_90 => ?_)
        obtain ⟨H_90, G_90, q_90⟩ := p_90
        try dsimp +instances only
        have F_90 := F.trans (fr.mono G_90 (fun a j h => ffl (ffr h)))
        have e_t_90_120_1 := G_90 120 1 (Or.inr rfl)
        refine zO.gd (by omega) ?_
        try dsimp +instances only
        generalize hs_s_93 : zu t_90 128 x1 r_90 = s_93
        have H_93 : CI s_93 := by rw [← hs_s_93]; exact CI_zun H_90 (by omega) (by omega) rfl
        have F_93 : fr (fw_c_run) σ0 s_93 := by rw [← hs_s_93]; exact fr.zu F_90 (by omega) (br (br (bl (beq_self_eq_true _))))
        have e_s_93_120_1 : s_93 120 1 = t_90 120 1 := by rw [← hs_s_93]; exact zu_c (by omega)
        try have ew_6 := w32_id (x := x1 + 1) (by omega) (by omega)
        exact zO.imp (g_c_run_L37_sp n (w32 (x1 + 1)) s_93 H_93 F_93 (by omega) (by omega)) (fun v s ⟨pa, pb, pc⟩ => ⟨pa, pb, by omega⟩)
theorem g_c_run_sp {σ : zS} (H : CI σ) : zO (g_c_run σ) (fun v s => CI s ∧ fr (fw_c_run) σ s ∧ (s 120 1 = 0)) := by
  have F : fr (fw_c_run) σ σ := fr.refl σ
  have ri_120_1 := CI.ct H
  unfold g_c_run
  try dsimp +instances only
  refine zO.bind (g_ta_begin_sp H) (fun r_4 t_4 p_4 => ?_)
  obtain ⟨H_4, G_4, q_4⟩ := p_4
  try dsimp +instances only
  have F_4 := F.trans (fr.mono G_4 (fun a j h => ffl (ffr (ffr (ffr h)))))
  have e_t_4_120_1 := G_4 120 1 (Or.inr rfl)
  refine zO.bind (g_qu_readParts_sp H_4) (fun r_11 t_11 p_11 => ?_)
  obtain ⟨H_11, G_11, q_11⟩ := p_11
  try dsimp +instances only
  have F_11 := F_4.trans (fr.mono G_11 (fun a j h => ffl (ffr (ffr (ffr (ffr h))))))
  have e_t_11_120_1 := G_11 120 1 (Or.inr rfl)
  refine zO.bindp (g_ta_isSound_sp) (fun r_18 p_18 => ?_)
  try dsimp +instances only
  refine zO.ite (fun c_10 => ?_) (fun c_10 => ?_)
  ·
    try dsimp +instances only
    unfold g_c_run_L100
    try dsimp +instances only
    generalize hv_v_108 : t_11 122 5 = v_108
    have rv_v_108 := CI.cq H_11
    rw [hv_v_108] at rv_v_108
    refine zO.bind (g_ta_end_sp H_11) (fun r_111 t_111 p_111 => ?_)
    obtain ⟨H_111, G_111, q_111⟩ := p_111
    try dsimp +instances only
    have F_111 := F_11.trans (fr.mono G_111 (fun a j h => ffl h))
    exact zO.ret ⟨H_111, F_111, (by omega)⟩
  ·
    try dsimp +instances only
    generalize hv_v_29 : t_11 122 5 = v_29
    have rv_v_29 := CI.cq H_11
    rw [hv_v_29] at rv_v_29
    generalize hs_s_32 : zu t_11 39 9 v_29 = s_32
    have H_32 : CI s_32 := by rw [← hs_s_32]; exact CI_zuy H_11 (by omega) (by omega) (lo := 0) (hi := 8) rfl (by omega) (by omega)
    have F_32 : fr (fw_c_run) σ s_32 := by rw [← hs_s_32]; exact fr.zu F_11 (by omega) (br (br (br (br (br (bl (zbb _ _)))))))
    have e_s_32_120_1 : s_32 120 1 = t_11 120 1 := by rw [← hs_s_32]; exact zu_c (by omega)
    exact zO.imp (g_c_run_L37_sp zK 0 s_32 H_32 F_32 (by omega) (by show _ < (1000000 : Int); omega)) (fun v s ⟨pa, pb, pc⟩ => ⟨pa, pb, by omega⟩)
theorem g_c_answer_sp {x1 : Int} {σ : zS} (H : CI σ) : zOp (g_c_answer x1 σ) σ (fun v => True) := by
  unfold g_c_answer
  try dsimp +instances only
  refine zOp.ite (fun c_1 => ?_) (fun c_1 => ?_)
  ·
    try dsimp +instances only
    exact zOp.ret trivial
  ·
    try dsimp +instances only
    generalize hv_v_6 : σ 39 9 = v_6
    have rv_v_6 := CI.cn H
    rw [hv_v_6] at rv_v_6
    refine zOp.ite (fun c_2 => ?_) (fun c_2 => ?_)
    ·
      try dsimp +instances only
      exact zOp.ret trivial
    ·
      try dsimp +instances only
      refine zOp.ite (fun c_3 => ?_) (fun c_3 => ?_)
      ·
        try dsimp +instances only
        exact zOp.ret trivial
      ·
        try dsimp +instances only
        refine zOp.gd (by omega) ?_
        try dsimp +instances only
        generalize hv_v_26 : σ 128 x1 = v_26
        exact zOp.ret trivial
def fw_c_spellBox (a : Nat) (j : Int) : Bool := (fw_page a j) || ((fw_page a j) || false)
theorem g_c_spellBox_sp {x1 : Int} {σ : zS} (H : CI σ) (hp : σ 129 3 ≤ 40000) : zO (g_c_spellBox x1 σ) (fun v s => CI s ∧ fr (fw_c_spellBox) σ s ∧ (s 129 3 ≤ σ 129 3 + 47)) := by
  have F : fr (fw_c_spellBox) σ σ := fr.refl σ
  unfold g_c_spellBox
  try dsimp +instances only
  refine zO.bindp (g_b_side_sp) (fun r_6 p_6 => ?_)
  try dsimp +instances only
  refine zO.bind (g_jStringBuilder_append_304_sp H (by omega)) (fun r_9 t_9 p_9 => ?_)
  obtain ⟨H_9, G_9, q_9⟩ := p_9
  try dsimp +instances only
  have F_9 := F.trans (fr.mono G_9 (fun a j h => ffl h))
  refine zO.bind (g_jStringBuilder_append_303_sp H_9 (by omega)) (fun r_14 t_14 p_14 => ?_)
  obtain ⟨H_14, G_14, q_14⟩ := p_14
  try dsimp +instances only
  have F_14 := F_9.trans (fr.mono G_14 (fun a j h => ffl (ffr h)))
  refine zO.bindp (g_b_side_sp) (fun r_19 p_19 => ?_)
  try dsimp +instances only
  refine zO.bind (g_jStringBuilder_append_304_sp H_14 (by omega)) (fun r_22 t_22 p_22 => ?_)
  obtain ⟨H_22, G_22, q_22⟩ := p_22
  try dsimp +instances only
  have F_22 := F_14.trans (fr.mono G_22 (fun a j h => ffl h))
  refine zO.bind (g_jStringBuilder_append_303_sp H_22 (by omega)) (fun r_27 t_27 p_27 => ?_)
  obtain ⟨H_27, G_27, q_27⟩ := p_27
  try dsimp +instances only
  have F_27 := F_22.trans (fr.mono G_27 (fun a j h => ffl (ffr h)))
  refine zO.bindp (g_b_side_sp) (fun r_37 p_37 => ?_)
  try dsimp +instances only
  refine zO.bind (g_jStringBuilder_append_304_sp H_27 (by omega)) (fun r_40 t_40 p_40 => ?_)
  obtain ⟨H_40, G_40, q_40⟩ := p_40
  try dsimp +instances only
  have F_40 := F_27.trans (fr.mono G_40 (fun a j h => ffl h))
  refine zO.bind (g_jStringBuilder_append_303_sp H_40 (by omega)) (fun r_45 t_45 p_45 => ?_)
  obtain ⟨H_45, G_45, q_45⟩ := p_45
  try dsimp +instances only
  have F_45 := F_40.trans (fr.mono G_45 (fun a j h => ffl (ffr h)))
  refine zO.bindp (g_b_side_sp) (fun r_50 p_50 => ?_)
  try dsimp +instances only
  refine zO.bind (g_jStringBuilder_append_304_sp H_45 (by omega)) (fun r_53 t_53 p_53 => ?_)
  obtain ⟨H_53, G_53, q_53⟩ := p_53
  try dsimp +instances only
  have F_53 := F_45.trans (fr.mono G_53 (fun a j h => ffl h))
  exact zO.ret ⟨H_53, F_53, (by omega)⟩
def fw_c_spell (a : Nat) (j : Int) : Bool := (fw_c_spellBox a j) || ((fw_page a j) || ((fw_page a j) || false))
set_option maxHeartbeats 4000000 in
theorem g_c_spell_L10_sp {σ0 : zS} : ∀ (n : Nat) (x1 : Int) (σ : zS), CI σ → fr (fw_c_spell) σ0 σ → (0 ≤ x1 ∧ x1 ≤ 181 ∧ σ 129 3 ≤ 50 * x1) → (181 - x1) < (n : Int) → zO (g_c_spell_L10 n x1 σ) (fun v s => CI s ∧ fr (fw_c_spell) σ0 s ∧ (True))
  | 0, _, σ, _, _, hi, hm => by exfalso; omega
  | n + 1, x1, σ, H, F, hi, hm => by
    unfold g_c_spell_L10
    try dsimp +instances only
    generalize hv_v_18 : σ 48 2 = v_18
    have rv_v_18 := CI.c2 (a := 48) H (by omega)
    rw [hv_v_18] at rv_v_18
    refine zO.ite (fun c_1 => ?_) (fun c_1 => ?_)
    ·
      try dsimp +instances only
      refine zO.bindp (g_jStringBuilder_length_sp H) (fun r_64 p_64 => ?_)
      try dsimp +instances only
      exact zO.ret ⟨H, F, trivial⟩
    ·
      try dsimp +instances only
      refine zO.ite (fun c_3 => ?_) (fun c_3 => ?_)
      ·
        try dsimp +instances only
        unfold g_c_spell_L38
        try dsimp +instances only
        refine zO.gd (by omega) ?_
        try dsimp +instances only
        generalize hv_v_50 : σ 52 x1 = v_50
        refine zO.bind (g_c_spellBox_sp H (by omega)) (fun r_51 t_51 p_51 => ?_)
        obtain ⟨H_51, G_51, q_51⟩ := p_51
        try dsimp +instances only
        have F_51 := F.trans (fr.mono G_51 (fun a j h => ffl h))
        try have ew_5 := w32_id (x := x1 + 1) (by omega) (by omega)
        exact g_c_spell_L10_sp n (w32 (x1 + 1)) t_51 H_51 F_51 (by omega) (by omega)
      ·
        try dsimp +instances only
        refine zO.bind (g_jStringBuilder_append_303_sp H (by omega)) (fun r_34 t_34 p_34 => ?_)
        obtain ⟨H_34, G_34, q_34⟩ := p_34
        try dsimp +instances only
        have F_34 := F.trans (fr.mono G_34 (fun a j h => ffl (ffr h)))
        unfold g_c_spell_L38
        try dsimp +instances only
        refine zO.gd (by omega) ?_
        try dsimp +instances only
        generalize hv_v_50 : t_34 52 x1 = v_50
        refine zO.bind (g_c_spellBox_sp H_34 (by omega)) (fun r_51 t_51 p_51 => ?_)
        obtain ⟨H_51, G_51, q_51⟩ := p_51
        try dsimp +instances only
        have F_51 := F_34.trans (fr.mono G_51 (fun a j h => ffl h))
        try have ew_8 := w32_id (x := x1 + 1) (by omega) (by omega)
        exact g_c_spell_L10_sp n (w32 (x1 + 1)) t_51 H_51 F_51 (by omega) (by omega)
theorem g_c_spell_sp {σ : zS} (H : CI σ) : zO (g_c_spell σ) (fun v s => CI s ∧ fr (fw_c_spell) σ s ∧ (True)) := by
  have F : fr (fw_c_spell) σ σ := fr.refl σ
  unfold g_c_spell
  try dsimp +instances only
  refine zO.bind (g_jStringBuilder_setLength_sp H (by omega)) (fun r_5 t_5 p_5 => ?_)
  obtain ⟨H_5, G_5, q_5⟩ := p_5
  try dsimp +instances only
  have F_5 := F.trans (fr.mono G_5 (fun a j h => ffl (ffr (ffr h))))
  exact g_c_spell_L10_sp zK 0 t_5 H_5 F_5 (by omega) (by show _ < (1000000 : Int); omega)
def fw_c_load (a : Nat) (j : Int) : Bool := (fw_ta_another a j) || ((fw_ta_end a j) || ((fw_ca_admit 48 a j) || ((fw_ta_plainBox a j) || ((fw_bs_add 126 a j) || ((fw_ta_begin a j) || (((a == 126 && j == 1)) || false))))))
set_option maxHeartbeats 4000000 in
theorem g_c_load_L19_sp {σ0 : zS} : ∀ (n : Nat) (x1 : Int) (x2 : Int) (σ : zS), CI σ → fr (fw_c_load) σ0 σ → (1 ≤ x2 ∧ x2 ≤ 13) → (13 - x2) < (n : Int) → zO (g_c_load_L19 n x1 x2 σ) (fun v s => CI s ∧ fr (fw_c_load) σ0 s ∧ (s 120 1 = 0))
  | 0, _, _, σ, _, _, hi, hm => by exfalso; omega
  | n + 1, x1, x2, σ, H, F, hi, hm => by
    have ri_120_1 := CI.ct H
    unfold g_c_load_L19
    try dsimp +instances only
    refine zO.ite (fun c_1 => ?_) (fun c_1 => ?_)
    ·
      try dsimp +instances only
      unfold g_c_load_L69
      try dsimp +instances only
      refine zO.bindp (g_ta_isSound_sp) (fun r_77 p_77 => ?_)
      try dsimp +instances only
      refine zO.ite (fun c_3 => ?_) (fun c_3 => ?_)
      ·
        try dsimp +instances only
        unfold g_c_load_L101
        try dsimp +instances only
        refine zO.bind (g_ta_end_sp H) (fun r_101 t_101 p_101 => ?_)
        obtain ⟨H_101, G_101, q_101⟩ := p_101
        try dsimp +instances only
        have F_101 := F.trans (fr.mono G_101 (fun a j h => ffl (ffr h)))
        exact zO.ret ⟨H_101, F_101, (by omega)⟩
      ·
        try dsimp +instances only
        refine zO.bind (g_ca_admit_sp (by omega) H) (fun r_94 t_94 p_94 => ?_)
        obtain ⟨H_94, G_94, q_94⟩ := p_94
        try dsimp +instances only
        have F_94 := F.trans (fr.mono G_94 (fun a j h => ffl (ffr (ffr h))))
        have e_t_94_120_1 := G_94 120 1 (Or.inr rfl)
        unfold g_c_load_L101
        try dsimp +instances only
        refine zO.bind (g_ta_end_sp H_94) (fun r_101 t_101 p_101 => ?_)
        obtain ⟨H_101, G_101, q_101⟩ := p_101
        try dsimp +instances only
        have F_101 := F_94.trans (fr.mono G_101 (fun a j h => ffl (ffr h)))
        exact zO.ret ⟨H_101, F_101, (by omega)⟩
    ·
      try dsimp +instances only
      refine zO.ite (fun c_7 => ?_) (fun c_7 => ?_)
      ·
        try dsimp +instances only
        unfold g_c_load_L69
        try dsimp +instances only
        refine zO.bindp (g_ta_isSound_sp) (fun r_77 p_77 => ?_)
        try dsimp +instances only
        refine zO.ite (fun c_9 => ?_) (fun c_9 => ?_)
        ·
          try dsimp +instances only
          unfold g_c_load_L101
          try dsimp +instances only
          refine zO.bind (g_ta_end_sp H) (fun r_101 t_101 p_101 => ?_)
          obtain ⟨H_101, G_101, q_101⟩ := p_101
          try dsimp +instances only
          have F_101 := F.trans (fr.mono G_101 (fun a j h => ffl (ffr h)))
          exact zO.ret ⟨H_101, F_101, (by omega)⟩
        ·
          try dsimp +instances only
          refine zO.bind (g_ca_admit_sp (by omega) H) (fun r_94 t_94 p_94 => ?_)
          obtain ⟨H_94, G_94, q_94⟩ := p_94
          try dsimp +instances only
          have F_94 := F.trans (fr.mono G_94 (fun a j h => ffl (ffr (ffr h))))
          have e_t_94_120_1 := G_94 120 1 (Or.inr rfl)
          unfold g_c_load_L101
          try dsimp +instances only
          refine zO.bind (g_ta_end_sp H_94) (fun r_101 t_101 p_101 => ?_)
          obtain ⟨H_101, G_101, q_101⟩ := p_101
          try dsimp +instances only
          have F_101 := F_94.trans (fr.mono G_101 (fun a j h => ffl (ffr h)))
          exact zO.ret ⟨H_101, F_101, (by omega)⟩
      ·
        try dsimp +instances only
        refine zO.bind (g_ta_plainBox_sp H) (fun r_37 t_37 p_37 => ?_)
        obtain ⟨H_37, G_37, q_37⟩ := p_37
        try dsimp +instances only
        have F_37 := F.trans (fr.mono G_37 (fun a j h => ffl (ffr (ffr (ffr h)))))
        have e_t_37_120_1 := G_37 120 1 (Or.inr rfl)
        refine zO.bind (g_bs_add_sp (by omega) H_37) (fun r_40 t_40 p_40 => ?_)
        obtain ⟨H_40, G_40, q_40⟩ := p_40
        try dsimp +instances only
        have F_40 := F_37.trans (fr.mono G_40 (fun a j h => ffl (ffr (ffr (ffr (ffr h))))))
        have e_t_40_120_1 := G_40 120 1 (Or.inr rfl)
        refine zO.ite (fun c_15 => ?_) (fun c_15 => ?_)
        ·
          try dsimp +instances only
          unfold g_c_load_L59
          try dsimp +instances only
          refine zO.bind (g_ta_another_sp H_40) (fun r_59 t_59 p_59 => ?_)
          obtain ⟨H_59, G_59, q_59⟩ := p_59
          try dsimp +instances only
          have F_59 := F_40.trans (fr.mono G_59 (fun a j h => ffl h))
          have e_t_59_120_1 := G_59 120 1 (Or.inr rfl)
          try have ew_17 := w32_id (x := x2 + 1) (by omega) (by omega)
          exact zO.imp (g_c_load_L19_sp n r_59 (w32 (x2 + 1)) t_59 H_59 F_59 (by omega) (by omega)) (fun v s ⟨pa, pb, pc⟩ => ⟨pa, pb, by omega⟩)
        ·
          try dsimp +instances only
          unfold g_c_load_L59
          try dsimp +instances only
          refine zO.bind (g_ta_another_sp H_40) (fun r_59 t_59 p_59 => ?_)
          obtain ⟨H_59, G_59, q_59⟩ := p_59
          try dsimp +instances only
          have F_59 := F_40.trans (fr.mono G_59 (fun a j h => ffl h))
          have e_t_59_120_1 := G_59 120 1 (Or.inr rfl)
          try have ew_19 := w32_id (x := x2 + 1) (by omega) (by omega)
          exact zO.imp (g_c_load_L19_sp n r_59 (w32 (x2 + 1)) t_59 H_59 F_59 (by omega) (by omega)) (fun v s ⟨pa, pb, pc⟩ => ⟨pa, pb, by omega⟩)
theorem g_c_load_sp {σ : zS} (H : CI σ) : zO (g_c_load σ) (fun v s => CI s ∧ fr (fw_c_load) σ s ∧ (s 120 1 = 0)) := by
  have F : fr (fw_c_load) σ σ := fr.refl σ
  have ri_120_1 := CI.ct H
  unfold g_c_load
  try dsimp +instances only
  refine zO.bind (g_ta_begin_sp H) (fun r_4 t_4 p_4 => ?_)
  obtain ⟨H_4, G_4, q_4⟩ := p_4
  try dsimp +instances only
  have F_4 := F.trans (fr.mono G_4 (fun a j h => ffl (ffr (ffr (ffr (ffr (ffr h)))))))
  have e_t_4_120_1 := G_4 120 1 (Or.inr rfl)
  generalize hs_s_12 : zu t_4 126 1 0 = s_12
  have H_12 : CI s_12 := by rw [← hs_s_12]; exact CI_zuy H_4 (by omega) (by omega) (lo := 0) (hi := 181) rfl (by omega) (by omega)
  have F_12 : fr (fw_c_load) σ s_12 := by rw [← hs_s_12]; exact fr.zu F_4 (by omega) (br (br (br (br (br (br (bl (zbb _ _))))))))
  have e_s_12_120_1 : s_12 120 1 = t_4 120 1 := by rw [← hs_s_12]; exact zu_c (by omega)
  exact zO.imp (g_c_load_L19_sp zK 1 1 s_12 H_12 F_12 (by omega) (by show _ < (1000000 : Int); omega)) (fun v s ⟨pa, pb, pc⟩ => ⟨pa, pb, by omega⟩)
def fw_c_explainMissing (a : Nat) (j : Int) : Bool := (fw_page a j) || ((fw_c_spellBox a j) || ((fw_page a j) || ((fw_page a j) || ((fw_ca_missingOf 48 a j) || false))))
set_option maxHeartbeats 4000000 in
theorem g_c_explainMissing_L17_sp {σ0 : zS} : ∀ (n : Nat) (x3 : Int) (x4 : Int) (σ : zS), CI σ → fr (fw_c_explainMissing) σ0 σ → (0 ≤ x4 ∧ x4 ≤ 181 ∧ σ 129 3 ≤ 12000 + 65 * x4 ∧ -2147483648 ≤ x3 ∧ x3 ≤ 2147483647) → (181 - x4) < (n : Int) → zO (g_c_explainMissing_L17 n x3 x4 σ) (fun v s => CI s ∧ fr (fw_c_explainMissing) σ0 s ∧ (s 129 3 ≤ 24000 ∧ -2147483648 ≤ v ∧ v ≤ 2147483647))
  | 0, _, _, σ, _, _, hi, hm => by exfalso; omega
  | n + 1, x3, x4, σ, H, F, hi, hm => by
    unfold g_c_explainMissing_L17
    try dsimp +instances only
    generalize hv_v_20 : σ 56 1 = v_20
    have rv_v_20 := CI.c1 (a := 56) H (by omega)
    rw [hv_v_20] at rv_v_20
    refine zO.ite (fun c_1 => ?_) (fun c_1 => ?_)
    ·
      try dsimp +instances only
      exact zO.ret ⟨H, F, (by omega)⟩
    ·
      try dsimp +instances only
      refine zO.bindp (g_bs_at_sp (by omega) H) (fun r_36 p_36 => ?_)
      try dsimp +instances only
      refine zO.bindp (g_ca_costOf_sp (by omega)) (fun r_39 p_39 => ?_)
      try dsimp +instances only
      refine zO.bind (g_jStringBuilder_append_302_sp (by decide) H (by omega)) (fun r_51 t_51 p_51 => ?_)
      obtain ⟨H_51, G_51, q_51⟩ := p_51
      try dsimp +instances only
      have F_51 := F.trans (fr.mono G_51 (fun a j h => ffl h))
      refine zO.bindp (g_bs_at_sp (by omega) H_51) (fun r_59 p_59 => ?_)
      try dsimp +instances only
      refine zO.bind (g_c_spellBox_sp H_51 (by omega)) (fun r_62 t_62 p_62 => ?_)
      obtain ⟨H_62, G_62, q_62⟩ := p_62
      try dsimp +instances only
      have F_62 := F_51.trans (fr.mono G_62 (fun a j h => ffl (ffr h)))
      refine zO.bind (g_jStringBuilder_append_303_sp H_62 (by omega)) (fun r_71 t_71 p_71 => ?_)
      obtain ⟨H_71, G_71, q_71⟩ := p_71
      try dsimp +instances only
      have F_71 := F_62.trans (fr.mono G_71 (fun a j h => ffl (ffr (ffr h))))
      refine zO.bind (g_jStringBuilder_append_304_sp H_71 (by omega)) (fun r_76 t_76 p_76 => ?_)
      obtain ⟨H_76, G_76, q_76⟩ := p_76
      try dsimp +instances only
      have F_76 := F_71.trans (fr.mono G_76 (fun a j h => ffl (ffr (ffr (ffr h)))))
      refine zO.bind (g_jStringBuilder_append_303_sp H_76 (by omega)) (fun r_81 t_81 p_81 => ?_)
      obtain ⟨H_81, G_81, q_81⟩ := p_81
      try dsimp +instances only
      have F_81 := F_76.trans (fr.mono G_81 (fun a j h => ffl (ffr (ffr h))))
      try have ew_10 := w32_id (x := x4 + 1) (by omega) (by omega)
      try have ew_11 := w32_id (x := x3 + r_39) (by omega) (by omega)
      have bw_12 := w32_bd (x3 + r_39)
      have bw_13 := w32_bd (x4 + 1)
      exact zO.imp (g_c_explainMissing_L17_sp n (w32 (x3 + r_39)) (w32 (x4 + 1)) t_81 H_81 F_81 (by omega) (by omega)) (fun v s ⟨pa, pb, pc⟩ => ⟨pa, pb, by omega⟩)
theorem g_c_explainMissing_sp {x1 : Int} {σ : zS} (H : CI σ) (hp : σ 129 3 ≤ 12000) : zO (g_c_explainMissing x1 σ) (fun v s => CI s ∧ fr (fw_c_explainMissing) σ s ∧ (s 129 3 ≤ 24000 ∧ -2147483648 ≤ v ∧ v ≤ 2147483647)) := by
  have F : fr (fw_c_explainMissing) σ σ := fr.refl σ
  unfold g_c_explainMissing
  try dsimp +instances only
  refine zO.bind (g_ca_missingOf_sp (by omega) H) (fun r_8 t_8 p_8 => ?_)
  obtain ⟨H_8, G_8, q_8⟩ := p_8
  try dsimp +instances only
  have F_8 := F.trans (fr.mono G_8 (fun a j h => ffl (ffr (ffr (ffr (ffr h))))))
  have e_t_8_129_3 := G_8 129 3 (Or.inr rfl)
  exact zO.imp (g_c_explainMissing_L17_sp zK 0 0 t_8 H_8 F_8 (by omega) (by show _ < (1000000 : Int); omega)) (fun v s ⟨pa, pb, pc⟩ => ⟨pa, pb, by omega⟩)
def fw_c_explain (a : Nat) (j : Int) : Bool := (fw_c_explainMissing a j) || ((fw_page a j) || ((fw_page a j) || ((fw_page a j) || ((fw_page a j) || ((fw_c_spellBox a j) || ((fw_page a j) || false))))))
set_option maxHeartbeats 4000000 in
theorem g_c_explain_L35_sp {σ0 : zS} : ∀ (n : Nat) (x5 : Int) (x6 : Int) (σ : zS), CI σ → fr (fw_c_explain) σ0 σ → (0 ≤ x6 ∧ x6 ≤ 181 ∧ σ 129 3 ≤ 66 * x6) → (181 - x6) < (n : Int) → zO (g_c_explain_L35 n x5 x6 σ) (fun v s => CI s ∧ fr (fw_c_explain) σ0 s ∧ (True))
  | 0, _, _, σ, _, _, hi, hm => by exfalso; omega
  | n + 1, x5, x6, σ, H, F, hi, hm => by
    unfold g_c_explain_L35
    try dsimp +instances only
    generalize hv_v_44 : σ 48 2 = v_44
    have rv_v_44 := CI.c2 (a := 48) H (by omega)
    rw [hv_v_44] at rv_v_44
    refine zO.ite (fun c_1 => ?_) (fun c_1 => ?_)
    ·
      try dsimp +instances only
      refine zO.bind (g_c_explainMissing_sp H (by omega)) (fun r_144 t_144 p_144 => ?_)
      obtain ⟨H_144, G_144, q_144⟩ := p_144
      try dsimp +instances only
      have F_144 := F.trans (fr.mono G_144 (fun a j h => ffl h))
      refine zO.bind (g_jStringBuilder_append_302_sp (by decide) H_144 (by omega)) (fun r_156 t_156 p_156 => ?_)
      obtain ⟨H_156, G_156, q_156⟩ := p_156
      try dsimp +instances only
      have F_156 := F_144.trans (fr.mono G_156 (fun a j h => ffl (ffr h)))
      refine zO.bind (g_jStringBuilder_append_304_sp H_156 (by omega)) (fun r_161 t_161 p_161 => ?_)
      obtain ⟨H_161, G_161, q_161⟩ := p_161
      try dsimp +instances only
      have F_161 := F_156.trans (fr.mono G_161 (fun a j h => ffl (ffr (ffr h))))
      refine zO.bindp (g_jStringBuilder_length_sp H_161) (fun r_169 p_169 => ?_)
      try dsimp +instances only
      exact zO.ret ⟨H_161, F_161, trivial⟩
    ·
      try dsimp +instances only
      refine zO.gd (by omega) ?_
      try dsimp +instances only
      generalize hv_v_62 : σ 52 x6 = v_62
      refine zO.bindp (g_b_meet_sp) (fun r_65 p_65 => ?_)
      try dsimp +instances only
      refine zO.ite (fun c_7 => ?_) (fun c_7 => ?_)
      ·
        try dsimp +instances only
        unfold g_c_explain_L135
        try dsimp +instances only
        try have ew_8 := w32_id (x := x6 + 1) (by omega) (by omega)
        exact g_c_explain_L35_sp n x5 (w32 (x6 + 1)) σ H F (by omega) (by omega)
      ·
        try dsimp +instances only
        refine zO.bind (g_jStringBuilder_append_302_sp (by decide) H (by omega)) (fun r_78 t_78 p_78 => ?_)
        obtain ⟨H_78, G_78, q_78⟩ := p_78
        try dsimp +instances only
        have F_78 := F.trans (fr.mono G_78 (fun a j h => ffl (ffr (ffr (ffr h)))))
        refine zO.gd (by omega) ?_
        try dsimp +instances only
        generalize hv_v_93 : t_78 51 x6 = v_93
        have rv_v_93 := CI.cy (a := 51) (j := x6) H_78 (by omega)
        rw [hv_v_93] at rv_v_93
        refine zO.bind (g_jStringBuilder_append_304_sp H_78 (by omega)) (fun r_94 t_94 p_94 => ?_)
        obtain ⟨H_94, G_94, q_94⟩ := p_94
        try dsimp +instances only
        have F_94 := F_78.trans (fr.mono G_94 (fun a j h => ffl (ffr (ffr h))))
        refine zO.bind (g_jStringBuilder_append_303_sp H_94 (by omega)) (fun r_99 t_99 p_99 => ?_)
        obtain ⟨H_99, G_99, q_99⟩ := p_99
        try dsimp +instances only
        have F_99 := F_94.trans (fr.mono G_99 (fun a j h => ffl (ffr (ffr (ffr (ffr h))))))
        refine zO.gd (by omega) ?_
        try dsimp +instances only
        generalize hv_v_116 : t_99 52 x6 = v_116
        refine zO.bindp (g_b_common_sp) (fun r_119 p_119 => ?_)
        try dsimp +instances only
        refine zO.bind (g_c_spellBox_sp H_99 (by omega)) (fun r_122 t_122 p_122 => ?_)
        obtain ⟨H_122, G_122, q_122⟩ := p_122
        try dsimp +instances only
        have F_122 := F_99.trans (fr.mono G_122 (fun a j h => ffl (ffr (ffr (ffr (ffr (ffr h)))))))
        refine zO.bind (g_jStringBuilder_append_303_sp H_122 (by omega)) (fun r_131 t_131 p_131 => ?_)
        obtain ⟨H_131, G_131, q_131⟩ := p_131
        try dsimp +instances only
        have F_131 := F_122.trans (fr.mono G_131 (fun a j h => ffl (ffr (ffr (ffr (ffr h))))))
        unfold g_c_explain_L135
        try dsimp +instances only
        try have ew_15 := w32_id (x := x6 + 1) (by omega) (by omega)
        exact g_c_explain_L35_sp n x5 (w32 (x6 + 1)) t_131 H_131 F_131 (by omega) (by omega)
theorem g_c_explain_sp {x1 : Int} {x2 : Int} {x3 : Int} {x4 : Int} {σ : zS} (H : CI σ) : zO (g_c_explain x1 x2 x3 x4 σ) (fun v s => CI s ∧ fr (fw_c_explain) σ s ∧ (True)) := by
  have F : fr (fw_c_explain) σ σ := fr.refl σ
  unfold g_c_explain
  try dsimp +instances only
  refine zO.bindp (g_b_isBox_sp) (fun r_5 p_5 => ?_)
  try dsimp +instances only
  refine zO.ite (fun c_17 => ?_) (fun c_17 => ?_)
  ·
    try dsimp +instances only
    refine zO.bindp (g_b_of_sp) (fun r_19 p_19 => ?_)
    try dsimp +instances only
    refine zO.bind (g_jStringBuilder_setLength_sp H (by omega)) (fun r_29 t_29 p_29 => ?_)
    obtain ⟨H_29, G_29, q_29⟩ := p_29
    try dsimp +instances only
    have F_29 := F.trans (fr.mono G_29 (fun a j h => ffl (ffr (ffr (ffr (ffr (ffr (ffr h))))))))
    exact g_c_explain_L35_sp zK r_19 0 t_29 H_29 F_29 (by omega) (by show _ < (1000000 : Int); omega)
  ·
    try dsimp +instances only
    exact zO.ret ⟨H, F, trivial⟩
theorem g_c_paper_sp {x1 : Int} {σ : zS} (H : CI σ) : zOp (g_c_paper x1 σ) σ (fun v => True) := by
  unfold g_c_paper
  try dsimp +instances only
  refine zOp.ite (fun c_1 => ?_) (fun c_1 => ?_)
  ·
    try dsimp +instances only
    exact zOp.ret trivial
  ·
    try dsimp +instances only
    refine zOp.bindp (g_jStringBuilder_length_sp H) (fun r_9 p_9 => ?_)
    try dsimp +instances only
    refine zOp.ite (fun c_3 => ?_) (fun c_3 => ?_)
    ·
      try dsimp +instances only
      exact zOp.ret trivial
    ·
      try dsimp +instances only
      refine zOp.bindp (g_jStringBuilder_charAt_sp H (by omega)) (fun r_20 p_20 => ?_)
      try dsimp +instances only
      exact zOp.ret trivial
def fw_c_query (a : Nat) (j : Int) : Bool := (fw_c_done a j) || false
theorem g_c_query_sp {x1 : Int} {x2 : Int} {x3 : Int} {x4 : Int} {x5 : Int} {σ : zS} (H : CI σ) : zO (g_c_query x1 x2 x3 x4 x5 σ) (fun v s => CI s ∧ fr (fw_c_query) σ s ∧ (True)) := by
  have F : fr (fw_c_query) σ σ := fr.refl σ
  unfold g_c_query
  try dsimp +instances only
  refine zO.bindp (g_fi_isMeasure_sp) (fun r_1 p_1 => ?_)
  try dsimp +instances only
  refine zO.ite (fun c_2 => ?_) (fun c_2 => ?_)
  ·
    try dsimp +instances only
    exact zO.ret ⟨H, F, trivial⟩
  ·
    try dsimp +instances only
    refine zO.bindp (g_b_isBox_sp) (fun r_13 p_13 => ?_)
    try dsimp +instances only
    refine zO.ite (fun c_4 => ?_) (fun c_4 => ?_)
    ·
      try dsimp +instances only
      refine zO.bindp (g_b_of_sp) (fun r_31 p_31 => ?_)
      try dsimp +instances only
      refine zO.bind (g_c_done_sp H) (fun r_37 t_37 p_37 => ?_)
      obtain ⟨H_37, G_37, q_37⟩ := p_37
      try dsimp +instances only
      have F_37 := F.trans (fr.mono G_37 (fun a j h => ffl h))
      exact zO.ret ⟨H_37, F_37, trivial⟩
    ·
      try dsimp +instances only
      exact zO.ret ⟨H, F, trivial⟩
theorem g_c_find_sp {x1 : Int} {σ : zS} (H : CI σ) : zOp (g_c_find x1 σ) σ (fun v => True) := by
  unfold g_c_find
  try dsimp +instances only
  refine zOp.ite (fun c_1 => ?_) (fun c_1 => ?_)
  ·
    try dsimp +instances only
    refine zOp.ite (fun c_2 => ?_) (fun c_2 => ?_)
    ·
      try dsimp +instances only
      exact zOp.ret trivial
    ·
      try dsimp +instances only
      generalize hv_v_28 : σ 60 2 = v_28
      have rv_v_28 := CI.cf (a := 60) H (by omega)
      rw [hv_v_28] at rv_v_28
      refine zOp.ite (fun c_3 => ?_) (fun c_3 => ?_)
      ·
        try dsimp +instances only
        exact zOp.ret trivial
      ·
        try dsimp +instances only
        refine zOp.gd (by omega) ?_
        try dsimp +instances only
        generalize hv_v_45 : σ 61 x1 = v_45
        exact zOp.ret trivial
  ·
    try dsimp +instances only
    generalize hv_v_12 : σ 60 2 = v_12
    have rv_v_12 := CI.cf (a := 60) H (by omega)
    rw [hv_v_12] at rv_v_12
    exact zOp.ret trivial
def fw_c_addPiece (a : Nat) (j : Int) : Bool := (fw_bs_add 131 a j) || ((a == 133) || false)
theorem g_c_addPiece_sp {x1 : Int} {x2 : Int} {σ : zS} (H : CI σ) : zO (g_c_addPiece x1 x2 σ) (fun v s => CI s ∧ fr (fw_c_addPiece) σ s ∧ (True)) := by
  have F : fr (fw_c_addPiece) σ σ := fr.refl σ
  unfold g_c_addPiece
  try dsimp +instances only
  generalize hv_v_4 : σ 131 1 = v_4
  have rv_v_4 := CI.c1 (a := 131) H (by omega)
  rw [hv_v_4] at rv_v_4
  refine zO.ite (fun c_1 => ?_) (fun c_1 => ?_)
  ·
    try dsimp +instances only
    unfold g_c_addPiece_L28
    try dsimp +instances only
    refine zO.bind (g_bs_add_sp (by omega) H) (fun r_33 t_33 p_33 => ?_)
    obtain ⟨H_33, G_33, q_33⟩ := p_33
    try dsimp +instances only
    have F_33 := F.trans (fr.mono G_33 (fun a j h => ffl h))
    exact zO.ret ⟨H_33, F_33, trivial⟩
  ·
    try dsimp +instances only
    refine zO.gd (by omega) ?_
    try dsimp +instances only
    generalize hs_s_27 : zu σ 133 v_4 x2 = s_27
    have H_27 : CI s_27 := by rw [← hs_s_27]; exact CI_zun H (by omega) (by omega) rfl
    have F_27 : fr (fw_c_addPiece) σ s_27 := by rw [← hs_s_27]; exact fr.zu F (by omega) (br (bl (beq_self_eq_true _)))
    unfold g_c_addPiece_L28
    try dsimp +instances only
    refine zO.bind (g_bs_add_sp (by omega) H_27) (fun r_33 t_33 p_33 => ?_)
    obtain ⟨H_33, G_33, q_33⟩ := p_33
    try dsimp +instances only
    have F_33 := F_27.trans (fr.mono G_33 (fun a j h => ffl h))
    exact zO.ret ⟨H_33, F_33, trivial⟩
def fw_c_probe (a : Nat) (j : Int) : Bool := (fw_c_addPiece a j) || ((fw_ca_missingOf 48 a j) || (((a == 131 && j == 1)) || false))
set_option maxHeartbeats 4000000 in
theorem g_c_probe_L129_sp {σ0 : zS} : ∀ (n : Nat) (x7 : Int) (σ : zS), CI σ → fr (fw_c_probe) σ0 σ → (0 ≤ x7 ∧ x7 ≤ 181) → (181 - x7) < (n : Int) → zO (g_c_probe_L129 n x7 σ) (fun v s => CI s ∧ fr (fw_c_probe) σ0 s ∧ (True))
  | 0, _, σ, _, _, hi, hm => by exfalso; omega
  | n + 1, x7, σ, H, F, hi, hm => by
    unfold g_c_probe_L129
    try dsimp +instances only
    generalize hv_v_133 : σ 56 1 = v_133
    have rv_v_133 := CI.c1 (a := 56) H (by omega)
    rw [hv_v_133] at rv_v_133
    refine zO.ite (fun c_1 => ?_) (fun c_1 => ?_)
    ·
      try dsimp +instances only
      generalize hv_v_162 : σ 131 1 = v_162
      have rv_v_162 := CI.c1 (a := 131) H (by omega)
      rw [hv_v_162] at rv_v_162
      exact zO.ret ⟨H, F, trivial⟩
    ·
      try dsimp +instances only
      refine zO.bindp (g_bs_at_sp (by omega) H) (fun r_144 p_144 => ?_)
      try dsimp +instances only
      refine zO.bind (g_c_addPiece_sp H) (fun r_149 t_149 p_149 => ?_)
      obtain ⟨H_149, G_149, q_149⟩ := p_149
      try dsimp +instances only
      have F_149 := F.trans (fr.mono G_149 (fun a j h => ffl h))
      try have ew_4 := w32_id (x := x7 + 1) (by omega) (by omega)
      exact g_c_probe_L129_sp n (w32 (x7 + 1)) t_149 H_149 F_149 (by omega) (by omega)
set_option maxHeartbeats 4000000 in
theorem g_c_probe_L35_sp {σ0 : zS} : ∀ (n : Nat) (x5 : Int) (x6 : Int) (σ : zS), CI σ → fr (fw_c_probe) σ0 σ → (0 ≤ x6 ∧ x6 ≤ 181) → (181 - x6) < (n : Int) → zO (g_c_probe_L35 n x5 x6 σ) (fun v s => CI s ∧ fr (fw_c_probe) σ0 s ∧ (True))
  | 0, _, _, σ, _, _, hi, hm => by exfalso; omega
  | n + 1, x5, x6, σ, H, F, hi, hm => by
    unfold g_c_probe_L35
    try dsimp +instances only
    generalize hv_v_44 : σ 48 2 = v_44
    have rv_v_44 := CI.c2 (a := 48) H (by omega)
    rw [hv_v_44] at rv_v_44
    refine zO.ite (fun c_5 => ?_) (fun c_5 => ?_)
    ·
      try dsimp +instances only
      refine zO.bind (g_ca_missingOf_sp (by omega) H) (fun r_121 t_121 p_121 => ?_)
      obtain ⟨H_121, G_121, q_121⟩ := p_121
      try dsimp +instances only
      have F_121 := F.trans (fr.mono G_121 (fun a j h => ffl (ffr h)))
      exact g_c_probe_L129_sp zK 0 t_121 H_121 F_121 (by omega) (by show _ < (1000000 : Int); omega)
    ·
      try dsimp +instances only
      refine zO.gd (by omega) ?_
      try dsimp +instances only
      generalize hv_v_62 : σ 52 x6 = v_62
      refine zO.bindp (g_b_meet_sp) (fun r_65 p_65 => ?_)
      try dsimp +instances only
      refine zO.ite (fun c_8 => ?_) (fun c_8 => ?_)
      ·
        try dsimp +instances only
        unfold g_c_probe_L106
        try dsimp +instances only
        try have ew_9 := w32_id (x := x6 + 1) (by omega) (by omega)
        exact g_c_probe_L35_sp n x5 (w32 (x6 + 1)) σ H F (by omega) (by omega)
      ·
        try dsimp +instances only
        refine zO.gd (by omega) ?_
        try dsimp +instances only
        generalize hv_v_84 : σ 52 x6 = v_84
        refine zO.bindp (g_b_common_sp) (fun r_87 p_87 => ?_)
        try dsimp +instances only
        refine zO.gd (by omega) ?_
        try dsimp +instances only
        generalize hv_v_102 : σ 51 x6 = v_102
        have rv_v_102 := CI.cy (a := 51) (j := x6) H (by omega)
        rw [hv_v_102] at rv_v_102
        refine zO.bind (g_c_addPiece_sp H) (fun r_103 t_103 p_103 => ?_)
        obtain ⟨H_103, G_103, q_103⟩ := p_103
        try dsimp +instances only
        have F_103 := F.trans (fr.mono G_103 (fun a j h => ffl h))
        unfold g_c_probe_L106
        try dsimp +instances only
        try have ew_12 := w32_id (x := x6 + 1) (by omega) (by omega)
        exact g_c_probe_L35_sp n x5 (w32 (x6 + 1)) t_103 H_103 F_103 (by omega) (by omega)
theorem g_c_probe_sp {x1 : Int} {x2 : Int} {x3 : Int} {x4 : Int} {σ : zS} (H : CI σ) : zO (g_c_probe x1 x2 x3 x4 σ) (fun v s => CI s ∧ fr (fw_c_probe) σ s ∧ (True)) := by
  have F : fr (fw_c_probe) σ σ := fr.refl σ
  unfold g_c_probe
  try dsimp +instances only
  refine zO.bindp (g_b_isBox_sp) (fun r_5 p_5 => ?_)
  try dsimp +instances only
  refine zO.ite (fun c_14 => ?_) (fun c_14 => ?_)
  ·
    try dsimp +instances only
    refine zO.bindp (g_b_of_sp) (fun r_19 p_19 => ?_)
    try dsimp +instances only
    generalize hs_s_29 : zu σ 131 1 0 = s_29
    have H_29 : CI s_29 := by rw [← hs_s_29]; exact CI_zuy H (by omega) (by omega) (lo := 0) (hi := 181) rfl (by omega) (by omega)
    have F_29 : fr (fw_c_probe) σ s_29 := by rw [← hs_s_29]; exact fr.zu F (by omega) (br (br (bl (zbb _ _))))
    exact g_c_probe_L35_sp zK r_19 0 s_29 H_29 F_29 (by omega) (by show _ < (1000000 : Int); omega)
  ·
    try dsimp +instances only
    exact zO.ret ⟨H, F, trivial⟩
theorem g_c_piece_sp {x1 : Int} {x2 : Int} {σ : zS} (H : CI σ) : zOp (g_c_piece x1 x2 σ) σ (fun v => True) := by
  unfold g_c_piece
  try dsimp +instances only
  refine zOp.ite (fun c_1 => ?_) (fun c_1 => ?_)
  ·
    try dsimp +instances only
    exact zOp.ret trivial
  ·
    try dsimp +instances only
    generalize hv_v_9 : σ 131 1 = v_9
    have rv_v_9 := CI.c1 (a := 131) H (by omega)
    rw [hv_v_9] at rv_v_9
    refine zOp.ite (fun c_2 => ?_) (fun c_2 => ?_)
    ·
      try dsimp +instances only
      exact zOp.ret trivial
    ·
      try dsimp +instances only
      refine zOp.ite (fun c_3 => ?_) (fun c_3 => ?_)
      ·
        try dsimp +instances only
        exact zOp.ret trivial
      ·
        try dsimp +instances only
        refine zOp.ite (fun c_4 => ?_) (fun c_4 => ?_)
        ·
          try dsimp +instances only
          refine zOp.ite (fun c_5 => ?_) (fun c_5 => ?_)
          ·
            try dsimp +instances only
            refine zOp.gd (by omega) ?_
            try dsimp +instances only
            generalize hv_v_51 : σ 133 x1 = v_51
            exact zOp.ret trivial
          ·
            try dsimp +instances only
            refine zOp.bindp (g_bs_at_sp (by omega) H) (fun r_36 p_36 => ?_)
            try dsimp +instances only
            refine zOp.bindp (g_b_side_sp) (fun r_40 p_40 => ?_)
            try dsimp +instances only
            exact zOp.ret trivial
        ·
          try dsimp +instances only
          exact zOp.ret trivial
theorem g_c_region_sp {x1 : Int} {x2 : Int} {σ : zS} (H : CI σ) : zOp (g_c_region x1 x2 σ) σ (fun v => True) := by
  unfold g_c_region
  try dsimp +instances only
  refine zOp.ite (fun c_1 => ?_) (fun c_1 => ?_)
  ·
    try dsimp +instances only
    exact zOp.ret trivial
  ·
    try dsimp +instances only
    generalize hv_v_14 : σ 48 2 = v_14
    have rv_v_14 := CI.c2 (a := 48) H (by omega)
    rw [hv_v_14] at rv_v_14
    refine zOp.ite (fun c_2 => ?_) (fun c_2 => ?_)
    ·
      try dsimp +instances only
      exact zOp.ret trivial
    ·
      try dsimp +instances only
      refine zOp.ite (fun c_3 => ?_) (fun c_3 => ?_)
      ·
        try dsimp +instances only
        exact zOp.ret trivial
      ·
        try dsimp +instances only
        refine zOp.ite (fun c_4 => ?_) (fun c_4 => ?_)
        ·
          try dsimp +instances only
          refine zOp.ite (fun c_5 => ?_) (fun c_5 => ?_)
          ·
            try dsimp +instances only
            refine zOp.ite (fun c_6 => ?_) (fun c_6 => ?_)
            ·
              try dsimp +instances only
              refine zOp.ite (fun c_7 => ?_) (fun c_7 => ?_)
              ·
                try dsimp +instances only
                refine zOp.ite (fun c_8 => ?_) (fun c_8 => ?_)
                ·
                  try dsimp +instances only
                  refine zOp.ite (fun c_9 => ?_) (fun c_9 => ?_)
                  ·
                    try dsimp +instances only
                    refine zOp.gd (by omega) ?_
                    try dsimp +instances only
                    generalize hv_v_132 : σ 52 x1 = v_132
                    refine zOp.bindp (g_ca_costOf_sp (by omega)) (fun r_133 p_133 => ?_)
                    try dsimp +instances only
                    exact zOp.ret trivial
                  ·
                    try dsimp +instances only
                    refine zOp.gd (by omega) ?_
                    try dsimp +instances only
                    generalize hv_v_119 : σ 52 x1 = v_119
                    refine zOp.bindp (g_ca_sizeOf_sp (by omega)) (fun r_120 p_120 => ?_)
                    try dsimp +instances only
                    exact zOp.ret trivial
                ·
                  try dsimp +instances only
                  refine zOp.gd (by omega) ?_
                  try dsimp +instances only
                  generalize hv_v_83 : σ 54 x1 = v_83
                  refine zOp.ite (fun c_12 => ?_) (fun c_12 => ?_)
                  ·
                    try dsimp +instances only
                    refine zOp.gd (by omega) ?_
                    try dsimp +instances only
                    try have ew_13 := w32_id (x := x2 - 6) (by omega) (by omega)
                    refine zOp.bindp (g_b_side_sp) (fun r_103 p_103 => ?_)
                    try dsimp +instances only
                    exact zOp.ret trivial
                  ·
                    try dsimp +instances only
                    exact zOp.ret trivial
              ·
                try dsimp +instances only
                refine zOp.gd (by omega) ?_
                try dsimp +instances only
                generalize hv_v_70 : σ 53 x1 = v_70
                exact zOp.ret trivial
            ·
              try dsimp +instances only
              refine zOp.gd (by omega) ?_
              try dsimp +instances only
              generalize hv_v_58 : σ 51 x1 = v_58
              have rv_v_58 := CI.cy (a := 51) (j := x1) H (by omega)
              rw [hv_v_58] at rv_v_58
              exact zOp.ret trivial
          ·
            try dsimp +instances only
            refine zOp.gd (by omega) ?_
            try dsimp +instances only
            generalize hv_v_42 : σ 52 x1 = v_42
            refine zOp.bindp (g_b_side_sp) (fun r_44 p_44 => ?_)
            try dsimp +instances only
            exact zOp.ret trivial
        ·
          try dsimp +instances only
          exact zOp.ret trivial
theorem g_c_weight_sp {x1 : Int} {σ : zS} (H : CI σ) : zOp (g_c_weight x1 σ) σ (fun v => True) := by
  unfold g_c_weight
  try dsimp +instances only
  refine zOp.ite (fun c_1 => ?_) (fun c_1 => ?_)
  ·
    try dsimp +instances only
    exact zOp.ret trivial
  ·
    try dsimp +instances only
    generalize hv_v_12 : σ 48 2 = v_12
    have rv_v_12 := CI.c2 (a := 48) H (by omega)
    rw [hv_v_12] at rv_v_12
    refine zOp.ite (fun c_2 => ?_) (fun c_2 => ?_)
    ·
      try dsimp +instances only
      exact zOp.ret trivial
    ·
      try dsimp +instances only
      refine zOp.gd (by omega) ?_
      try dsimp +instances only
      generalize hv_v_29 : σ 55 x1 = v_29
      exact zOp.ret trivial
theorem g_c_told_sp {x1 : Int} {σ : zS} (H : CI σ) : zOp (g_c_told x1 σ) σ (fun v => True) := by
  unfold g_c_told
  try dsimp +instances only
  refine zOp.ite (fun c_1 => ?_) (fun c_1 => ?_)
  ·
    try dsimp +instances only
    generalize hv_v_67 : σ 48 2 = v_67
    have rv_v_67 := CI.c2 (a := 48) H (by omega)
    rw [hv_v_67] at rv_v_67
    exact zOp.ret trivial
  ·
    try dsimp +instances only
    refine zOp.ite (fun c_2 => ?_) (fun c_2 => ?_)
    ·
      try dsimp +instances only
      refine zOp.bindp (g_ca_sizes_sp (by omega) H) (fun r_79 p_79 => ?_)
      try dsimp +instances only
      exact zOp.ret trivial
    ·
      try dsimp +instances only
      refine zOp.ite (fun c_4 => ?_) (fun c_4 => ?_)
      ·
        try dsimp +instances only
        generalize hv_v_91 : σ 48 10 = v_91
        exact zOp.ret trivial
      ·
        try dsimp +instances only
        refine zOp.ite (fun c_5 => ?_) (fun c_5 => ?_)
        ·
          try dsimp +instances only
          generalize hv_v_103 : σ 48 11 = v_103
          exact zOp.ret trivial
        ·
          try dsimp +instances only
          refine zOp.ite (fun c_6 => ?_) (fun c_6 => ?_)
          ·
            try dsimp +instances only
            generalize hv_v_115 : σ 48 12 = v_115
            exact zOp.ret trivial
          ·
            try dsimp +instances only
            refine zOp.ite (fun c_7 => ?_) (fun c_7 => ?_)
            ·
              try dsimp +instances only
              generalize hv_v_127 : σ 48 13 = v_127
              exact zOp.ret trivial
            ·
              try dsimp +instances only
              refine zOp.ite (fun c_8 => ?_) (fun c_8 => ?_)
              ·
                try dsimp +instances only
                generalize hv_v_139 : σ 48 14 = v_139
                exact zOp.ret trivial
              ·
                try dsimp +instances only
                refine zOp.ite (fun c_9 => ?_) (fun c_9 => ?_)
                ·
                  try dsimp +instances only
                  generalize hv_v_151 : σ 48 15 = v_151
                  exact zOp.ret trivial
                ·
                  try dsimp +instances only
                  refine zOp.ite (fun c_10 => ?_) (fun c_10 => ?_)
                  ·
                    try dsimp +instances only
                    generalize hv_v_163 : σ 48 9 = v_163
                    exact zOp.ret trivial
                  ·
                    try dsimp +instances only
                    refine zOp.ite (fun c_11 => ?_) (fun c_11 => ?_)
                    ·
                      try dsimp +instances only
                      generalize hv_v_174 : σ 41 4 = v_174
                      have rv_v_174 := CI.c4 (a := 41) H (by omega)
                      rw [hv_v_174] at rv_v_174
                      exact zOp.ret trivial
                    ·
                      try dsimp +instances only
                      refine zOp.ite (fun c_12 => ?_) (fun c_12 => ?_)
                      ·
                        try dsimp +instances only
                        refine zOp.bindp (g_jStringBuilder_length_sp H) (fun r_183 p_183 => ?_)
                        try dsimp +instances only
                        exact zOp.ret trivial
                      ·
                        try dsimp +instances only
                        exact zOp.ret trivial
def fw_c_flush (a : Nat) (j : Int) : Bool := ((a == 48 && j == 2)) || false
theorem g_c_flush_sp {σ : zS} (H : CI σ) : zO (g_c_flush σ) (fun v s => CI s ∧ fr (fw_c_flush) σ s ∧ (True)) := by
  have F : fr (fw_c_flush) σ σ := fr.refl σ
  unfold g_c_flush
  try dsimp +instances only
  generalize hv_v_7 : σ 48 2 = v_7
  have rv_v_7 := CI.c2 (a := 48) H (by omega)
  rw [hv_v_7] at rv_v_7
  generalize hs_s_19 : zu σ 48 2 0 = s_19
  have H_19 : CI s_19 := by rw [← hs_s_19]; exact CI_zuy H (by omega) (by omega) (lo := 0) (hi := 181) rfl (by omega) (by omega)
  have F_19 : fr (fw_c_flush) σ s_19 := by rw [← hs_s_19]; exact fr.zu F (by omega) (bl (zbb _ _))
  exact zO.ret ⟨H_19, F_19, trivial⟩
theorem g_c_keep_sp {x1 : Int} {σ : zS} (H : CI σ) : zOp (g_c_keep x1 σ) σ (fun v => True) := by
  unfold g_c_keep
  try dsimp +instances only
  refine zOp.ite (fun c_1 => ?_) (fun c_1 => ?_)
  ·
    try dsimp +instances only
    refine zOp.bindp (g_ca_bestSet_sp (by omega) H) (fun r_17 p_17 => ?_)
    try dsimp +instances only
    exact zOp.ret trivial
  ·
    try dsimp +instances only
    exact zOp.ret trivial
def fw_c_trace (a : Nat) (j : Int) : Bool := (fw_bs_add 63 a j) || (((a == 63 && j == 1)) || false)
theorem g_c_trace_sp {x1 : Int} {x2 : Int} {x3 : Int} {x4 : Int} {σ : zS} (H : CI σ) : zO (g_c_trace x1 x2 x3 x4 σ) (fun v s => CI s ∧ fr (fw_c_trace) σ s ∧ (True)) := by
  have F : fr (fw_c_trace) σ σ := fr.refl σ
  unfold g_c_trace
  try dsimp +instances only
  refine zO.ite (fun c_1 => ?_) (fun c_1 => ?_)
  ·
    try dsimp +instances only
    refine zO.bindp (g_b_isBox_sp) (fun r_23 p_23 => ?_)
    try dsimp +instances only
    refine zO.ite (fun c_3 => ?_) (fun c_3 => ?_)
    ·
      try dsimp +instances only
      refine zO.bindp (g_b_of_sp) (fun r_44 p_44 => ?_)
      try dsimp +instances only
      refine zO.bind (g_bs_add_sp (by omega) H) (fun r_47 t_47 p_47 => ?_)
      obtain ⟨H_47, G_47, q_47⟩ := p_47
      try dsimp +instances only
      have F_47 := F.trans (fr.mono G_47 (fun a j h => ffl h))
      refine zO.ite (fun c_6 => ?_) (fun c_6 => ?_)
      ·
        try dsimp +instances only
        exact zO.ret ⟨H_47, F_47, trivial⟩
      ·
        try dsimp +instances only
        generalize hv_v_60 : t_47 63 1 = v_60
        have rv_v_60 := CI.c1 (a := 63) H_47 (by omega)
        rw [hv_v_60] at rv_v_60
        exact zO.ret ⟨H_47, F_47, trivial⟩
    ·
      try dsimp +instances only
      exact zO.ret ⟨H, F, trivial⟩
  ·
    try dsimp +instances only
    generalize hs_s_13 : zu σ 63 1 0 = s_13
    have H_13 : CI s_13 := by rw [← hs_s_13]; exact CI_zuy H (by omega) (by omega) (lo := 0) (hi := 181) rfl (by omega) (by omega)
    have F_13 : fr (fw_c_trace) σ s_13 := by rw [← hs_s_13]; exact fr.zu F (by omega) (br (bl (zbb _ _)))
    exact zO.ret ⟨H_13, F_13, trivial⟩
def fw_c_doAgain (a : Nat) (j : Int) : Bool := (fw_ca_serve 106 a j) || ((fw_ca_forgetAll 106 a j) || ((fw_se_copyFrom 107 49 a j) || ((fw_se_become 107 a j) || false)))
set_option maxHeartbeats 4000000 in
theorem g_c_doAgain_L41_sp {σ0 : zS} : ∀ (n : Nat) (x2 : Int) (σ : zS), CI σ → fr (fw_c_doAgain) σ0 σ → (0 ≤ x2 ∧ x2 ≤ 181) → (181 - x2) < (n : Int) → zO (g_c_doAgain_L41 n x2 σ) (fun v s => CI s ∧ fr (fw_c_doAgain) σ0 s ∧ (True))
  | 0, _, σ, _, _, hi, hm => by exfalso; omega
  | n + 1, x2, σ, H, F, hi, hm => by
    unfold g_c_doAgain_L41
    try dsimp +instances only
    generalize hv_v_49 : σ 63 1 = v_49
    have rv_v_49 := CI.c1 (a := 63) H (by omega)
    rw [hv_v_49] at rv_v_49
    refine zO.ite (fun c_1 => ?_) (fun c_1 => ?_)
    ·
      try dsimp +instances only
      exact zO.ret ⟨H, F, trivial⟩
    ·
      try dsimp +instances only
      refine zO.bindp (g_bs_at_sp (by omega) H) (fun r_67 p_67 => ?_)
      try dsimp +instances only
      refine zO.bind (g_ca_serve_sp (by omega) H) (fun r_70 t_70 p_70 => ?_)
      obtain ⟨H_70, G_70, q_70⟩ := p_70
      try dsimp +instances only
      have F_70 := F.trans (fr.mono G_70 (fun a j h => ffl h))
      try have ew_4 := w32_id (x := x2 + 1) (by omega) (by omega)
      exact g_c_doAgain_L41_sp n (w32 (x2 + 1)) t_70 H_70 F_70 (by omega) (by omega)
theorem g_c_doAgain_sp {x1 : Int} {σ : zS} (H : CI σ) : zO (g_c_doAgain x1 σ) (fun v s => CI s ∧ fr (fw_c_doAgain) σ s ∧ (True)) := by
  have F : fr (fw_c_doAgain) σ σ := fr.refl σ
  unfold g_c_doAgain
  try dsimp +instances only
  refine zO.bind (g_ca_forgetAll_sp (by omega) H) (fun r_4 t_4 p_4 => ?_)
  obtain ⟨H_4, G_4, q_4⟩ := p_4
  try dsimp +instances only
  have F_4 := F.trans (fr.mono G_4 (fun a j h => ffl (ffr h)))
  refine zO.bind (g_se_copyFrom_sp (by omega) (by omega) H_4) (fun r_24 t_24 p_24 => ?_)
  obtain ⟨H_24, G_24, q_24⟩ := p_24
  try dsimp +instances only
  have F_24 := F_4.trans (fr.mono G_24 (fun a j h => ffl (ffr (ffr h))))
  refine zO.bind (g_se_become_sp (by omega) H_24) (fun r_36 t_36 p_36 => ?_)
  obtain ⟨H_36, G_36, q_36⟩ := p_36
  try dsimp +instances only
  have F_36 := F_24.trans (fr.mono G_36 (fun a j h => ffl (ffr (ffr (ffr h)))))
  exact g_c_doAgain_L41_sp zK 0 t_36 H_36 F_36 (by omega) (by show _ < (1000000 : Int); omega)
def fw_c_again (a : Nat) (j : Int) : Bool := (fw_c_doAgain a j) || false
theorem g_c_again_sp {x1 : Int} {x2 : Int} {σ : zS} (H : CI σ) : zO (g_c_again x1 x2 σ) (fun v s => CI s ∧ fr (fw_c_again) σ s ∧ (True)) := by
  have F : fr (fw_c_again) σ σ := fr.refl σ
  unfold g_c_again
  try dsimp +instances only
  refine zO.ite (fun c_1 => ?_) (fun c_1 => ?_)
  ·
    try dsimp +instances only
    exact zO.ret ⟨H, F, trivial⟩
  ·
    try dsimp +instances only
    refine zO.ite (fun c_2 => ?_) (fun c_2 => ?_)
    ·
      try dsimp +instances only
      refine zO.ite (fun c_3 => ?_) (fun c_3 => ?_)
      ·
        try dsimp +instances only
        exact zO.ret ⟨H, F, trivial⟩
      ·
        try dsimp +instances only
        refine zO.ite (fun c_4 => ?_) (fun c_4 => ?_)
        ·
          try dsimp +instances only
          refine zO.bind (g_c_doAgain_sp H) (fun r_27 t_27 p_27 => ?_)
          obtain ⟨H_27, G_27, q_27⟩ := p_27
          try dsimp +instances only
          have F_27 := F.trans (fr.mono G_27 (fun a j h => ffl h))
          refine zO.ite (fun c_6 => ?_) (fun c_6 => ?_)
          ·
            try dsimp +instances only
            generalize hv_v_68 : t_27 106 11 = v_68
            exact zO.ret ⟨H_27, F_27, trivial⟩
          ·
            try dsimp +instances only
            refine zO.ite (fun c_7 => ?_) (fun c_7 => ?_)
            ·
              try dsimp +instances only
              generalize hv_v_76 : t_27 106 10 = v_76
              exact zO.ret ⟨H_27, F_27, trivial⟩
            ·
              try dsimp +instances only
              refine zO.ite (fun c_8 => ?_) (fun c_8 => ?_)
              ·
                try dsimp +instances only
                generalize hv_v_84 : t_27 106 12 = v_84
                exact zO.ret ⟨H_27, F_27, trivial⟩
              ·
                try dsimp +instances only
                refine zO.ite (fun c_9 => ?_) (fun c_9 => ?_)
                ·
                  try dsimp +instances only
                  generalize hv_v_92 : t_27 106 13 = v_92
                  exact zO.ret ⟨H_27, F_27, trivial⟩
                ·
                  try dsimp +instances only
                  refine zO.ite (fun c_10 => ?_) (fun c_10 => ?_)
                  ·
                    try dsimp +instances only
                    generalize hv_v_100 : t_27 106 14 = v_100
                    exact zO.ret ⟨H_27, F_27, trivial⟩
                  ·
                    try dsimp +instances only
                    generalize hv_v_108 : t_27 106 2 = v_108
                    have rv_v_108 := CI.c2 (a := 106) H_27 (by omega)
                    rw [hv_v_108] at rv_v_108
                    exact zO.ret ⟨H_27, F_27, trivial⟩
        ·
          try dsimp +instances only
          exact zO.ret ⟨H, F, trivial⟩
    ·
      try dsimp +instances only
      exact zO.ret ⟨H, F, trivial⟩
def fw_c_least (a : Nat) (j : Int) : Bool := (fw_c_doAgain a j) || false
set_option maxHeartbeats 4000000 in
theorem g_c_least_L2_sp {σ0 : zS} : ∀ (n : Nat) (x1 : Int) (x2 : Int) (σ : zS), CI σ → fr (fw_c_least) σ0 σ → (1 ≤ x2 ∧ x2 ≤ 100) → (100 - x2) < (n : Int) → zO (g_c_least_L2 n x1 x2 σ) (fun v s => CI s ∧ fr (fw_c_least) σ0 s ∧ (True))
  | 0, _, _, σ, _, _, hi, hm => by exfalso; omega
  | n + 1, x1, x2, σ, H, F, hi, hm => by
    unfold g_c_least_L2
    try dsimp +instances only
    refine zO.ite (fun c_1 => ?_) (fun c_1 => ?_)
    ·
      try dsimp +instances only
      exact zO.ret ⟨H, F, trivial⟩
    ·
      try dsimp +instances only
      refine zO.bind (g_c_doAgain_sp H) (fun r_10 t_10 p_10 => ?_)
      obtain ⟨H_10, G_10, q_10⟩ := p_10
      try dsimp +instances only
      have F_10 := F.trans (fr.mono G_10 (fun a j h => ffl h))
      generalize hv_v_17 : t_10 106 11 = v_17
      refine zO.ite (fun c_3 => ?_) (fun c_3 => ?_)
      ·
        try dsimp +instances only
        try have ew_4 := w32_id (x := x2 + 1) (by omega) (by omega)
        exact g_c_least_L2_sp n x1 (w32 (x2 + 1)) t_10 H_10 F_10 (by omega) (by omega)
      ·
        try dsimp +instances only
        exact zO.ret ⟨H_10, F_10, trivial⟩
theorem g_c_least_sp {x1 : Int} {σ : zS} (H : CI σ) : zO (g_c_least x1 σ) (fun v s => CI s ∧ fr (fw_c_least) σ s ∧ (True)) := by
  have F : fr (fw_c_least) σ σ := fr.refl σ
  unfold g_c_least
  try dsimp +instances only
  exact g_c_least_L2_sp zK x1 1 σ H F (by omega) (by show _ < (1000000 : Int); omega)
def fw_c_watch (a : Nat) (j : Int) : Bool := (fw_wa_add a j) || false
theorem g_c_watch_sp {x1 : Int} {x2 : Int} {x3 : Int} {x4 : Int} {x5 : Int} {σ : zS} (H : CI σ) : zO (g_c_watch x1 x2 x3 x4 x5 σ) (fun v s => CI s ∧ fr (fw_c_watch) σ s ∧ (True)) := by
  have F : fr (fw_c_watch) σ σ := fr.refl σ
  unfold g_c_watch
  try dsimp +instances only
  refine zO.bindp (g_fi_isMeasure_sp) (fun r_1 p_1 => ?_)
  try dsimp +instances only
  refine zO.ite (fun c_2 => ?_) (fun c_2 => ?_)
  ·
    try dsimp +instances only
    refine zO.bindp (g_b_isBox_sp) (fun r_15 p_15 => ?_)
    try dsimp +instances only
    refine zO.ite (fun c_4 => ?_) (fun c_4 => ?_)
    ·
      try dsimp +instances only
      refine zO.bindp (g_b_of_sp) (fun r_38 p_38 => ?_)
      try dsimp +instances only
      refine zO.bind (g_wa_add_sp H) (fun r_41 t_41 p_41 => ?_)
      obtain ⟨H_41, G_41, q_41⟩ := p_41
      try dsimp +instances only
      have F_41 := F.trans (fr.mono G_41 (fun a j h => ffl h))
      refine zO.ite (fun c_7 => ?_) (fun c_7 => ?_)
      ·
        try dsimp +instances only
        exact zO.ret ⟨H_41, F_41, trivial⟩
      ·
        try dsimp +instances only
        generalize hv_v_54 : t_41 65 5 = v_54
        have rv_v_54 := CI.cw (a := 65) H_41 (by omega)
        rw [hv_v_54] at rv_v_54
        try have ew_8 := w32_id (x := v_54 - 1) (by omega) (by omega)
        exact zO.ret ⟨H_41, F_41, trivial⟩
    ·
      try dsimp +instances only
      exact zO.ret ⟨H, F, trivial⟩
  ·
    try dsimp +instances only
    exact zO.ret ⟨H, F, trivial⟩
def fw_c_value (a : Nat) (j : Int) : Bool := (fw_wa_valueOf a j) || false
theorem g_c_value_sp {x1 : Int} {σ : zS} (H : CI σ) : zO (g_c_value x1 σ) (fun v s => CI s ∧ fr (fw_c_value) σ s ∧ (True)) := by
  have F : fr (fw_c_value) σ σ := fr.refl σ
  unfold g_c_value
  try dsimp +instances only
  refine zO.bindp (g_wa_has_sp H) (fun r_8 p_8 => ?_)
  try dsimp +instances only
  refine zO.ite (fun c_2 => ?_) (fun c_2 => ?_)
  ·
    try dsimp +instances only
    exact zO.ret ⟨H, F, trivial⟩
  ·
    try dsimp +instances only
    refine zO.bind (g_wa_valueOf_sp H) (fun r_29 t_29 p_29 => ?_)
    obtain ⟨H_29, G_29, q_29⟩ := p_29
    try dsimp +instances only
    have F_29 := F.trans (fr.mono G_29 (fun a j h => ffl h))
    exact zO.ret ⟨H_29, F_29, trivial⟩
theorem g_c_changes_sp {x1 : Int} {σ : zS} (H : CI σ) : zOp (g_c_changes x1 σ) σ (fun v => True) := by
  unfold g_c_changes
  try dsimp +instances only
  refine zOp.bindp (g_wa_has_sp H) (fun r_8 p_8 => ?_)
  try dsimp +instances only
  refine zOp.ite (fun c_2 => ?_) (fun c_2 => ?_)
  ·
    try dsimp +instances only
    exact zOp.ret trivial
  ·
    try dsimp +instances only
    refine zOp.gd (by omega) ?_
    try dsimp +instances only
    generalize hv_v_25 : σ 68 x1 = v_25
    exact zOp.ret trivial
def fw_c_list (a : Nat) (j : Int) : Bool := (fw_li_make a j) || false
theorem g_c_list_sp {x1 : Int} {x2 : Int} {σ : zS} (H : CI σ) : zO (g_c_list x1 x2 σ) (fun v s => CI s ∧ fr (fw_c_list) σ s ∧ ((¬ (0 ≤ x1 ∧ x1 < 6) → v = -1) ∧ (0 ≤ x1 ∧ x1 < 6 ∧ 60 < x2 → v = -2) ∧ (0 ≤ x1 ∧ x1 < 6 ∧ x2 < 0 → v = -14) ∧ (0 ≤ x1 ∧ x1 < 6 ∧ 0 ≤ x2 ∧ x2 ≤ 60 → v = 1))) := by
  have F : fr (fw_c_list) σ σ := fr.refl σ
  unfold g_c_list
  try dsimp +instances only
  refine zO.bindp (g_li_isList_sp) (fun r_1 p_1 => ?_)
  try dsimp +instances only
  refine zO.ite (fun c_2 => ?_) (fun c_2 => ?_)
  ·
    try dsimp +instances only
    refine zO.ite (fun c_3 => ?_) (fun c_3 => ?_)
    ·
      try dsimp +instances only
      refine zO.ite (fun c_4 => ?_) (fun c_4 => ?_)
      ·
        try dsimp +instances only
        refine zO.bind (g_li_make_sp H) (fun r_31 t_31 p_31 => ?_)
        obtain ⟨H_31, G_31, q_31⟩ := p_31
        try dsimp +instances only
        have F_31 := F.trans (fr.mono G_31 (fun a j h => ffl h))
        exact zO.ret ⟨H_31, F_31, (by omega)⟩
      ·
        try dsimp +instances only
        exact zO.ret ⟨H, F, (by omega)⟩
    ·
      try dsimp +instances only
      exact zO.ret ⟨H, F, (by omega)⟩
  ·
    try dsimp +instances only
    exact zO.ret ⟨H, F, (by omega)⟩
def fw_c_set (a : Nat) (j : Int) : Bool := ((decide (136 ≤ a) && decide (a ≤ 141))) || false
theorem g_c_set_sp {x1 : Int} {x2 : Int} {y3 : Int} {σ : zS} (H : CI σ) : zO (g_c_set x1 x2 y3 σ) (fun v s => CI s ∧ fr (fw_c_set) σ s ∧ ((¬ (0 ≤ x1 ∧ x1 < 6) → v = -1) ∧ (0 ≤ x1 ∧ x1 < 6 ∧ σ 142 x1 < 0 → v = -11) ∧ (0 ≤ x1 ∧ x1 < 6 ∧ 0 ≤ σ 142 x1 ∧ (0 ≤ x2 ∧ x2 < σ 142 x1) → v = 1) ∧ (0 ≤ x1 ∧ x1 < 6 ∧ 0 ≤ σ 142 x1 ∧ ¬ (0 ≤ x2 ∧ x2 < σ 142 x1) → v = -13))) := by
  have F : fr (fw_c_set) σ σ := fr.refl σ
  unfold g_c_set
  try dsimp +instances only
  refine zO.bindp (g_li_refusal_sp H) (fun r_5 p_5 => ?_)
  try dsimp +instances only
  refine zO.ite (fun c_2 => ?_) (fun c_2 => ?_)
  ·
    try dsimp +instances only
    refine zO.bindp (g_li_hasPlace_sp H) (fun r_24 p_24 => ?_)
    try dsimp +instances only
    refine zO.ite (fun c_4 => ?_) (fun c_4 => ?_)
    ·
      try dsimp +instances only
      refine zO.gd (by omega) ?_
      try dsimp +instances only
      generalize hv_A_41 : 136 + (x1).toNat = A_41
      have rv_A_41 : 136 ≤ A_41 ∧ A_41 ≤ 141 := by omega
      refine zO.gd (by omega) ?_
      try dsimp +instances only
      generalize hs_s_44 : zu σ A_41 x2 y3 = s_44
      have H_44 : CI s_44 := by rw [← hs_s_44]; exact CI_zun H (by omega) (by omega) (rng_row rv_A_41)
      have F_44 : fr (fw_c_set) σ s_44 := by rw [← hs_s_44]; exact fr.zu F (by omega) (bl (row_mem rv_A_41))
      exact zO.ret ⟨H_44, F_44, (by omega)⟩
    ·
      try dsimp +instances only
      exact zO.ret ⟨H, F, (by omega)⟩
  ·
    try dsimp +instances only
    exact zO.ret ⟨H, F, (by omega)⟩
theorem g_c_get_sp {x1 : Int} {x2 : Int} {σ : zS} (H : CI σ) : zOp (g_c_get x1 x2 σ) σ (fun v => True) := by
  unfold g_c_get
  try dsimp +instances only
  refine zOp.bindp (g_li_hasPlace_sp H) (fun r_6 p_6 => ?_)
  try dsimp +instances only
  refine zOp.ite (fun c_2 => ?_) (fun c_2 => ?_)
  ·
    try dsimp +instances only
    exact zOp.ret trivial
  ·
    try dsimp +instances only
    refine zOp.gd (by omega) ?_
    try dsimp +instances only
    generalize hv_A_20 : 136 + (x1).toNat = A_20
    have rv_A_20 : 136 ≤ A_20 ∧ A_20 ≤ 141 := by omega
    refine zOp.gd (by omega) ?_
    try dsimp +instances only
    generalize hv_v_22 : σ A_20 x2 = v_22
    exact zOp.ret trivial
def fw_c_move (a : Nat) (j : Int) : Bool := ((decide (136 ≤ a) && decide (a ≤ 141))) || false
theorem g_c_move_sp {x1 : Int} {x2 : Int} {x3 : Int} {x4 : Int} {x5 : Int} {σ : zS} (H : CI σ) : zO (g_c_move x1 x2 x3 x4 x5 σ) (fun v s => CI s ∧ fr (fw_c_move) σ s ∧ ((¬ (0 ≤ x1 ∧ x1 < 6) → v = -1) ∧ (¬ (0 ≤ x3 ∧ x3 < 6) → v = -1) ∧ (0 ≤ x1 ∧ x1 < 6 ∧ 0 ≤ x3 ∧ x3 < 6 ∧ (σ 142 x1 < 0 ∨ σ 142 x3 < 0) → v = -11) ∧ (0 ≤ x1 ∧ x1 < 6 ∧ 0 ≤ x3 ∧ x3 < 6 ∧ 0 ≤ σ 142 x1 ∧ 0 ≤ σ 142 x3 ∧ (0 ≤ x2 ∧ 0 ≤ x4 ∧ 0 ≤ x5 ∧ x5 ≤ σ 142 x1 - x2 ∧ x5 ≤ σ 142 x3 - x4) → v = x5) ∧ (0 ≤ x1 ∧ x1 < 6 ∧ 0 ≤ x3 ∧ x3 < 6 ∧ 0 ≤ σ 142 x1 ∧ 0 ≤ σ 142 x3 ∧ ¬ (0 ≤ x2 ∧ 0 ≤ x4 ∧ 0 ≤ x5 ∧ x5 ≤ σ 142 x1 - x2 ∧ x5 ≤ σ 142 x3 - x4) → v = -13))) := by
  have F : fr (fw_c_move) σ σ := fr.refl σ
  unfold g_c_move
  try dsimp +instances only
  refine zO.bindp (g_li_isList_sp) (fun r_1 p_1 => ?_)
  try dsimp +instances only
  refine zO.ite (fun c_2 => ?_) (fun c_2 => ?_)
  ·
    try dsimp +instances only
    exact zO.ret ⟨H, F, (by omega)⟩
  ·
    try dsimp +instances only
    refine zO.bindp (g_li_isList_sp) (fun r_8 p_8 => ?_)
    try dsimp +instances only
    refine zO.ite (fun c_4 => ?_) (fun c_4 => ?_)
    ·
      try dsimp +instances only
      refine zO.bindp (g_li_refusal_sp H) (fun r_21 p_21 => ?_)
      try dsimp +instances only
      refine zO.ite (fun c_6 => ?_) (fun c_6 => ?_)
      ·
        try dsimp +instances only
        exact zO.ret ⟨H, F, (by omega)⟩
      ·
        try dsimp +instances only
        refine zO.bindp (g_li_refusal_sp H) (fun r_32 p_32 => ?_)
        try dsimp +instances only
        refine zO.ite (fun c_8 => ?_) (fun c_8 => ?_)
        ·
          try dsimp +instances only
          refine zO.bindp (g_li_hasSpan_sp H) (fun r_49 p_49 => ?_)
          try dsimp +instances only
          refine zO.ite (fun c_10 => ?_) (fun c_10 => ?_)
          ·
            try dsimp +instances only
            exact zO.ret ⟨H, F, (by omega)⟩
          ·
            try dsimp +instances only
            refine zO.bindp (g_li_hasSpan_sp H) (fun r_64 p_64 => ?_)
            try dsimp +instances only
            refine zO.ite (fun c_12 => ?_) (fun c_12 => ?_)
            ·
              try dsimp +instances only
              refine zO.gd (by omega) ?_
              try dsimp +instances only
              generalize hv_A_81 : 136 + (x1).toNat = A_81
              have rv_A_81 : 136 ≤ A_81 ∧ A_81 ≤ 141 := by omega
              refine zO.gd (by omega) ?_
              try dsimp +instances only
              generalize hv_A_91 : 136 + (x3).toNat = A_91
              have rv_A_91 : 136 ≤ A_91 ∧ A_91 ≤ 141 := by omega
              refine zO.gd (by omega) ?_
              try dsimp +instances only
              generalize hs_s_96 : zcp σ A_81 x2 A_91 x4 x5 = s_96
              have H_96 : CI s_96 := by rw [← hs_s_96]; exact CI_zcpn H (by omega) (by omega) (fun j => rng_row rv_A_91)
              have F_96 : fr (fw_c_move) σ s_96 := by rw [← hs_s_96]; exact fr.zcp F (by omega) (fun j => bl (row_mem rv_A_91))
              exact zO.ret ⟨H_96, F_96, (by omega)⟩
            ·
              try dsimp +instances only
              exact zO.ret ⟨H, F, (by omega)⟩
        ·
          try dsimp +instances only
          exact zO.ret ⟨H, F, (by omega)⟩
    ·
      try dsimp +instances only
      exact zO.ret ⟨H, F, (by omega)⟩
def fw_c_lay (a : Nat) (j : Int) : Bool := (fw_li_layFrom a j) || false
theorem g_c_lay_sp {x1 : Int} {x2 : Int} {σ : zS} (H : CI σ) : zO (g_c_lay x1 x2 σ) (fun v s => CI s ∧ fr (fw_c_lay) σ s ∧ (True)) := by
  have F : fr (fw_c_lay) σ σ := fr.refl σ
  unfold g_c_lay
  try dsimp +instances only
  refine zO.bindp (g_li_refusal_sp H) (fun r_5 p_5 => ?_)
  try dsimp +instances only
  refine zO.ite (fun c_2 => ?_) (fun c_2 => ?_)
  ·
    try dsimp +instances only
    refine zO.bind (g_li_layFrom_sp H) (fun r_30 t_30 p_30 => ?_)
    obtain ⟨H_30, G_30, q_30⟩ := p_30
    try dsimp +instances only
    have F_30 := F.trans (fr.mono G_30 (fun a j h => ffl h))
    exact zO.ret ⟨H_30, F_30, trivial⟩
  ·
    try dsimp +instances only
    exact zO.ret ⟨H, F, trivial⟩
theorem g_c_judge_sp {x1 : Int} {x2 : Int} {σ : zS} (H : CI σ) : zOp (g_c_judge x1 x2 σ) σ (fun v => True) := by
  unfold g_c_judge
  try dsimp +instances only
  refine zOp.bindp (g_li_refusal_sp H) (fun r_5 p_5 => ?_)
  try dsimp +instances only
  refine zOp.ite (fun c_2 => ?_) (fun c_2 => ?_)
  ·
    try dsimp +instances only
    refine zOp.bindp (g_li_judgeFrom_sp H) (fun r_30 p_30 => ?_)
    try dsimp +instances only
    exact zOp.ret trivial
  ·
    try dsimp +instances only
    exact zOp.ret trivial
def fw_c_image (a : Nat) (j : Int) : Bool := (fw_st_copyFrom 73 40 a j) || (((a == 39 && j == 2)) || false)
theorem g_c_image_sp {σ : zS} (H : CI σ) : zO (g_c_image σ) (fun v s => CI s ∧ fr (fw_c_image) σ s ∧ (True)) := by
  have F : fr (fw_c_image) σ σ := fr.refl σ
  unfold g_c_image
  try dsimp +instances only
  refine zO.bind (g_st_copyFrom_sp (by omega) (by omega) H) (fun r_8 t_8 p_8 => ?_)
  obtain ⟨H_8, G_8, q_8⟩ := p_8
  try dsimp +instances only
  have F_8 := F.trans (fr.mono G_8 (fun a j h => ffl h))
  generalize hs_s_13 : zu t_8 39 2 1 = s_13
  have H_13 : CI s_13 := by rw [← hs_s_13]; exact CI_zun H_8 (by omega) (by omega) rfl
  have F_13 : fr (fw_c_image) σ s_13 := by rw [← hs_s_13]; exact fr.zu F_8 (by omega) (br (bl (zbb _ _)))
  generalize hv_v_23 : s_13 48 2 = v_23
  have rv_v_23 := CI.c2 (a := 48) H_13 (by omega)
  rw [hv_v_23] at rv_v_23
  exact zO.ret ⟨H_13, F_13, trivial⟩
def fw_c_undo (a : Nat) (j : Int) : Bool := (fw_st_copyFrom 40 73 a j) || false
theorem g_c_undo_sp {σ : zS} (H : CI σ) : zO (g_c_undo σ) (fun v s => CI s ∧ fr (fw_c_undo) σ s ∧ (True)) := by
  have F : fr (fw_c_undo) σ σ := fr.refl σ
  unfold g_c_undo
  try dsimp +instances only
  generalize hv_v_1 : σ 39 2 = v_1
  refine zO.ite (fun c_1 => ?_) (fun c_1 => ?_)
  ·
    try dsimp +instances only
    refine zO.bind (g_st_copyFrom_sp (by omega) (by omega) H) (fun r_18 t_18 p_18 => ?_)
    obtain ⟨H_18, G_18, q_18⟩ := p_18
    try dsimp +instances only
    have F_18 := F.trans (fr.mono G_18 (fun a j h => ffl h))
    generalize hv_v_28 : t_18 48 2 = v_28
    have rv_v_28 := CI.c2 (a := 48) H_18 (by omega)
    rw [hv_v_28] at rv_v_28
    exact zO.ret ⟨H_18, F_18, trivial⟩
  ·
    try dsimp +instances only
    exact zO.ret ⟨H, F, trivial⟩
end
