/-! THE CLASS over the typed memory: each method answers, keeps the invariant, changes what fw_.. names (printed by wip/zv.py) -/
def fw_fi_gather (a0 : Nat) (a : Nat) (j : Int) : Bool := (a == (a0 + 1)) || ((a == (a0 + 2)) || (((a == a0 && j == 2)) || false))
set_option maxHeartbeats 4000000 in
theorem g_fi_gather_L8_sp {a0 : Nat} (ha0 : a0 = 60 ∨ a0 = 70) {σ0 : zS} : ∀ (n : Nat) (y2 : Int) (x4 : Int) (σ : zS), CI σ → fr (fw_fi_gather a0) σ0 σ → (0 ≤ x4 ∧ x4 ≤ 60 ∧ 0 ≤ σ a0 2 ∧ σ a0 2 ≤ x4) → (60 - x4) < (n : Int) → zO (g_fi_gather_L8 a0 n y2 x4 σ) (fun v s => CI s ∧ fr (fw_fi_gather a0) σ0 s ∧ (True))
  | 0, _, _, σ, _, _, hi, hm => by exfalso; omega
  | n + 1, y2, x4, σ, H, F, hi, hm => by
    have ri_a0_2 := CI.cf (a := a0) H (by omega)
    unfold g_fi_gather_L8
    try dsimp +instances only
    generalize hv_v_11 : σ 41 4 = v_11
    have rv_v_11 := CI.c4 (a := 41) H (by omega)
    rw [hv_v_11] at rv_v_11
    refine zO.ite (fun c_1 => ?_) (fun c_1 => ?_)
    ·
      try dsimp +instances only
      exact zO.ret ⟨H, F, trivial⟩
    ·
      try dsimp +instances only
      refine zO.ite (fun c_2 => ?_) (fun c_2 => ?_)
      ·
        try dsimp +instances only
        exact zO.ret ⟨H, F, trivial⟩
      ·
        try dsimp +instances only
        refine zO.gd (by omega) ?_
        try dsimp +instances only
        generalize hv_v_30 : σ 45 x4 = v_30
        refine zO.bindp (g_so_isRow_sp) (fun r_35 p_35 => ?_)
        try dsimp +instances only
        refine zO.ite (fun c_4 => ?_) (fun c_4 => ?_)
        ·
          try dsimp +instances only
          unfold g_fi_gather_L89
          try dsimp +instances only
          try have ew_5 := w32_id (x := x4 + 1) (by omega) (by omega)
          exact g_fi_gather_L8_sp (by omega) n y2 (w32 (x4 + 1)) σ H F (by omega) (by omega)
        ·
          try dsimp +instances only
          refine zO.ite (fun c_6 => ?_) (fun c_6 => ?_)
          ·
            try dsimp +instances only
            unfold g_fi_gather_L89
            try dsimp +instances only
            try have ew_7 := w32_id (x := x4 + 1) (by omega) (by omega)
            exact g_fi_gather_L8_sp (by omega) n y2 (w32 (x4 + 1)) σ H F (by omega) (by omega)
          ·
            try dsimp +instances only
            generalize hv_v_57 : σ a0 2 = v_57
            have rv_v_57 := CI.cf (a := a0) H (by omega)
            rw [hv_v_57] at rv_v_57
            refine zO.gd (by omega) ?_
            try dsimp +instances only
            generalize hs_s_62 : zu σ (a0 + 1) v_57 v_30 = s_62
            have H_62 : CI s_62 := by rw [← hs_s_62]; exact CI_zun H (by omega) (by omega) (by rcases ha0 with rfl | rfl <;> rfl)
            have F_62 : fr (fw_fi_gather a0) σ0 s_62 := by rw [← hs_s_62]; exact fr.zu F (by omega) (bl (beq_self_eq_true _))
            have e_s_62_a0_2 : s_62 a0 2 = σ a0 2 := by rw [← hs_s_62]; exact zu_c (by omega)
            generalize hv_v_68 : s_62 a0 2 = v_68
            have rv_v_68 := CI.cf (a := a0) H_62 (by omega)
            rw [hv_v_68] at rv_v_68
            refine zO.gd (by omega) ?_
            try dsimp +instances only
            generalize hv_v_77 : s_62 44 v_30 = v_77
            refine zO.gd (by omega) ?_
            try dsimp +instances only
            generalize hs_s_78 : zu s_62 (a0 + 2) v_68 v_77 = s_78
            have H_78 : CI s_78 := by rw [← hs_s_78]; exact CI_zun H_62 (by omega) (by omega) (by rcases ha0 with rfl | rfl <;> rfl)
            have F_78 : fr (fw_fi_gather a0) σ0 s_78 := by rw [← hs_s_78]; exact fr.zu F_62 (by omega) (br (bl (beq_self_eq_true _)))
            have e_s_78_a0_2 : s_78 a0 2 = s_62 a0 2 := by rw [← hs_s_78]; exact zu_c (by omega)
            generalize hv_v_81 : s_78 a0 2 = v_81
            have rv_v_81 := CI.cf (a := a0) H_78 (by omega)
            rw [hv_v_81] at rv_v_81
            try have ew_8 := w32_id (x := v_81 + 1) (by omega) (by omega)
            generalize hs_s_86 : zu s_78 a0 2 (w32 (v_81 + 1)) = s_86
            have H_86 : CI s_86 := by rw [← hs_s_86]; exact CI_zuy H_78 (by omega) (by omega) (lo := 0) (hi := 60) (by rcases ha0 with rfl | rfl <;> rfl) (by omega) (by omega)
            have F_86 : fr (fw_fi_gather a0) σ0 s_86 := by rw [← hs_s_86]; exact fr.zu F_78 (by omega) (br (br (bl (zbb _ _))))
            have e_s_86_a0_2 : s_86 a0 2 = (w32 (v_81 + 1)) := by rw [← hs_s_86]; exact zu_e rfl
            unfold g_fi_gather_L89
            try dsimp +instances only
            try have ew_9 := w32_id (x := x4 + 1) (by omega) (by omega)
            exact g_fi_gather_L8_sp (by omega) n y2 (w32 (x4 + 1)) s_86 H_86 F_86 (by omega) (by omega)
theorem g_fi_gather_sp {a0 : Nat} (ha0 : a0 = 60 ∨ a0 = 70) {y2 : Int} {σ : zS} (H : CI σ) : zO (g_fi_gather a0 y2 σ) (fun v s => CI s ∧ fr (fw_fi_gather a0) σ s ∧ (True)) := by
  have F : fr (fw_fi_gather a0) σ σ := fr.refl σ
  have ri_a0_2 := CI.cf (a := a0) H (by omega)
  unfold g_fi_gather
  try dsimp +instances only
  generalize hs_s_2 : zu σ a0 2 0 = s_2
  have H_2 : CI s_2 := by rw [← hs_s_2]; exact CI_zuy H (by omega) (by omega) (lo := 0) (hi := 60) (by rcases ha0 with rfl | rfl <;> rfl) (by omega) (by omega)
  have F_2 : fr (fw_fi_gather a0) σ s_2 := by rw [← hs_s_2]; exact fr.zu F (by omega) (br (br (bl (zbb _ _))))
  have e_s_2_a0_2 : s_2 a0 2 = 0 := by rw [← hs_s_2]; exact zu_e rfl
  exact g_fi_gather_L8_sp (by omega) zK y2 0 s_2 H_2 F_2 (by omega) (by show _ < (1000000 : Int); omega)
set_option maxHeartbeats 4000000 in
theorem g_fi_sumIsOver_L4_sp {a0 : Nat} (ha0 : a0 = 60 ∨ a0 = 70) {σ : zS} : ∀ (n : Nat) (y1 : Int) (x3 : Int) (H : CI σ), (0 ≤ x3 ∧ x3 ≤ 60) → (60 - x3) < (n : Int) → zOp (g_fi_sumIsOver_L4 a0 n y1 x3 σ) σ (fun v => True)
  | 0, _, _, _, hi, hm => by exfalso; omega
  | n + 1, y1, x3, H, hi, hm => by
    unfold g_fi_sumIsOver_L4
    try dsimp +instances only
    generalize hv_v_6 : σ a0 2 = v_6
    have rv_v_6 := CI.cf (a := a0) H (by omega)
    rw [hv_v_6] at rv_v_6
    refine zOp.ite (fun c_1 => ?_) (fun c_1 => ?_)
    ·
      try dsimp +instances only
      exact zOp.ret trivial
    ·
      try dsimp +instances only
      refine zOp.gd (by omega) ?_
      try dsimp +instances only
      generalize hv_v_18 : σ (a0 + 2) x3 = v_18
      refine zOp.gd (by omega) ?_
      try dsimp +instances only
      refine zOp.ite (fun c_2 => ?_) (fun c_2 => ?_)
      ·
        try dsimp +instances only
        refine zOp.ite (fun c_3 => ?_) (fun c_3 => ?_)
        ·
          try dsimp +instances only
          unfold g_fi_sumIsOver_L60
          try dsimp +instances only
          refine zOp.ite (fun c_4 => ?_) (fun c_4 => ?_)
          ·
            try dsimp +instances only
            try have ew_5 := w32_id (x := x3 + 1) (by omega) (by omega)
            exact g_fi_sumIsOver_L4_sp (by omega) n (w64 (y1 + v_18)) (w32 (x3 + 1)) H (by omega) (by omega)
          ·
            try dsimp +instances only
            exact zOp.ret trivial
        ·
          try dsimp +instances only
          unfold g_fi_sumIsOver_L60
          try dsimp +instances only
          refine zOp.ite (fun c_6 => ?_) (fun c_6 => ?_)
          ·
            try dsimp +instances only
            try have ew_7 := w32_id (x := x3 + 1) (by omega) (by omega)
            exact g_fi_sumIsOver_L4_sp (by omega) n (w64 (y1 + v_18)) (w32 (x3 + 1)) H (by omega) (by omega)
          ·
            try dsimp +instances only
            exact zOp.ret trivial
      ·
        try dsimp +instances only
        refine zOp.ite (fun c_8 => ?_) (fun c_8 => ?_)
        ·
          try dsimp +instances only
          unfold g_fi_sumIsOver_L60
          try dsimp +instances only
          refine zOp.ite (fun c_9 => ?_) (fun c_9 => ?_)
          ·
            try dsimp +instances only
            try have ew_10 := w32_id (x := x3 + 1) (by omega) (by omega)
            exact g_fi_sumIsOver_L4_sp (by omega) n (w64 (y1 + v_18)) (w32 (x3 + 1)) H (by omega) (by omega)
          ·
            try dsimp +instances only
            exact zOp.ret trivial
        ·
          try dsimp +instances only
          unfold g_fi_sumIsOver_L60
          try dsimp +instances only
          refine zOp.ite (fun c_11 => ?_) (fun c_11 => ?_)
          ·
            try dsimp +instances only
            try have ew_12 := w32_id (x := x3 + 1) (by omega) (by omega)
            exact g_fi_sumIsOver_L4_sp (by omega) n (w64 (y1 + v_18)) (w32 (x3 + 1)) H (by omega) (by omega)
          ·
            try dsimp +instances only
            exact zOp.ret trivial
theorem g_fi_sumIsOver_sp {a0 : Nat} (ha0 : a0 = 60 ∨ a0 = 70) {σ : zS} (H : CI σ) : zOp (g_fi_sumIsOver a0 σ) σ (fun v => True) := by
  unfold g_fi_sumIsOver
  try dsimp +instances only
  exact g_fi_sumIsOver_L4_sp (by omega) zK 0 0 H (by omega) (by show _ < (1000000 : Int); omega)
set_option maxHeartbeats 4000000 in
theorem g_fi_sum_L15_sp {a0 : Nat} (ha0 : a0 = 60 ∨ a0 = 70) {σ : zS} : ∀ (n : Nat) (y1 : Int) (x3 : Int) (H : CI σ), (0 ≤ x3 ∧ x3 ≤ 60) → (60 - x3) < (n : Int) → zOp (g_fi_sum_L15 a0 n y1 x3 σ) σ (fun v => True)
  | 0, _, _, _, hi, hm => by exfalso; omega
  | n + 1, y1, x3, H, hi, hm => by
    unfold g_fi_sum_L15
    try dsimp +instances only
    generalize hv_v_17 : σ a0 2 = v_17
    have rv_v_17 := CI.cf (a := a0) H (by omega)
    rw [hv_v_17] at rv_v_17
    refine zOp.ite (fun c_1 => ?_) (fun c_1 => ?_)
    ·
      try dsimp +instances only
      exact zOp.ret trivial
    ·
      try dsimp +instances only
      refine zOp.gd (by omega) ?_
      try dsimp +instances only
      generalize hv_v_29 : σ (a0 + 2) x3 = v_29
      try have ew_2 := w32_id (x := x3 + 1) (by omega) (by omega)
      exact g_fi_sum_L15_sp (by omega) n (w64 (y1 + v_29)) (w32 (x3 + 1)) H (by omega) (by omega)
theorem g_fi_sum_sp {a0 : Nat} (ha0 : a0 = 60 ∨ a0 = 70) {σ : zS} (H : CI σ) : zOp (g_fi_sum a0 σ) σ (fun v => True) := by
  unfold g_fi_sum
  try dsimp +instances only
  refine zOp.bindp (g_fi_sumIsOver_sp (by omega) H) (fun r_1 p_1 => ?_)
  try dsimp +instances only
  refine zOp.ite (fun c_4 => ?_) (fun c_4 => ?_)
  ·
    try dsimp +instances only
    exact g_fi_sum_L15_sp (by omega) zK 0 0 H (by omega) (by show _ < (1000000 : Int); omega)
  ·
    try dsimp +instances only
    exact zOp.ret trivial
theorem g_fi_mean_sp {a0 : Nat} (ha0 : a0 = 60 ∨ a0 = 70) {σ : zS} (H : CI σ) : zOp (g_fi_mean a0 σ) σ (fun v => True) := by
  unfold g_fi_mean
  try dsimp +instances only
  generalize hv_v_1 : σ a0 2 = v_1
  have rv_v_1 := CI.cf (a := a0) H (by omega)
  rw [hv_v_1] at rv_v_1
  refine zOp.ite (fun c_1 => ?_) (fun c_1 => ?_)
  ·
    try dsimp +instances only
    refine zOp.bindp (g_fi_sumIsOver_sp (by omega) H) (fun r_12 p_12 => ?_)
    try dsimp +instances only
    refine zOp.ite (fun c_3 => ?_) (fun c_3 => ?_)
    ·
      try dsimp +instances only
      refine zOp.bindp (g_fi_sum_sp (by omega) H) (fun r_25 p_25 => ?_)
      try dsimp +instances only
      generalize hv_v_29 : σ a0 2 = v_29
      have rv_v_29 := CI.cf (a := a0) H (by omega)
      rw [hv_v_29] at rv_v_29
      refine zOp.bindp (g_jMath_floorDiv_sp (by omega)) (fun r_33 p_33 => ?_)
      try dsimp +instances only
      exact zOp.ret trivial
    ·
      try dsimp +instances only
      exact zOp.ret trivial
  ·
    try dsimp +instances only
    exact zOp.ret trivial
set_option maxHeartbeats 4000000 in
theorem g_fi_leastWorth_L9_sp {a0 : Nat} (ha0 : a0 = 60 ∨ a0 = 70) {σ : zS} : ∀ (n : Nat) (y1 : Int) (x3 : Int) (H : CI σ), (0 ≤ x3 ∧ x3 ≤ 60) → (60 - x3) < (n : Int) → zOp (g_fi_leastWorth_L9 a0 n y1 x3 σ) σ (fun v => True)
  | 0, _, _, _, hi, hm => by exfalso; omega
  | n + 1, y1, x3, H, hi, hm => by
    unfold g_fi_leastWorth_L9
    try dsimp +instances only
    generalize hv_v_11 : σ a0 2 = v_11
    have rv_v_11 := CI.cf (a := a0) H (by omega)
    rw [hv_v_11] at rv_v_11
    refine zOp.ite (fun c_1 => ?_) (fun c_1 => ?_)
    ·
      try dsimp +instances only
      exact zOp.ret trivial
    ·
      try dsimp +instances only
      refine zOp.gd (by omega) ?_
      try dsimp +instances only
      generalize hv_v_23 : σ (a0 + 2) x3 = v_23
      refine zOp.bindp (g_jMath_min_292_sp) (fun r_24 p_24 => ?_)
      try dsimp +instances only
      try have ew_3 := w32_id (x := x3 + 1) (by omega) (by omega)
      exact g_fi_leastWorth_L9_sp (by omega) n r_24 (w32 (x3 + 1)) H (by omega) (by omega)
theorem g_fi_leastWorth_sp {a0 : Nat} (ha0 : a0 = 60 ∨ a0 = 70) {σ : zS} (H : CI σ) : zOp (g_fi_leastWorth a0 σ) σ (fun v => True) := by
  unfold g_fi_leastWorth
  try dsimp +instances only
  generalize hv_v_5 : σ (a0 + 2) 0 = v_5
  exact g_fi_leastWorth_L9_sp (by omega) zK v_5 1 H (by omega) (by show _ < (1000000 : Int); omega)
set_option maxHeartbeats 4000000 in
theorem g_fi_mostWorth_L9_sp {a0 : Nat} (ha0 : a0 = 60 ∨ a0 = 70) {σ : zS} : ∀ (n : Nat) (y1 : Int) (x3 : Int) (H : CI σ), (0 ≤ x3 ∧ x3 ≤ 60) → (60 - x3) < (n : Int) → zOp (g_fi_mostWorth_L9 a0 n y1 x3 σ) σ (fun v => True)
  | 0, _, _, _, hi, hm => by exfalso; omega
  | n + 1, y1, x3, H, hi, hm => by
    unfold g_fi_mostWorth_L9
    try dsimp +instances only
    generalize hv_v_11 : σ a0 2 = v_11
    have rv_v_11 := CI.cf (a := a0) H (by omega)
    rw [hv_v_11] at rv_v_11
    refine zOp.ite (fun c_1 => ?_) (fun c_1 => ?_)
    ·
      try dsimp +instances only
      exact zOp.ret trivial
    ·
      try dsimp +instances only
      refine zOp.gd (by omega) ?_
      try dsimp +instances only
      generalize hv_v_23 : σ (a0 + 2) x3 = v_23
      refine zOp.bindp (g_jMath_max_290_sp) (fun r_24 p_24 => ?_)
      try dsimp +instances only
      try have ew_3 := w32_id (x := x3 + 1) (by omega) (by omega)
      exact g_fi_mostWorth_L9_sp (by omega) n r_24 (w32 (x3 + 1)) H (by omega) (by omega)
theorem g_fi_mostWorth_sp {a0 : Nat} (ha0 : a0 = 60 ∨ a0 = 70) {σ : zS} (H : CI σ) : zOp (g_fi_mostWorth a0 σ) σ (fun v => True) := by
  unfold g_fi_mostWorth
  try dsimp +instances only
  generalize hv_v_5 : σ (a0 + 2) 0 = v_5
  exact g_fi_mostWorth_L9_sp (by omega) zK v_5 1 H (by omega) (by show _ < (1000000 : Int); omega)
theorem g_fi_difference_sp {y0 : Int} {y2 : Int} {σ : zS} : zOp (g_fi_difference y0 y2 σ) σ (fun v => True) := by
  unfold g_fi_difference
  try dsimp +instances only
  refine zOp.ite (fun c_1 => ?_) (fun c_1 => ?_)
  ·
    try dsimp +instances only
    exact zOp.ret trivial
  ·
    try dsimp +instances only
    exact zOp.ret trivial
set_option maxHeartbeats 4000000 in
theorem g_fi_kinds_L17_sp {a0 : Nat} (ha0 : a0 = 60 ∨ a0 = 70) {g4 : Int → Int → zS → Option (Int × zS)} {X2 : Int} {σ : zS} (hg : ∀ y0 y1 : Int, (0 ≤ y1 ∧ y1 = X2 + 1) → zOp (g4 y0 y1 σ) σ (fun v => True)) : ∀ (n : Nat) (x1 : Int) (x2 : Int) (x3 : Int) (x4 : Int) (H : CI σ), (0 ≤ x4 ∧ x4 ≤ x2 ∧ x2 < 60 ∧ x2 = X2) → (60 - x4) < (n : Int) → zOp (g_fi_kinds_L17 a0 g4 n x1 x2 x3 x4 σ) σ (fun v => True)
  | 0, _, _, _, _, _, hi, hm => by exfalso; omega
  | n + 1, x1, x2, x3, x4, H, hi, hm => by
    unfold g_fi_kinds_L17
    try dsimp +instances only
    refine zOp.ite (fun c_1 => ?_) (fun c_1 => ?_)
    ·
      try dsimp +instances only
      unfold g_fi_kinds_L56
      try dsimp +instances only
      refine zOp.ite (fun c_2 => ?_) (fun c_2 => ?_)
      ·
        try dsimp +instances only
        unfold g_fi_kinds_L63
        try dsimp +instances only
        try have ew_3 := w32_id (x := x2 + 1) (by omega) (by omega)
        exact hg x1 (w32 (x2 + 1)) (by omega)
      ·
        try dsimp +instances only
        try have ew_4 := w32_id (x := x1 + 1) (by omega) (by omega)
        unfold g_fi_kinds_L63
        try dsimp +instances only
        try have ew_5 := w32_id (x := x2 + 1) (by omega) (by omega)
        exact hg (w32 (x1 + 1)) (w32 (x2 + 1)) (by omega)
    ·
      try dsimp +instances only
      refine zOp.ite (fun c_6 => ?_) (fun c_6 => ?_)
      ·
        try dsimp +instances only
        unfold g_fi_kinds_L56
        try dsimp +instances only
        refine zOp.ite (fun c_7 => ?_) (fun c_7 => ?_)
        ·
          try dsimp +instances only
          unfold g_fi_kinds_L63
          try dsimp +instances only
          try have ew_8 := w32_id (x := x2 + 1) (by omega) (by omega)
          exact hg x1 (w32 (x2 + 1)) (by omega)
        ·
          try dsimp +instances only
          try have ew_9 := w32_id (x := x1 + 1) (by omega) (by omega)
          unfold g_fi_kinds_L63
          try dsimp +instances only
          try have ew_10 := w32_id (x := x2 + 1) (by omega) (by omega)
          exact hg (w32 (x1 + 1)) (w32 (x2 + 1)) (by omega)
      ·
        try dsimp +instances only
        refine zOp.gd (by omega) ?_
        try dsimp +instances only
        generalize hv_v_33 : σ (a0 + 2) x4 = v_33
        refine zOp.gd (by omega) ?_
        try dsimp +instances only
        generalize hv_v_39 : σ (a0 + 2) x2 = v_39
        refine zOp.ite (fun c_11 => ?_) (fun c_11 => ?_)
        ·
          try dsimp +instances only
          unfold g_fi_kinds_L49
          try dsimp +instances only
          try have ew_12 := w32_id (x := x4 + 1) (by omega) (by omega)
          exact g_fi_kinds_L17_sp (by omega) hg n x1 x2 0 (w32 (x4 + 1)) H (by omega) (by omega)
        ·
          try dsimp +instances only
          unfold g_fi_kinds_L49
          try dsimp +instances only
          try have ew_13 := w32_id (x := x4 + 1) (by omega) (by omega)
          exact g_fi_kinds_L17_sp (by omega) hg n x1 x2 1 (w32 (x4 + 1)) H (by omega) (by omega)
set_option maxHeartbeats 4000000 in
theorem g_fi_kinds_L4_sp {a0 : Nat} (ha0 : a0 = 60 ∨ a0 = 70) {σ : zS} : ∀ (n : Nat) (x1 : Int) (x2 : Int) (H : CI σ), (0 ≤ x2 ∧ x2 ≤ 60) → (60 - x2) < (n : Int) → zOp (g_fi_kinds_L4 a0 n x1 x2 σ) σ (fun v => True)
  | 0, _, _, _, hi, hm => by exfalso; omega
  | n + 1, x1, x2, H, hi, hm => by
    unfold g_fi_kinds_L4
    try dsimp +instances only
    generalize hv_v_6 : σ a0 2 = v_6
    have rv_v_6 := CI.cf (a := a0) H (by omega)
    rw [hv_v_6] at rv_v_6
    refine zOp.ite (fun c_14 => ?_) (fun c_14 => ?_)
    ·
      try dsimp +instances only
      exact zOp.ret trivial
    ·
      try dsimp +instances only
      exact g_fi_kinds_L17_sp (X2 := x2) (by omega) (fun y0 y1 hc => g_fi_kinds_L4_sp (by omega) n y0 y1 H (by omega) (by omega)) zK x1 x2 1 0 H (by omega) (by show _ < (1000000 : Int); omega)
theorem g_fi_kinds_sp {a0 : Nat} (ha0 : a0 = 60 ∨ a0 = 70) {σ : zS} (H : CI σ) : zOp (g_fi_kinds a0 σ) σ (fun v => True) := by
  unfold g_fi_kinds
  try dsimp +instances only
  exact g_fi_kinds_L4_sp (by omega) zK 0 0 H (by omega) (by show _ < (1000000 : Int); omega)
theorem g_fi_measured_sp {a0 : Nat} (ha0 : a0 = 60 ∨ a0 = 70) {x1 : Int} {σ : zS} (H : CI σ) : zOp (g_fi_measured a0 x1 σ) σ (fun v => True) := by
  unfold g_fi_measured
  try dsimp +instances only
  generalize hv_v_1 : σ a0 2 = v_1
  have rv_v_1 := CI.cf (a := a0) H (by omega)
  rw [hv_v_1] at rv_v_1
  refine zOp.ite (fun c_1 => ?_) (fun c_1 => ?_)
  ·
    try dsimp +instances only
    unfold g_fi_measured_L21
    try dsimp +instances only
    refine zOp.ite (fun c_2 => ?_) (fun c_2 => ?_)
    ·
      try dsimp +instances only
      generalize hv_v_65 : σ a0 2 = v_65
      have rv_v_65 := CI.cf (a := a0) H (by omega)
      rw [hv_v_65] at rv_v_65
      exact zOp.ret trivial
    ·
      try dsimp +instances only
      refine zOp.ite (fun c_3 => ?_) (fun c_3 => ?_)
      ·
        try dsimp +instances only
        refine zOp.bindp (g_fi_sum_sp (by omega) H) (fun r_71 p_71 => ?_)
        try dsimp +instances only
        exact zOp.ret trivial
      ·
        try dsimp +instances only
        refine zOp.ite (fun c_5 => ?_) (fun c_5 => ?_)
        ·
          try dsimp +instances only
          refine zOp.bindp (g_fi_leastWorth_sp (by omega) H) (fun r_76 p_76 => ?_)
          try dsimp +instances only
          exact zOp.ret trivial
        ·
          try dsimp +instances only
          refine zOp.ite (fun c_7 => ?_) (fun c_7 => ?_)
          ·
            try dsimp +instances only
            refine zOp.bindp (g_fi_mostWorth_sp (by omega) H) (fun r_81 p_81 => ?_)
            try dsimp +instances only
            exact zOp.ret trivial
          ·
            try dsimp +instances only
            refine zOp.ite (fun c_9 => ?_) (fun c_9 => ?_)
            ·
              try dsimp +instances only
              refine zOp.bindp (g_fi_mean_sp (by omega) H) (fun r_86 p_86 => ?_)
              try dsimp +instances only
              exact zOp.ret trivial
            ·
              try dsimp +instances only
              refine zOp.ite (fun c_11 => ?_) (fun c_11 => ?_)
              ·
                try dsimp +instances only
                refine zOp.bindp (g_fi_mostWorth_sp (by omega) H) (fun r_91 p_91 => ?_)
                try dsimp +instances only
                refine zOp.bindp (g_fi_leastWorth_sp (by omega) H) (fun r_95 p_95 => ?_)
                try dsimp +instances only
                refine zOp.bindp (g_fi_difference_sp) (fun r_98 p_98 => ?_)
                try dsimp +instances only
                exact zOp.ret trivial
              ·
                try dsimp +instances only
                refine zOp.ite (fun c_15 => ?_) (fun c_15 => ?_)
                ·
                  try dsimp +instances only
                  refine zOp.bindp (g_fi_kinds_sp (by omega) H) (fun r_103 p_103 => ?_)
                  try dsimp +instances only
                  exact zOp.ret trivial
                ·
                  try dsimp +instances only
                  exact zOp.ret trivial
  ·
    try dsimp +instances only
    refine zOp.ite (fun c_17 => ?_) (fun c_17 => ?_)
    ·
      try dsimp +instances only
      unfold g_fi_measured_L21
      try dsimp +instances only
      refine zOp.ite (fun c_18 => ?_) (fun c_18 => ?_)
      ·
        try dsimp +instances only
        generalize hv_v_65 : σ a0 2 = v_65
        have rv_v_65 := CI.cf (a := a0) H (by omega)
        rw [hv_v_65] at rv_v_65
        exact zOp.ret trivial
      ·
        try dsimp +instances only
        refine zOp.ite (fun c_19 => ?_) (fun c_19 => ?_)
        ·
          try dsimp +instances only
          refine zOp.bindp (g_fi_sum_sp (by omega) H) (fun r_71 p_71 => ?_)
          try dsimp +instances only
          exact zOp.ret trivial
        ·
          try dsimp +instances only
          refine zOp.ite (fun c_21 => ?_) (fun c_21 => ?_)
          ·
            try dsimp +instances only
            refine zOp.bindp (g_fi_leastWorth_sp (by omega) H) (fun r_76 p_76 => ?_)
            try dsimp +instances only
            exact zOp.ret trivial
          ·
            try dsimp +instances only
            refine zOp.ite (fun c_23 => ?_) (fun c_23 => ?_)
            ·
              try dsimp +instances only
              refine zOp.bindp (g_fi_mostWorth_sp (by omega) H) (fun r_81 p_81 => ?_)
              try dsimp +instances only
              exact zOp.ret trivial
            ·
              try dsimp +instances only
              refine zOp.ite (fun c_25 => ?_) (fun c_25 => ?_)
              ·
                try dsimp +instances only
                refine zOp.bindp (g_fi_mean_sp (by omega) H) (fun r_86 p_86 => ?_)
                try dsimp +instances only
                exact zOp.ret trivial
              ·
                try dsimp +instances only
                refine zOp.ite (fun c_27 => ?_) (fun c_27 => ?_)
                ·
                  try dsimp +instances only
                  refine zOp.bindp (g_fi_mostWorth_sp (by omega) H) (fun r_91 p_91 => ?_)
                  try dsimp +instances only
                  refine zOp.bindp (g_fi_leastWorth_sp (by omega) H) (fun r_95 p_95 => ?_)
                  try dsimp +instances only
                  refine zOp.bindp (g_fi_difference_sp) (fun r_98 p_98 => ?_)
                  try dsimp +instances only
                  exact zOp.ret trivial
                ·
                  try dsimp +instances only
                  refine zOp.ite (fun c_31 => ?_) (fun c_31 => ?_)
                  ·
                    try dsimp +instances only
                    refine zOp.bindp (g_fi_kinds_sp (by omega) H) (fun r_103 p_103 => ?_)
                    try dsimp +instances only
                    exact zOp.ret trivial
                  ·
                    try dsimp +instances only
                    exact zOp.ret trivial
    ·
      try dsimp +instances only
      refine zOp.ite (fun c_33 => ?_) (fun c_33 => ?_)
      ·
        try dsimp +instances only
        unfold g_fi_measured_L21
        try dsimp +instances only
        refine zOp.ite (fun c_34 => ?_) (fun c_34 => ?_)
        ·
          try dsimp +instances only
          generalize hv_v_65 : σ a0 2 = v_65
          have rv_v_65 := CI.cf (a := a0) H (by omega)
          rw [hv_v_65] at rv_v_65
          exact zOp.ret trivial
        ·
          try dsimp +instances only
          refine zOp.ite (fun c_35 => ?_) (fun c_35 => ?_)
          ·
            try dsimp +instances only
            refine zOp.bindp (g_fi_sum_sp (by omega) H) (fun r_71 p_71 => ?_)
            try dsimp +instances only
            exact zOp.ret trivial
          ·
            try dsimp +instances only
            refine zOp.ite (fun c_37 => ?_) (fun c_37 => ?_)
            ·
              try dsimp +instances only
              refine zOp.bindp (g_fi_leastWorth_sp (by omega) H) (fun r_76 p_76 => ?_)
              try dsimp +instances only
              exact zOp.ret trivial
            ·
              try dsimp +instances only
              refine zOp.ite (fun c_39 => ?_) (fun c_39 => ?_)
              ·
                try dsimp +instances only
                refine zOp.bindp (g_fi_mostWorth_sp (by omega) H) (fun r_81 p_81 => ?_)
                try dsimp +instances only
                exact zOp.ret trivial
              ·
                try dsimp +instances only
                refine zOp.ite (fun c_41 => ?_) (fun c_41 => ?_)
                ·
                  try dsimp +instances only
                  refine zOp.bindp (g_fi_mean_sp (by omega) H) (fun r_86 p_86 => ?_)
                  try dsimp +instances only
                  exact zOp.ret trivial
                ·
                  try dsimp +instances only
                  refine zOp.ite (fun c_43 => ?_) (fun c_43 => ?_)
                  ·
                    try dsimp +instances only
                    refine zOp.bindp (g_fi_mostWorth_sp (by omega) H) (fun r_91 p_91 => ?_)
                    try dsimp +instances only
                    refine zOp.bindp (g_fi_leastWorth_sp (by omega) H) (fun r_95 p_95 => ?_)
                    try dsimp +instances only
                    refine zOp.bindp (g_fi_difference_sp) (fun r_98 p_98 => ?_)
                    try dsimp +instances only
                    exact zOp.ret trivial
                  ·
                    try dsimp +instances only
                    refine zOp.ite (fun c_47 => ?_) (fun c_47 => ?_)
                    ·
                      try dsimp +instances only
                      refine zOp.bindp (g_fi_kinds_sp (by omega) H) (fun r_103 p_103 => ?_)
                      try dsimp +instances only
                      exact zOp.ret trivial
                    ·
                      try dsimp +instances only
                      exact zOp.ret trivial
      ·
        try dsimp +instances only
        exact zOp.ret trivial
def fw_fi_copyFrom (a0 : Nat) (a1 : Nat) (a : Nat) (j : Int) : Bool := (a == (a0 + 1)) || ((a == (a0 + 2)) || (((a == a0 && j == 2)) || false))
theorem g_fi_copyFrom_sp {a0 : Nat} {a1 : Nat} (ha0 : a0 = 60 ∨ a0 = 93) (ha1 : a1 = 60 ∨ a1 = 93) {σ : zS} (H : CI σ) : zO (g_fi_copyFrom a0 a1 σ) (fun v s => CI s ∧ fr (fw_fi_copyFrom a0 a1) σ s ∧ (True)) := by
  have F : fr (fw_fi_copyFrom a0 a1) σ σ := fr.refl σ
  unfold g_fi_copyFrom
  try dsimp +instances only
  generalize hs_s_12 : zcp σ (a1 + 1) 0 (a0 + 1) 0 60 = s_12
  have H_12 : CI s_12 := by rw [← hs_s_12]; exact CI_zcpn H (by omega) (by omega) (fun j => by rcases ha0 with rfl | rfl <;> rcases ha1 with rfl | rfl <;> rfl)
  have F_12 : fr (fw_fi_copyFrom a0 a1) σ s_12 := by rw [← hs_s_12]; exact fr.zcp F (by omega) (fun j => bl (beq_self_eq_true _))
  generalize hs_s_27 : zcp s_12 (a1 + 2) 0 (a0 + 2) 0 60 = s_27
  have H_27 : CI s_27 := by rw [← hs_s_27]; exact CI_zcpn H_12 (by omega) (by omega) (fun j => by rcases ha0 with rfl | rfl <;> rcases ha1 with rfl | rfl <;> rfl)
  have F_27 : fr (fw_fi_copyFrom a0 a1) σ s_27 := by rw [← hs_s_27]; exact fr.zcp F_12 (by omega) (fun j => br (bl (beq_self_eq_true _)))
  generalize hv_v_32 : s_27 a1 2 = v_32
  have rv_v_32 := CI.cf (a := a1) H_27 (by omega)
  rw [hv_v_32] at rv_v_32
  generalize hs_s_35 : zu s_27 a0 2 v_32 = s_35
  have H_35 : CI s_35 := by rw [← hs_s_35]; exact CI_zuy H_27 (by omega) (by omega) (lo := 0) (hi := 60) (by rcases ha0 with rfl | rfl <;> rcases ha1 with rfl | rfl <;> rfl) (by omega) (by omega)
  have F_35 : fr (fw_fi_copyFrom a0 a1) σ s_35 := by rw [← hs_s_35]; exact fr.zu F_27 (by omega) (br (br (bl (zbb _ _))))
  exact zO.ret ⟨H_35, F_35, trivial⟩
theorem g_so_read_sp {x1 : Int} {x2 : Int} {σ : zS} (H : CI σ) : zOp (g_so_read x1 x2 σ) σ (fun v => True) := by
  unfold g_so_read
  try dsimp +instances only
  refine zOp.ite (fun c_1 => ?_) (fun c_1 => ?_)
  ·
    try dsimp +instances only
    exact zOp.ret trivial
  ·
    try dsimp +instances only
    refine zOp.ite (fun c_2 => ?_) (fun c_2 => ?_)
    ·
      try dsimp +instances only
      refine zOp.ite (fun c_3 => ?_) (fun c_3 => ?_)
      ·
        try dsimp +instances only
        refine zOp.gd (by omega) ?_
        try dsimp +instances only
        generalize hv_v_45 : σ 44 x1 = v_45
        exact zOp.ret trivial
      ·
        try dsimp +instances only
        refine zOp.ite (fun c_4 => ?_) (fun c_4 => ?_)
        ·
          try dsimp +instances only
          refine zOp.gd (by omega) ?_
          try dsimp +instances only
          generalize hv_v_52 : σ 42 x1 = v_52
          have rv_v_52 := CI.cp (a := 42) (j := x1) H (by omega)
          rw [hv_v_52] at rv_v_52
          exact zOp.ret trivial
        ·
          try dsimp +instances only
          refine zOp.ite (fun c_5 => ?_) (fun c_5 => ?_)
          ·
            try dsimp +instances only
            refine zOp.gd (by omega) ?_
            try dsimp +instances only
            generalize hv_v_60 : σ 43 x1 = v_60
            have rv_v_60 := CI.cp (a := 43) (j := x1) H (by omega)
            rw [hv_v_60] at rv_v_60
            exact zOp.ret trivial
          ·
            try dsimp +instances only
            exact zOp.ret trivial
    ·
      try dsimp +instances only
      exact zOp.ret trivial
set_option maxHeartbeats 4000000 in
theorem g_so_rowsWith_L6_sp {σ : zS} : ∀ (n : Nat) (x1 : Int) (x2 : Int) (x3 : Int) (y4 : Int) (x6 : Int) (H : CI σ), (0 ≤ x6 ∧ x6 ≤ 60) → (60 - x6) < (n : Int) → zOp (g_so_rowsWith_L6 n x1 x2 x3 y4 x6 σ) σ (fun v => True)
  | 0, _, _, _, _, _, _, hi, hm => by exfalso; omega
  | n + 1, x1, x2, x3, y4, x6, H, hi, hm => by
    unfold g_so_rowsWith_L6
    try dsimp +instances only
    generalize hv_v_9 : σ 41 4 = v_9
    have rv_v_9 := CI.c4 (a := 41) H (by omega)
    rw [hv_v_9] at rv_v_9
    refine zOp.ite (fun c_1 => ?_) (fun c_1 => ?_)
    ·
      try dsimp +instances only
      exact zOp.ret trivial
    ·
      try dsimp +instances only
      refine zOp.gd (by omega) ?_
      try dsimp +instances only
      generalize hv_v_21 : σ 45 x6 = v_21
      refine zOp.bindp (g_so_read_sp H) (fun r_29 p_29 => ?_)
      try dsimp +instances only
      refine zOp.bindp (g_jLong_compare_sp) (fun r_34 p_34 => ?_)
      try dsimp +instances only
      try have ew_4 := w32_id (x := 1 + r_34) (by omega) (by omega)
      refine zOp.ite (fun c_5 => ?_) (fun c_5 => ?_)
      ·
        try dsimp +instances only
        unfold g_so_rowsWith_L51
        try dsimp +instances only
        try have ew_6 := w32_id (x := x6 + 1) (by omega) (by omega)
        exact g_so_rowsWith_L6_sp n x1 x2 x3 y4 (w32 (x6 + 1)) H (by omega) (by omega)
      ·
        try dsimp +instances only
        unfold g_so_rowsWith_L51
        try dsimp +instances only
        try have ew_7 := w32_id (x := x6 + 1) (by omega) (by omega)
        exact g_so_rowsWith_L6_sp n x1 x2 x3 (lOr y4 (lShl 1 v_21)) (w32 (x6 + 1)) H (by omega) (by omega)
theorem g_so_rowsWith_sp {x1 : Int} {x2 : Int} {x3 : Int} {σ : zS} (H : CI σ) : zOp (g_so_rowsWith x1 x2 x3 σ) σ (fun v => True) := by
  unfold g_so_rowsWith
  try dsimp +instances only
  exact g_so_rowsWith_L6_sp zK x1 x2 x3 0 0 H (by omega) (by show _ < (1000000 : Int); omega)
def fw_so_copyFrom (a0 : Nat) (a1 : Nat) (a : Nat) (j : Int) : Bool := (a == (a0 + 1)) || ((a == (a0 + 2)) || ((a == (a0 + 3)) || ((a == (a0 + 4)) || ((a == (a0 + 5)) || ((a == (a0 + 6)) || (((a == a0 && j == 4)) || false))))))
theorem g_so_copyFrom_sp {a0 : Nat} {a1 : Nat} (ha0 : a0 = 41 ∨ a0 = 74) (ha1 : a1 = 41 ∨ a1 = 74) {σ : zS} (H : CI σ) : zO (g_so_copyFrom a0 a1 σ) (fun v s => CI s ∧ fr (fw_so_copyFrom a0 a1) σ s ∧ (True)) := by
  have F : fr (fw_so_copyFrom a0 a1) σ σ := fr.refl σ
  unfold g_so_copyFrom
  try dsimp +instances only
  generalize hs_s_12 : zcp σ (a1 + 1) 0 (a0 + 1) 0 60 = s_12
  have H_12 : CI s_12 := by rw [← hs_s_12]; exact CI_zcpy H (by omega) (by omega) (fun j k v h => by rcases ha0 with rfl | rfl <;> rcases ha1 with rfl | rfl <;> exact h)
  have F_12 : fr (fw_so_copyFrom a0 a1) σ s_12 := by rw [← hs_s_12]; exact fr.zcp F (by omega) (fun j => bl (beq_self_eq_true _))
  generalize hs_s_27 : zcp s_12 (a1 + 2) 0 (a0 + 2) 0 60 = s_27
  have H_27 : CI s_27 := by rw [← hs_s_27]; exact CI_zcpy H_12 (by omega) (by omega) (fun j k v h => by rcases ha0 with rfl | rfl <;> rcases ha1 with rfl | rfl <;> exact h)
  have F_27 : fr (fw_so_copyFrom a0 a1) σ s_27 := by rw [← hs_s_27]; exact fr.zcp F_12 (by omega) (fun j => br (bl (beq_self_eq_true _)))
  generalize hs_s_42 : zcp s_27 (a1 + 3) 0 (a0 + 3) 0 60 = s_42
  have H_42 : CI s_42 := by rw [← hs_s_42]; exact CI_zcpn H_27 (by omega) (by omega) (fun j => by rcases ha0 with rfl | rfl <;> rcases ha1 with rfl | rfl <;> rfl)
  have F_42 : fr (fw_so_copyFrom a0 a1) σ s_42 := by rw [← hs_s_42]; exact fr.zcp F_27 (by omega) (fun j => br (br (bl (beq_self_eq_true _))))
  generalize hs_s_57 : zcp s_42 (a1 + 4) 0 (a0 + 4) 0 60 = s_57
  have H_57 : CI s_57 := by rw [← hs_s_57]; exact CI_zcpn H_42 (by omega) (by omega) (fun j => by rcases ha0 with rfl | rfl <;> rcases ha1 with rfl | rfl <;> rfl)
  have F_57 : fr (fw_so_copyFrom a0 a1) σ s_57 := by rw [← hs_s_57]; exact fr.zcp F_42 (by omega) (fun j => br (br (br (bl (beq_self_eq_true _)))))
  generalize hs_s_72 : zcp s_57 (a1 + 5) 0 (a0 + 5) 0 33 = s_72
  have H_72 : CI s_72 := by rw [← hs_s_72]; exact CI_zcpn H_57 (by omega) (by omega) (fun j => by rcases ha0 with rfl | rfl <;> rcases ha1 with rfl | rfl <;> rfl)
  have F_72 : fr (fw_so_copyFrom a0 a1) σ s_72 := by rw [← hs_s_72]; exact fr.zcp F_57 (by omega) (fun j => br (br (br (br (bl (beq_self_eq_true _))))))
  generalize hs_s_87 : zcp s_72 (a1 + 6) 0 (a0 + 6) 0 33 = s_87
  have H_87 : CI s_87 := by rw [← hs_s_87]; exact CI_zcpn H_72 (by omega) (by omega) (fun j => by rcases ha0 with rfl | rfl <;> rcases ha1 with rfl | rfl <;> rfl)
  have F_87 : fr (fw_so_copyFrom a0 a1) σ s_87 := by rw [← hs_s_87]; exact fr.zcp F_72 (by omega) (fun j => br (br (br (br (br (bl (beq_self_eq_true _)))))))
  generalize hv_v_92 : s_87 a1 4 = v_92
  have rv_v_92 := CI.c4 (a := a1) H_87 (by omega)
  rw [hv_v_92] at rv_v_92
  generalize hs_s_95 : zu s_87 a0 4 v_92 = s_95
  have H_95 : CI s_95 := by rw [← hs_s_95]; exact CI_zuy H_87 (by omega) (by omega) (lo := 0) (hi := 60) (by rcases ha0 with rfl | rfl <;> rcases ha1 with rfl | rfl <;> rfl) (by omega) (by omega)
  have F_95 : fr (fw_so_copyFrom a0 a1) σ s_95 := by rw [← hs_s_95]; exact fr.zu F_87 (by omega) (br (br (br (br (br (br (bl (zbb _ _))))))))
  exact zO.ret ⟨H_95, F_95, trivial⟩
def fw_wa_copyFrom (a0 : Nat) (a1 : Nat) (a : Nat) (j : Int) : Bool := (a == (a0 + 1)) || ((a == (a0 + 2)) || ((a == (a0 + 3)) || (((a == a0 && j == 5)) || false)))
theorem g_wa_copyFrom_sp {a0 : Nat} {a1 : Nat} (ha0 : a0 = 65 ∨ a0 = 98) (ha1 : a1 = 65 ∨ a1 = 98) {σ : zS} (H : CI σ) : zO (g_wa_copyFrom a0 a1 σ) (fun v s => CI s ∧ fr (fw_wa_copyFrom a0 a1) σ s ∧ (True)) := by
  have F : fr (fw_wa_copyFrom a0 a1) σ σ := fr.refl σ
  unfold g_wa_copyFrom
  try dsimp +instances only
  generalize hs_s_12 : zcp σ (a1 + 1) 0 (a0 + 1) 0 6 = s_12
  have H_12 : CI s_12 := by rw [← hs_s_12]; exact CI_zcpn H (by omega) (by omega) (fun j => by rcases ha0 with rfl | rfl <;> rcases ha1 with rfl | rfl <;> rfl)
  have F_12 : fr (fw_wa_copyFrom a0 a1) σ s_12 := by rw [← hs_s_12]; exact fr.zcp F (by omega) (fun j => bl (beq_self_eq_true _))
  generalize hs_s_27 : zcp s_12 (a1 + 2) 0 (a0 + 2) 0 6 = s_27
  have H_27 : CI s_27 := by rw [← hs_s_27]; exact CI_zcpn H_12 (by omega) (by omega) (fun j => by rcases ha0 with rfl | rfl <;> rcases ha1 with rfl | rfl <;> rfl)
  have F_27 : fr (fw_wa_copyFrom a0 a1) σ s_27 := by rw [← hs_s_27]; exact fr.zcp F_12 (by omega) (fun j => br (bl (beq_self_eq_true _)))
  generalize hs_s_42 : zcp s_27 (a1 + 3) 0 (a0 + 3) 0 6 = s_42
  have H_42 : CI s_42 := by rw [← hs_s_42]; exact CI_zcpn H_27 (by omega) (by omega) (fun j => by rcases ha0 with rfl | rfl <;> rcases ha1 with rfl | rfl <;> rfl)
  have F_42 : fr (fw_wa_copyFrom a0 a1) σ s_42 := by rw [← hs_s_42]; exact fr.zcp F_27 (by omega) (fun j => br (br (bl (beq_self_eq_true _))))
  generalize hv_v_47 : s_42 a1 5 = v_47
  have rv_v_47 := CI.cw (a := a1) H_42 (by omega)
  rw [hv_v_47] at rv_v_47
  generalize hs_s_50 : zu s_42 a0 5 v_47 = s_50
  have H_50 : CI s_50 := by rw [← hs_s_50]; exact CI_zuy H_42 (by omega) (by omega) (lo := 0) (hi := 6) (by rcases ha0 with rfl | rfl <;> rcases ha1 with rfl | rfl <;> rfl) (by omega) (by omega)
  have F_50 : fr (fw_wa_copyFrom a0 a1) σ s_50 := by rw [← hs_s_50]; exact fr.zu F_42 (by omega) (br (br (br (bl (zbb _ _)))))
  exact zO.ret ⟨H_50, F_50, trivial⟩
def fw_st_copyFrom (a0 : Nat) (a1 : Nat) (a : Nat) (j : Int) : Bool := (fw_so_copyFrom (a0 + 1) (a1 + 1) a j) || ((fw_ca_copyFrom (a0 + 8) (a1 + 8) a j) || ((fw_fi_copyFrom (a0 + 20) (a1 + 20) a j) || ((fw_bs_copyFrom (a0 + 23) (a1 + 23) a j) || ((fw_wa_copyFrom (a0 + 25) (a1 + 25) a j) || false))))
theorem g_st_copyFrom_sp {a0 : Nat} {a1 : Nat} (ha0 : a0 = 40 ∨ a0 = 73) (ha1 : a1 = 40 ∨ a1 = 73) {σ : zS} (H : CI σ) : zO (g_st_copyFrom a0 a1 σ) (fun v s => CI s ∧ fr (fw_st_copyFrom a0 a1) σ s ∧ (True)) := by
  have F : fr (fw_st_copyFrom a0 a1) σ σ := fr.refl σ
  unfold g_st_copyFrom
  try dsimp +instances only
  refine zO.bind (g_so_copyFrom_sp (by omega) (by omega) H) (fun r_8 t_8 p_8 => ?_)
  obtain ⟨H_8, G_8, q_8⟩ := p_8
  try dsimp +instances only
  have F_8 := F.trans (fr.mono G_8 (fun a j h => ffl h))
  refine zO.bind (g_ca_copyFrom_sp (by omega) (by omega) H_8) (fun r_19 t_19 p_19 => ?_)
  obtain ⟨H_19, G_19, q_19⟩ := p_19
  try dsimp +instances only
  have F_19 := F_8.trans (fr.mono G_19 (fun a j h => ffl (ffr h)))
  refine zO.bind (g_fi_copyFrom_sp (by omega) (by omega) H_19) (fun r_30 t_30 p_30 => ?_)
  obtain ⟨H_30, G_30, q_30⟩ := p_30
  try dsimp +instances only
  have F_30 := F_19.trans (fr.mono G_30 (fun a j h => ffl (ffr (ffr h))))
  refine zO.bind (g_bs_copyFrom_sp (by omega) (by omega) H_30) (fun r_41 t_41 p_41 => ?_)
  obtain ⟨H_41, G_41, q_41⟩ := p_41
  try dsimp +instances only
  have F_41 := F_30.trans (fr.mono G_41 (fun a j h => ffl (ffr (ffr (ffr h)))))
  refine zO.bind (g_wa_copyFrom_sp (by omega) (by omega) H_41) (fun r_52 t_52 p_52 => ?_)
  obtain ⟨H_52, G_52, q_52⟩ := p_52
  try dsimp +instances only
  have F_52 := F_41.trans (fr.mono G_52 (fun a j h => ffl (ffr (ffr (ffr (ffr h))))))
  exact zO.ret ⟨H_52, F_52, trivial⟩
theorem g_so_isIn_sp {x1 : Int} {σ : zS} (H : CI σ) : zOp (g_so_isIn x1 σ) σ (fun v => v ≠ 0 → 0 ≤ x1 ∧ x1 < 60) := by
  unfold g_so_isIn
  try dsimp +instances only
  refine zOp.bindp (g_so_isRow_sp) (fun r_1 p_1 => ?_)
  try dsimp +instances only
  refine zOp.ite (fun c_2 => ?_) (fun c_2 => ?_)
  ·
    try dsimp +instances only
    exact zOp.ret (by omega)
  ·
    try dsimp +instances only
    generalize hv_v_13 : σ 46 32 = v_13
    refine zOp.ite (fun c_3 => ?_) (fun c_3 => ?_)
    ·
      try dsimp +instances only
      exact zOp.ret (by omega)
    ·
      try dsimp +instances only
      exact zOp.ret (by omega)
theorem g_so_rank_sp {x1 : Int} {σ : zS} (H : CI σ) : zOp (g_so_rank x1 σ) σ (fun v => True) := by
  unfold g_so_rank
  try dsimp +instances only
  refine zOp.bindp (g_so_isRow_sp) (fun r_1 p_1 => ?_)
  try dsimp +instances only
  refine zOp.ite (fun c_2 => ?_) (fun c_2 => ?_)
  ·
    try dsimp +instances only
    exact zOp.ret trivial
  ·
    try dsimp +instances only
    refine zOp.gd (by omega) ?_
    try dsimp +instances only
    generalize hv_v_12 : σ 42 x1 = v_12
    have rv_v_12 := CI.cp (a := 42) (j := x1) H (by omega)
    rw [hv_v_12] at rv_v_12
    refine zOp.gd (by omega) ?_
    try dsimp +instances only
    generalize hv_v_21 : σ 43 x1 = v_21
    have rv_v_21 := CI.cp (a := 43) (j := x1) H (by omega)
    rw [hv_v_21] at rv_v_21
    try have ew_3 := w32_id (x := v_12 * 32) (by omega) (by omega)
    try have ew_4 := w32_id (x := (w32 (v_12 * 32)) + v_21) (by omega) (by omega)
    try have ew_5 := w32_id (x := (w32 ((w32 (v_12 * 32)) + v_21)) * 60) (by omega) (by omega)
    try have ew_6 := w32_id (x := (w32 ((w32 ((w32 (v_12 * 32)) + v_21)) * 60)) + x1) (by omega) (by omega)
    exact zOp.ret trivial
def fw_so_flip (a : Nat) (j : Int) : Bool := (a == 47) || ((a == 46) || false)
set_option maxHeartbeats 4000000 in
theorem g_so_flip_L51_sp {σ0 : zS} : ∀ (n : Nat) (y2 : Int) (x4 : Int) (σ : zS), CI σ → fr (fw_so_flip) σ0 σ → (0 ≤ x4 ∧ x4 ≤ 33 ∧ σ 41 4 = σ0 41 4) → (33 - x4) < (n : Int) → zO (g_so_flip_L51 n y2 x4 σ) (fun v s => CI s ∧ fr (fw_so_flip) σ0 s ∧ (s 41 4 = σ0 41 4))
  | 0, _, _, σ, _, _, hi, hm => by exfalso; omega
  | n + 1, y2, x4, σ, H, F, hi, hm => by
    have ri_41_4 := CI.c4 (a := 41) H (by omega)
    unfold g_so_flip_L51
    try dsimp +instances only
    refine zO.ite (fun c_1 => ?_) (fun c_1 => ?_)
    ·
      try dsimp +instances only
      exact zO.ret ⟨H, F, (by omega)⟩
    ·
      try dsimp +instances only
      refine zO.gd (by omega) ?_
      try dsimp +instances only
      generalize hv_v_68 : σ 47 x4 = v_68
      refine zO.gd (by omega) ?_
      try dsimp +instances only
      generalize hs_s_71 : zu σ 47 x4 (lXor v_68 y2) = s_71
      have H_71 : CI s_71 := by rw [← hs_s_71]; exact CI_zun H (by omega) (by omega) rfl
      have F_71 : fr (fw_so_flip) σ0 s_71 := by rw [← hs_s_71]; exact fr.zu F (by omega) (bl (beq_self_eq_true _))
      have e_s_71_41_4 : s_71 41 4 = σ 41 4 := by rw [← hs_s_71]; exact zu_c (by omega)
      try have ew_2 := w32_id (x := x4 + 1) (by omega) (by omega)
      exact zO.imp (g_so_flip_L51_sp n y2 (w32 (x4 + 1)) s_71 H_71 F_71 (by omega) (by omega)) (fun v s ⟨pa, pb, pc⟩ => ⟨pa, pb, by omega⟩)
set_option maxHeartbeats 4000000 in
theorem g_so_flip_L14_sp {σ0 : zS} : ∀ (n : Nat) (x1 : Int) (y2 : Int) (x4 : Int) (σ : zS), CI σ → fr (fw_so_flip) σ0 σ → (0 ≤ x4 ∧ x4 ≤ 33 ∧ 0 ≤ x1 ∧ x1 < 60 ∧ σ 41 4 = σ0 41 4) → (33 - x4) < (n : Int) → zO (g_so_flip_L14 n x1 y2 x4 σ) (fun v s => CI s ∧ fr (fw_so_flip) σ0 s ∧ (s 41 4 = σ0 41 4))
  | 0, _, _, _, σ, _, _, hi, hm => by exfalso; omega
  | n + 1, x1, y2, x4, σ, H, F, hi, hm => by
    have ri_41_4 := CI.c4 (a := 41) H (by omega)
    unfold g_so_flip_L14
    try dsimp +instances only
    refine zO.ite (fun c_3 => ?_) (fun c_3 => ?_)
    ·
      try dsimp +instances only
      refine zO.gd (by omega) ?_
      try dsimp +instances only
      generalize hv_v_46 : σ 43 x1 = v_46
      have rv_v_46 := CI.cp (a := 43) (j := x1) H (by omega)
      rw [hv_v_46] at rv_v_46
      try have ew_4 := w32_id (x := v_46 + 1) (by omega) (by omega)
      exact zO.imp (g_so_flip_L51_sp zK y2 (w32 (v_46 + 1)) σ H F (by omega) (by show _ < (1000000 : Int); omega)) (fun v s ⟨pa, pb, pc⟩ => ⟨pa, pb, by omega⟩)
    ·
      try dsimp +instances only
      refine zO.gd (by omega) ?_
      try dsimp +instances only
      generalize hv_v_31 : σ 46 x4 = v_31
      refine zO.gd (by omega) ?_
      try dsimp +instances only
      generalize hs_s_34 : zu σ 46 x4 (lXor v_31 y2) = s_34
      have H_34 : CI s_34 := by rw [← hs_s_34]; exact CI_zun H (by omega) (by omega) rfl
      have F_34 : fr (fw_so_flip) σ0 s_34 := by rw [← hs_s_34]; exact fr.zu F (by omega) (br (bl (beq_self_eq_true _)))
      have e_s_34_41_4 : s_34 41 4 = σ 41 4 := by rw [← hs_s_34]; exact zu_c (by omega)
      try have ew_5 := w32_id (x := x4 + 1) (by omega) (by omega)
      exact zO.imp (g_so_flip_L14_sp n x1 y2 (w32 (x4 + 1)) s_34 H_34 F_34 (by omega) (by omega)) (fun v s ⟨pa, pb, pc⟩ => ⟨pa, pb, by omega⟩)
theorem g_so_flip_sp {x1 : Int} {σ : zS} (H : CI σ) (hp : 0 ≤ x1 ∧ x1 < 60) : zO (g_so_flip x1 σ) (fun v s => CI s ∧ fr (fw_so_flip) σ s ∧ (s 41 4 = σ 41 4)) := by
  have F : fr (fw_so_flip) σ σ := fr.refl σ
  have ri_41_4 := CI.c4 (a := 41) H (by omega)
  unfold g_so_flip
  try dsimp +instances only
  refine zO.gd (by omega) ?_
  try dsimp +instances only
  generalize hv_v_9 : σ 42 x1 = v_9
  have rv_v_9 := CI.cp (a := 42) (j := x1) H (by omega)
  rw [hv_v_9] at rv_v_9
  try have ew_6 := w32_id (x := v_9 + 1) (by omega) (by omega)
  exact zO.imp (g_so_flip_L14_sp zK x1 (lShl 1 x1) (w32 (v_9 + 1)) σ H F (by omega) (by show _ < (1000000 : Int); omega)) (fun v s ⟨pa, pb, pc⟩ => ⟨pa, pb, by omega⟩)
def fw_so_bringIn (a : Nat) (j : Int) : Bool := (a == 45) || (((a == 41 && j == 4)) || ((a == 42) || ((a == 43) || ((a == 44) || ((fw_so_flip a j) || false)))))
set_option maxHeartbeats 4000000 in
theorem g_so_bringIn_L66_sp {σ0 : zS} : ∀ (n : Nat) (x1 : Int) (x6 : Int) (σ : zS), CI σ → fr (fw_so_bringIn) σ0 σ → (0 ≤ x6 ∧ x6 < 60 ∧ σ 41 4 < 60) → (x6) < (n : Int) → zO (g_so_bringIn_L66 n x1 x6 σ) (fun v s => CI s ∧ fr (fw_so_bringIn) σ0 s ∧ (True))
  | 0, _, _, σ, _, _, hi, hm => by exfalso; omega
  | n + 1, x1, x6, σ, H, F, hi, hm => by
    have ri_41_4 := CI.c4 (a := 41) H (by omega)
    unfold g_so_bringIn_L66
    try dsimp +instances only
    refine zO.ite (fun c_1 => ?_) (fun c_1 => ?_)
    ·
      try dsimp +instances only
      unfold g_so_bringIn_L114
      try dsimp +instances only
      refine zO.gd (by omega) ?_
      try dsimp +instances only
      generalize hs_s_121 : zu σ 45 x6 x1 = s_121
      have H_121 : CI s_121 := by rw [← hs_s_121]; exact CI_zun H (by omega) (by omega) rfl
      have F_121 : fr (fw_so_bringIn) σ0 s_121 := by rw [← hs_s_121]; exact fr.zu F (by omega) (bl (beq_self_eq_true _))
      have e_s_121_41_4 : s_121 41 4 = σ 41 4 := by rw [← hs_s_121]; exact zu_c (by omega)
      generalize hv_v_124 : s_121 41 4 = v_124
      have rv_v_124 := CI.c4 (a := 41) H_121 (by omega)
      rw [hv_v_124] at rv_v_124
      try have ew_2 := w32_id (x := v_124 + 1) (by omega) (by omega)
      generalize hs_s_129 : zu s_121 41 4 (w32 (v_124 + 1)) = s_129
      have H_129 : CI s_129 := by rw [← hs_s_129]; exact CI_zuy H_121 (by omega) (by omega) (lo := 0) (hi := 60) rfl (by omega) (by omega)
      have F_129 : fr (fw_so_bringIn) σ0 s_129 := by rw [← hs_s_129]; exact fr.zu F_121 (by omega) (br (bl (zbb _ _)))
      have e_s_129_41_4 : s_129 41 4 = (w32 (v_124 + 1)) := by rw [← hs_s_129]; exact zu_e rfl
      exact zO.ret ⟨H_129, F_129, trivial⟩
    ·
      try dsimp +instances only
      try have ew_3 := w32_id (x := x6 - 1) (by omega) (by omega)
      refine zO.gd (by omega) ?_
      try dsimp +instances only
      generalize hv_v_80 : σ 45 (w32 (x6 - 1)) = v_80
      refine zO.bindp (g_so_rank_sp H) (fun r_81 p_81 => ?_)
      try dsimp +instances only
      refine zO.bindp (g_so_rank_sp H) (fun r_86 p_86 => ?_)
      try dsimp +instances only
      refine zO.ite (fun c_6 => ?_) (fun c_6 => ?_)
      ·
        try dsimp +instances only
        unfold g_so_bringIn_L114
        try dsimp +instances only
        refine zO.gd (by omega) ?_
        try dsimp +instances only
        generalize hs_s_121 : zu σ 45 x6 x1 = s_121
        have H_121 : CI s_121 := by rw [← hs_s_121]; exact CI_zun H (by omega) (by omega) rfl
        have F_121 : fr (fw_so_bringIn) σ0 s_121 := by rw [← hs_s_121]; exact fr.zu F (by omega) (bl (beq_self_eq_true _))
        have e_s_121_41_4 : s_121 41 4 = σ 41 4 := by rw [← hs_s_121]; exact zu_c (by omega)
        generalize hv_v_124 : s_121 41 4 = v_124
        have rv_v_124 := CI.c4 (a := 41) H_121 (by omega)
        rw [hv_v_124] at rv_v_124
        try have ew_7 := w32_id (x := v_124 + 1) (by omega) (by omega)
        generalize hs_s_129 : zu s_121 41 4 (w32 (v_124 + 1)) = s_129
        have H_129 : CI s_129 := by rw [← hs_s_129]; exact CI_zuy H_121 (by omega) (by omega) (lo := 0) (hi := 60) rfl (by omega) (by omega)
        have F_129 : fr (fw_so_bringIn) σ0 s_129 := by rw [← hs_s_129]; exact fr.zu F_121 (by omega) (br (bl (zbb _ _)))
        have e_s_129_41_4 : s_129 41 4 = (w32 (v_124 + 1)) := by rw [← hs_s_129]; exact zu_e rfl
        exact zO.ret ⟨H_129, F_129, trivial⟩
      ·
        try dsimp +instances only
        refine zO.gd (by omega) ?_
        try dsimp +instances only
        generalize hv_v_106 : σ 45 (w32 (x6 - 1)) = v_106
        refine zO.gd (by omega) ?_
        try dsimp +instances only
        generalize hs_s_107 : zu σ 45 x6 v_106 = s_107
        have H_107 : CI s_107 := by rw [← hs_s_107]; exact CI_zun H (by omega) (by omega) rfl
        have F_107 : fr (fw_so_bringIn) σ0 s_107 := by rw [← hs_s_107]; exact fr.zu F (by omega) (bl (beq_self_eq_true _))
        have e_s_107_41_4 : s_107 41 4 = σ 41 4 := by rw [← hs_s_107]; exact zu_c (by omega)
        exact g_so_bringIn_L66_sp n x1 (w32 (x6 - 1)) s_107 H_107 F_107 (by omega) (by omega)
theorem g_so_bringIn_sp {x1 : Int} {x2 : Int} {x3 : Int} {y4 : Int} {σ : zS} (H : CI σ) : zO (g_so_bringIn x1 x2 x3 y4 σ) (fun v s => CI s ∧ fr (fw_so_bringIn) σ s ∧ (True)) := by
  have F : fr (fw_so_bringIn) σ σ := fr.refl σ
  have ri_41_4 := CI.c4 (a := 41) H (by omega)
  unfold g_so_bringIn
  try dsimp +instances only
  refine zO.bindp (g_so_isRow_sp) (fun r_1 p_1 => ?_)
  try dsimp +instances only
  refine zO.ite (fun c_9 => ?_) (fun c_9 => ?_)
  ·
    try dsimp +instances only
    exact zO.ret ⟨H, F, trivial⟩
  ·
    try dsimp +instances only
    refine zO.bindp (g_so_isIn_sp H) (fun r_9 p_9 => ?_)
    try dsimp +instances only
    refine zO.ite (fun c_11 => ?_) (fun c_11 => ?_)
    ·
      try dsimp +instances only
      exact zO.ret ⟨H, F, trivial⟩
    ·
      try dsimp +instances only
      generalize hv_v_16 : σ 41 4 = v_16
      have rv_v_16 := CI.c4 (a := 41) H (by omega)
      rw [hv_v_16] at rv_v_16
      refine zO.ite (fun c_12 => ?_) (fun c_12 => ?_)
      ·
        try dsimp +instances only
        exact zO.ret ⟨H, F, trivial⟩
      ·
        try dsimp +instances only
        refine zO.bindp (g_b_isPlace_sp) (fun r_26 p_26 => ?_)
        try dsimp +instances only
        refine zO.ite (fun c_14 => ?_) (fun c_14 => ?_)
        ·
          try dsimp +instances only
          refine zO.gd (by omega) ?_
          try dsimp +instances only
          generalize hs_s_39 : zu σ 42 x1 x2 = s_39
          have H_39 : CI s_39 := by rw [← hs_s_39]; exact CI_zuy H (by omega) (by omega) (lo := 0) (hi := 31) rfl (by omega) (by omega)
          have F_39 : fr (fw_so_bringIn) σ s_39 := by rw [← hs_s_39]; exact fr.zu F (by omega) (br (br (bl (beq_self_eq_true _))))
          have e_s_39_41_4 : s_39 41 4 = σ 41 4 := by rw [← hs_s_39]; exact zu_c (by omega)
          refine zO.gd (by omega) ?_
          try dsimp +instances only
          generalize hs_s_46 : zu s_39 43 x1 x3 = s_46
          have H_46 : CI s_46 := by rw [← hs_s_46]; exact CI_zuy H_39 (by omega) (by omega) (lo := 0) (hi := 31) rfl (by omega) (by omega)
          have F_46 : fr (fw_so_bringIn) σ s_46 := by rw [← hs_s_46]; exact fr.zu F_39 (by omega) (br (br (br (bl (beq_self_eq_true _)))))
          have e_s_46_41_4 : s_46 41 4 = s_39 41 4 := by rw [← hs_s_46]; exact zu_c (by omega)
          refine zO.gd (by omega) ?_
          try dsimp +instances only
          generalize hs_s_54 : zu s_46 44 x1 y4 = s_54
          have H_54 : CI s_54 := by rw [← hs_s_54]; exact CI_zun H_46 (by omega) (by omega) rfl
          have F_54 : fr (fw_so_bringIn) σ s_54 := by rw [← hs_s_54]; exact fr.zu F_46 (by omega) (br (br (br (br (bl (beq_self_eq_true _))))))
          have e_s_54_41_4 : s_54 41 4 = s_46 41 4 := by rw [← hs_s_54]; exact zu_c (by omega)
          refine zO.bind (g_so_flip_sp H_54 (by omega)) (fun r_57 t_57 p_57 => ?_)
          obtain ⟨H_57, G_57, q_57⟩ := p_57
          try dsimp +instances only
          have F_57 := F_54.trans (fr.mono G_57 (fun a j h => ffl (ffr (ffr (ffr (ffr (ffr h)))))))
          have e_t_57_41_4 := G_57 41 4 (Or.inr rfl)
          generalize hv_v_61 : t_57 41 4 = v_61
          have rv_v_61 := CI.c4 (a := 41) H_57 (by omega)
          rw [hv_v_61] at rv_v_61
          exact g_so_bringIn_L66_sp zK x1 v_61 t_57 H_57 F_57 (by omega) (by show _ < (1000000 : Int); omega)
        ·
          try dsimp +instances only
          exact zO.ret ⟨H, F, trivial⟩
def fw_so_bringOut (a : Nat) (j : Int) : Bool := ((a == 41 && j == 4)) || ((a == 45) || ((fw_so_flip a j) || false))
set_option maxHeartbeats 4000000 in
theorem g_so_bringOut_L19_sp {σ0 : zS} : ∀ (n : Nat) (x1 : Int) (x2 : Int) (x3 : Int) (σ : zS), CI σ → fr (fw_so_bringOut) σ0 σ → (0 ≤ x1 ∧ x1 < 60 ∧ 0 ≤ x2 ∧ x2 ≤ x3 ∧ x3 ≤ 60) → (60 - x3) < (n : Int) → zO (g_so_bringOut_L19 n x1 x2 x3 σ) (fun v s => CI s ∧ fr (fw_so_bringOut) σ0 s ∧ (True))
  | 0, _, _, _, σ, _, _, hi, hm => by exfalso; omega
  | n + 1, x1, x2, x3, σ, H, F, hi, hm => by
    unfold g_so_bringOut_L19
    try dsimp +instances only
    generalize hv_v_21 : σ 41 4 = v_21
    have rv_v_21 := CI.c4 (a := 41) H (by omega)
    rw [hv_v_21] at rv_v_21
    refine zO.ite (fun c_1 => ?_) (fun c_1 => ?_)
    ·
      try dsimp +instances only
      generalize hs_s_60 : zu σ 41 4 x2 = s_60
      have H_60 : CI s_60 := by rw [← hs_s_60]; exact CI_zuy H (by omega) (by omega) (lo := 0) (hi := 60) rfl (by omega) (by omega)
      have F_60 : fr (fw_so_bringOut) σ0 s_60 := by rw [← hs_s_60]; exact fr.zu F (by omega) (bl (zbb _ _))
      refine zO.gd (by omega) ?_
      try dsimp +instances only
      generalize hv_v_68 : s_60 42 x1 = v_68
      have rv_v_68 := CI.cp (a := 42) (j := x1) H_60 (by omega)
      rw [hv_v_68] at rv_v_68
      refine zO.gd (by omega) ?_
      try dsimp +instances only
      refine zO.gd (by omega) ?_
      try dsimp +instances only
      generalize hv_v_80 : s_60 43 x1 = v_80
      have rv_v_80 := CI.cp (a := 43) (j := x1) H_60 (by omega)
      rw [hv_v_80] at rv_v_80
      refine zO.gd (by omega) ?_
      try dsimp +instances only
      refine zO.bindp (g_b_of_sp) (fun r_87 p_87 => ?_)
      try dsimp +instances only
      exact zO.ret ⟨H_60, F_60, trivial⟩
    ·
      try dsimp +instances only
      refine zO.gd (by omega) ?_
      try dsimp +instances only
      generalize hv_v_32 : σ 45 x3 = v_32
      refine zO.ite (fun c_3 => ?_) (fun c_3 => ?_)
      ·
        try dsimp +instances only
        unfold g_so_bringOut_L52
        try dsimp +instances only
        try have ew_4 := w32_id (x := x3 + 1) (by omega) (by omega)
        exact g_so_bringOut_L19_sp n x1 x2 (w32 (x3 + 1)) σ H F (by omega) (by omega)
      ·
        try dsimp +instances only
        refine zO.gd (by omega) ?_
        try dsimp +instances only
        refine zO.gd (by omega) ?_
        try dsimp +instances only
        generalize hs_s_48 : zu σ 45 x2 v_32 = s_48
        have H_48 : CI s_48 := by rw [← hs_s_48]; exact CI_zun H (by omega) (by omega) rfl
        have F_48 : fr (fw_so_bringOut) σ0 s_48 := by rw [← hs_s_48]; exact fr.zu F (by omega) (br (bl (beq_self_eq_true _)))
        try have ew_5 := w32_id (x := x2 + 1) (by omega) (by omega)
        unfold g_so_bringOut_L52
        try dsimp +instances only
        try have ew_6 := w32_id (x := x3 + 1) (by omega) (by omega)
        exact g_so_bringOut_L19_sp n x1 (w32 (x2 + 1)) (w32 (x3 + 1)) s_48 H_48 F_48 (by omega) (by omega)
theorem g_so_bringOut_sp {x1 : Int} {σ : zS} (H : CI σ) : zO (g_so_bringOut x1 σ) (fun v s => CI s ∧ fr (fw_so_bringOut) σ s ∧ (True)) := by
  have F : fr (fw_so_bringOut) σ σ := fr.refl σ
  unfold g_so_bringOut
  try dsimp +instances only
  refine zO.bindp (g_so_isIn_sp H) (fun r_2 p_2 => ?_)
  try dsimp +instances only
  refine zO.ite (fun c_8 => ?_) (fun c_8 => ?_)
  ·
    try dsimp +instances only
    refine zO.bind (g_so_flip_sp H (by omega)) (fun r_12 t_12 p_12 => ?_)
    obtain ⟨H_12, G_12, q_12⟩ := p_12
    try dsimp +instances only
    have F_12 := F.trans (fr.mono G_12 (fun a j h => ffl (ffr (ffr h))))
    exact g_so_bringOut_L19_sp zK x1 0 0 t_12 H_12 F_12 (by omega) (by show _ < (1000000 : Int); omega)
  ·
    try dsimp +instances only
    exact zO.ret ⟨H, F, trivial⟩
theorem g_wa_has_sp {x1 : Int} {σ : zS} (H : CI σ) : zOp (g_wa_has x1 σ) σ (fun v => v ≠ 0 → 0 ≤ x1 ∧ x1 < 6) := by
  unfold g_wa_has
  try dsimp +instances only
  refine zOp.ite (fun c_1 => ?_) (fun c_1 => ?_)
  ·
    try dsimp +instances only
    exact zOp.ret (by omega)
  ·
    try dsimp +instances only
    generalize hv_v_6 : σ 65 5 = v_6
    have rv_v_6 := CI.cw (a := 65) H (by omega)
    rw [hv_v_6] at rv_v_6
    refine zOp.ite (fun c_2 => ?_) (fun c_2 => ?_)
    ·
      try dsimp +instances only
      exact zOp.ret (by omega)
    ·
      try dsimp +instances only
      refine zOp.ite (fun c_3 => ?_) (fun c_3 => ?_)
      ·
        try dsimp +instances only
        exact zOp.ret (by omega)
      ·
        try dsimp +instances only
        exact zOp.ret (by omega)
def fw_wa_add (a : Nat) (j : Int) : Bool := (a == 66) || ((a == 67) || ((a == 68) || (((a == 65 && j == 5)) || false)))
theorem g_wa_add_sp {x1 : Int} {x2 : Int} {σ : zS} (H : CI σ) : zO (g_wa_add x1 x2 σ) (fun v s => CI s ∧ fr (fw_wa_add) σ s ∧ (True)) := by
  have F : fr (fw_wa_add) σ σ := fr.refl σ
  have ri_65_5 := CI.cw (a := 65) H (by omega)
  unfold g_wa_add
  try dsimp +instances only
  generalize hv_v_1 : σ 65 5 = v_1
  have rv_v_1 := CI.cw (a := 65) H (by omega)
  rw [hv_v_1] at rv_v_1
  refine zO.ite (fun c_1 => ?_) (fun c_1 => ?_)
  ·
    try dsimp +instances only
    refine zO.gd (by omega) ?_
    try dsimp +instances only
    generalize hs_s_20 : zu σ 66 v_1 x1 = s_20
    have H_20 : CI s_20 := by rw [← hs_s_20]; exact CI_zun H (by omega) (by omega) rfl
    have F_20 : fr (fw_wa_add) σ s_20 := by rw [← hs_s_20]; exact fr.zu F (by omega) (bl (beq_self_eq_true _))
    have e_s_20_65_5 : s_20 65 5 = σ 65 5 := by rw [← hs_s_20]; exact zu_c (by omega)
    generalize hv_v_26 : s_20 65 5 = v_26
    have rv_v_26 := CI.cw (a := 65) H_20 (by omega)
    rw [hv_v_26] at rv_v_26
    refine zO.gd (by omega) ?_
    try dsimp +instances only
    generalize hs_s_30 : zu s_20 67 v_26 x2 = s_30
    have H_30 : CI s_30 := by rw [← hs_s_30]; exact CI_zun H_20 (by omega) (by omega) rfl
    have F_30 : fr (fw_wa_add) σ s_30 := by rw [← hs_s_30]; exact fr.zu F_20 (by omega) (br (bl (beq_self_eq_true _)))
    have e_s_30_65_5 : s_30 65 5 = s_20 65 5 := by rw [← hs_s_30]; exact zu_c (by omega)
    generalize hv_v_36 : s_30 65 5 = v_36
    have rv_v_36 := CI.cw (a := 65) H_30 (by omega)
    rw [hv_v_36] at rv_v_36
    refine zO.gd (by omega) ?_
    try dsimp +instances only
    generalize hs_s_40 : zu s_30 68 v_36 0 = s_40
    have H_40 : CI s_40 := by rw [← hs_s_40]; exact CI_zun H_30 (by omega) (by omega) rfl
    have F_40 : fr (fw_wa_add) σ s_40 := by rw [← hs_s_40]; exact fr.zu F_30 (by omega) (br (br (bl (beq_self_eq_true _))))
    have e_s_40_65_5 : s_40 65 5 = s_30 65 5 := by rw [← hs_s_40]; exact zu_c (by omega)
    generalize hv_v_43 : s_40 65 5 = v_43
    have rv_v_43 := CI.cw (a := 65) H_40 (by omega)
    rw [hv_v_43] at rv_v_43
    try have ew_2 := w32_id (x := v_43 + 1) (by omega) (by omega)
    generalize hs_s_48 : zu s_40 65 5 (w32 (v_43 + 1)) = s_48
    have H_48 : CI s_48 := by rw [← hs_s_48]; exact CI_zuy H_40 (by omega) (by omega) (lo := 0) (hi := 6) rfl (by omega) (by omega)
    have F_48 : fr (fw_wa_add) σ s_48 := by rw [← hs_s_48]; exact fr.zu F_40 (by omega) (br (br (br (bl (zbb _ _)))))
    have e_s_48_65_5 : s_48 65 5 = (w32 (v_43 + 1)) := by rw [← hs_s_48]; exact zu_e rfl
    exact zO.ret ⟨H_48, F_48, trivial⟩
  ·
    try dsimp +instances only
    exact zO.ret ⟨H, F, trivial⟩
def fw_wa_valueOf (a : Nat) (j : Int) : Bool := (fw_fi_gather 70 a j) || false
theorem g_wa_valueOf_sp {x1 : Int} {σ : zS} (H : CI σ) : zO (g_wa_valueOf x1 σ) (fun v s => CI s ∧ fr (fw_wa_valueOf) σ s ∧ (True)) := by
  have F : fr (fw_wa_valueOf) σ σ := fr.refl σ
  unfold g_wa_valueOf
  try dsimp +instances only
  refine zO.bindp (g_wa_has_sp H) (fun r_2 p_2 => ?_)
  try dsimp +instances only
  refine zO.ite (fun c_2 => ?_) (fun c_2 => ?_)
  ·
    try dsimp +instances only
    refine zO.gd (by omega) ?_
    try dsimp +instances only
    generalize hv_v_23 : σ 67 x1 = v_23
    refine zO.bindp (g_so_rowsIn_sp) (fun r_24 p_24 => ?_)
    try dsimp +instances only
    refine zO.bind (g_fi_gather_sp (by omega) H) (fun r_27 t_27 p_27 => ?_)
    obtain ⟨H_27, G_27, q_27⟩ := p_27
    try dsimp +instances only
    have F_27 := F.trans (fr.mono G_27 (fun a j h => ffl h))
    refine zO.gd (by omega) ?_
    try dsimp +instances only
    generalize hv_v_39 : t_27 66 x1 = v_39
    refine zO.bindp (g_fi_measured_sp (by omega) H_27) (fun r_40 p_40 => ?_)
    try dsimp +instances only
    exact zO.ret ⟨H_27, F_27, trivial⟩
  ·
    try dsimp +instances only
    exact zO.ret ⟨H, F, trivial⟩
def fw_wa_remember (a : Nat) (j : Int) : Bool := (fw_wa_valueOf a j) || ((a == 69) || false)
set_option maxHeartbeats 4000000 in
theorem g_wa_remember_L2_sp {σ0 : zS} : ∀ (n : Nat) (x2 : Int) (σ : zS), CI σ → fr (fw_wa_remember) σ0 σ → (0 ≤ x2 ∧ x2 ≤ 6) → (6 - x2) < (n : Int) → zO (g_wa_remember_L2 n x2 σ) (fun v s => CI s ∧ fr (fw_wa_remember) σ0 s ∧ (True))
  | 0, _, σ, _, _, hi, hm => by exfalso; omega
  | n + 1, x2, σ, H, F, hi, hm => by
    unfold g_wa_remember_L2
    try dsimp +instances only
    generalize hv_v_4 : σ 65 5 = v_4
    have rv_v_4 := CI.cw (a := 65) H (by omega)
    rw [hv_v_4] at rv_v_4
    refine zO.ite (fun c_1 => ?_) (fun c_1 => ?_)
    ·
      try dsimp +instances only
      exact zO.ret ⟨H, F, trivial⟩
    ·
      try dsimp +instances only
      refine zO.ite (fun c_2 => ?_) (fun c_2 => ?_)
      ·
        try dsimp +instances only
        exact zO.ret ⟨H, F, trivial⟩
      ·
        try dsimp +instances only
        refine zO.bind (g_wa_valueOf_sp H) (fun r_24 t_24 p_24 => ?_)
        obtain ⟨H_24, G_24, q_24⟩ := p_24
        try dsimp +instances only
        have F_24 := F.trans (fr.mono G_24 (fun a j h => ffl h))
        refine zO.gd (by omega) ?_
        try dsimp +instances only
        generalize hs_s_27 : zu t_24 69 x2 r_24 = s_27
        have H_27 : CI s_27 := by rw [← hs_s_27]; exact CI_zun H_24 (by omega) (by omega) rfl
        have F_27 : fr (fw_wa_remember) σ0 s_27 := by rw [← hs_s_27]; exact fr.zu F_24 (by omega) (br (bl (beq_self_eq_true _)))
        try have ew_4 := w32_id (x := x2 + 1) (by omega) (by omega)
        exact g_wa_remember_L2_sp n (w32 (x2 + 1)) s_27 H_27 F_27 (by omega) (by omega)
theorem g_wa_remember_sp {σ : zS} (H : CI σ) : zO (g_wa_remember σ) (fun v s => CI s ∧ fr (fw_wa_remember) σ s ∧ (True)) := by
  have F : fr (fw_wa_remember) σ σ := fr.refl σ
  unfold g_wa_remember
  try dsimp +instances only
  exact g_wa_remember_L2_sp zK 0 σ H F (by omega) (by show _ < (1000000 : Int); omega)
def fw_wa_compare (a : Nat) (j : Int) : Bool := (fw_wa_valueOf a j) || ((a == 68) || false)
set_option maxHeartbeats 4000000 in
theorem g_wa_compare_L2_sp {σ0 : zS} : ∀ (n : Nat) (x2 : Int) (σ : zS), CI σ → fr (fw_wa_compare) σ0 σ → (0 ≤ x2 ∧ x2 ≤ 6) → (6 - x2) < (n : Int) → zO (g_wa_compare_L2 n x2 σ) (fun v s => CI s ∧ fr (fw_wa_compare) σ0 s ∧ (True))
  | 0, _, σ, _, _, hi, hm => by exfalso; omega
  | n + 1, x2, σ, H, F, hi, hm => by
    unfold g_wa_compare_L2
    try dsimp +instances only
    generalize hv_v_4 : σ 65 5 = v_4
    have rv_v_4 := CI.cw (a := 65) H (by omega)
    rw [hv_v_4] at rv_v_4
    refine zO.ite (fun c_1 => ?_) (fun c_1 => ?_)
    ·
      try dsimp +instances only
      exact zO.ret ⟨H, F, trivial⟩
    ·
      try dsimp +instances only
      refine zO.ite (fun c_2 => ?_) (fun c_2 => ?_)
      ·
        try dsimp +instances only
        exact zO.ret ⟨H, F, trivial⟩
      ·
        try dsimp +instances only
        refine zO.bind (g_wa_valueOf_sp H) (fun r_19 t_19 p_19 => ?_)
        obtain ⟨H_19, G_19, q_19⟩ := p_19
        try dsimp +instances only
        have F_19 := F.trans (fr.mono G_19 (fun a j h => ffl h))
        refine zO.gd (by omega) ?_
        try dsimp +instances only
        generalize hv_v_27 : t_19 69 x2 = v_27
        refine zO.ite (fun c_4 => ?_) (fun c_4 => ?_)
        ·
          try dsimp +instances only
          unfold g_wa_compare_L42
          try dsimp +instances only
          try have ew_5 := w32_id (x := x2 + 1) (by omega) (by omega)
          exact g_wa_compare_L2_sp n (w32 (x2 + 1)) t_19 H_19 F_19 (by omega) (by omega)
        ·
          try dsimp +instances only
          refine zO.gd (by omega) ?_
          try dsimp +instances only
          generalize hv_v_38 : t_19 68 x2 = v_38
          refine zO.gd (by omega) ?_
          try dsimp +instances only
          try have ew_6 := w32_id (x := v_38 + 1) (by omega) (by omega)
          generalize hs_s_41 : zu t_19 68 x2 (w32 (v_38 + 1)) = s_41
          have H_41 : CI s_41 := by rw [← hs_s_41]; exact CI_zun H_19 (by omega) (by omega) rfl
          have F_41 : fr (fw_wa_compare) σ0 s_41 := by rw [← hs_s_41]; exact fr.zu F_19 (by omega) (br (bl (beq_self_eq_true _)))
          unfold g_wa_compare_L42
          try dsimp +instances only
          try have ew_7 := w32_id (x := x2 + 1) (by omega) (by omega)
          exact g_wa_compare_L2_sp n (w32 (x2 + 1)) s_41 H_41 F_41 (by omega) (by omega)
theorem g_wa_compare_sp {σ : zS} (H : CI σ) : zO (g_wa_compare σ) (fun v s => CI s ∧ fr (fw_wa_compare) σ s ∧ (True)) := by
  have F : fr (fw_wa_compare) σ σ := fr.refl σ
  unfold g_wa_compare
  try dsimp +instances only
  exact g_wa_compare_L2_sp zK 0 σ H F (by omega) (by show _ < (1000000 : Int); omega)
theorem g_li_refusal_sp {x1 : Int} {σ : zS} (H : CI σ) : zOp (g_li_refusal x1 σ) σ (fun v => (¬ (0 ≤ x1 ∧ x1 < 6) → v = -1) ∧ (0 ≤ x1 ∧ x1 < 6 ∧ σ 142 x1 < 0 → v = -11) ∧ (0 ≤ x1 ∧ x1 < 6 ∧ 0 ≤ σ 142 x1 → v = 0)) := by
  unfold g_li_refusal
  try dsimp +instances only
  refine zOp.bindp (g_li_isList_sp) (fun r_1 p_1 => ?_)
  try dsimp +instances only
  refine zOp.ite (fun c_2 => ?_) (fun c_2 => ?_)
  ·
    try dsimp +instances only
    refine zOp.gd (by omega) ?_
    try dsimp +instances only
    generalize hv_v_14 : σ 142 x1 = v_14
    have rv_v_14 := CI.cl (j := x1) H
    rw [hv_v_14] at rv_v_14
    refine zOp.ite (fun c_3 => ?_) (fun c_3 => ?_)
    ·
      try dsimp +instances only
      exact zOp.ret (by omega)
    ·
      try dsimp +instances only
      exact zOp.ret (by omega)
  ·
    try dsimp +instances only
    exact zOp.ret (by omega)
def fw_li_make (a : Nat) (j : Int) : Bool := ((decide (136 ≤ a) && decide (a ≤ 141))) || ((a == 142) || false)
set_option maxHeartbeats 4000000 in
theorem g_li_make_L27_sp {σ0 : zS} : ∀ (n : Nat) (x1 : Int) (x2 : Int) (x3 : Int) (σ : zS), CI σ → fr (fw_li_make) σ0 σ → (0 ≤ x1 ∧ x1 < 6 ∧ x2 ≤ 60 ∧ 0 ≤ x3 ∧ x3 ≤ 60) → (60 - x3) < (n : Int) → zO (g_li_make_L27 n x1 x2 x3 σ) (fun v s => CI s ∧ fr (fw_li_make) σ0 s ∧ (True))
  | 0, _, _, _, σ, _, _, hi, hm => by exfalso; omega
  | n + 1, x1, x2, x3, σ, H, F, hi, hm => by
    unfold g_li_make_L27
    try dsimp +instances only
    refine zO.ite (fun c_1 => ?_) (fun c_1 => ?_)
    ·
      try dsimp +instances only
      exact zO.ret ⟨H, F, trivial⟩
    ·
      try dsimp +instances only
      refine zO.gd (by omega) ?_
      try dsimp +instances only
      generalize hv_A_37 : 136 + (x1).toNat = A_37
      have rv_A_37 : 136 ≤ A_37 ∧ A_37 ≤ 141 := by omega
      refine zO.gd (by omega) ?_
      try dsimp +instances only
      generalize hs_s_40 : zu σ A_37 x3 0 = s_40
      have H_40 : CI s_40 := by rw [← hs_s_40]; exact CI_zun H (by omega) (by omega) (rng_row rv_A_37)
      have F_40 : fr (fw_li_make) σ0 s_40 := by rw [← hs_s_40]; exact fr.zu F (by omega) (bl (row_mem rv_A_37))
      try have ew_2 := w32_id (x := x3 + 1) (by omega) (by omega)
      exact g_li_make_L27_sp n x1 x2 (w32 (x3 + 1)) s_40 H_40 F_40 (by omega) (by omega)
theorem g_li_make_sp {x1 : Int} {x2 : Int} {σ : zS} (H : CI σ) : zO (g_li_make x1 x2 σ) (fun v s => CI s ∧ fr (fw_li_make) σ s ∧ (True)) := by
  have F : fr (fw_li_make) σ σ := fr.refl σ
  unfold g_li_make
  try dsimp +instances only
  refine zO.bindp (g_li_isList_sp) (fun r_1 p_1 => ?_)
  try dsimp +instances only
  refine zO.ite (fun c_4 => ?_) (fun c_4 => ?_)
  ·
    try dsimp +instances only
    exact zO.ret ⟨H, F, trivial⟩
  ·
    try dsimp +instances only
    refine zO.ite (fun c_5 => ?_) (fun c_5 => ?_)
    ·
      try dsimp +instances only
      exact zO.ret ⟨H, F, trivial⟩
    ·
      try dsimp +instances only
      refine zO.ite (fun c_6 => ?_) (fun c_6 => ?_)
      ·
        try dsimp +instances only
        refine zO.gd (by omega) ?_
        try dsimp +instances only
        generalize hs_s_24 : zu σ 142 x1 x2 = s_24
        have H_24 : CI s_24 := by rw [← hs_s_24]; exact CI_zuy H (by omega) (by omega) (lo := -1) (hi := 60) rfl (by omega) (by omega)
        have F_24 : fr (fw_li_make) σ s_24 := by rw [← hs_s_24]; exact fr.zu F (by omega) (br (bl (beq_self_eq_true _)))
        exact g_li_make_L27_sp zK x1 x2 0 s_24 H_24 F_24 (by omega) (by show _ < (1000000 : Int); omega)
      ·
        try dsimp +instances only
        exact zO.ret ⟨H, F, trivial⟩
theorem g_li_hasPlace_sp {x1 : Int} {x2 : Int} {σ : zS} (H : CI σ) : zOp (g_li_hasPlace x1 x2 σ) σ (fun v => (v ≠ 0 ↔ (0 ≤ x1 ∧ x1 < 6 ∧ 0 ≤ x2 ∧ x2 < σ 142 x1)) ∧ (v ≠ 0 → x2 < 60)) := by
  unfold g_li_hasPlace
  try dsimp +instances only
  refine zOp.bindp (g_li_isList_sp) (fun r_1 p_1 => ?_)
  try dsimp +instances only
  refine zOp.ite (fun c_2 => ?_) (fun c_2 => ?_)
  ·
    try dsimp +instances only
    exact zOp.ret (by omega)
  ·
    try dsimp +instances only
    refine zOp.ite (fun c_3 => ?_) (fun c_3 => ?_)
    ·
      try dsimp +instances only
      exact zOp.ret (by omega)
    ·
      try dsimp +instances only
      refine zOp.gd (by omega) ?_
      try dsimp +instances only
      generalize hv_v_17 : σ 142 x1 = v_17
      have rv_v_17 := CI.cl (j := x1) H
      rw [hv_v_17] at rv_v_17
      refine zOp.ite (fun c_4 => ?_) (fun c_4 => ?_)
      ·
        try dsimp +instances only
        exact zOp.ret (by omega)
      ·
        try dsimp +instances only
        refine zOp.ite (fun c_5 => ?_) (fun c_5 => ?_)
        ·
          try dsimp +instances only
          exact zOp.ret (by omega)
        ·
          try dsimp +instances only
          exact zOp.ret (by omega)
theorem g_li_hasSpan_sp {x1 : Int} {x2 : Int} {x3 : Int} {σ : zS} (H : CI σ) : zOp (g_li_hasSpan x1 x2 x3 σ) σ (fun v => (v ≠ 0 ↔ (0 ≤ x1 ∧ x1 < 6 ∧ 0 ≤ x2 ∧ 0 ≤ x3 ∧ x2 ≤ σ 142 x1 ∧ x3 ≤ σ 142 x1 - x2)) ∧ (v ≠ 0 → x2 + x3 ≤ 60)) := by
  unfold g_li_hasSpan
  try dsimp +instances only
  refine zOp.bindp (g_li_isList_sp) (fun r_1 p_1 => ?_)
  try dsimp +instances only
  refine zOp.ite (fun c_2 => ?_) (fun c_2 => ?_)
  ·
    try dsimp +instances only
    exact zOp.ret (by omega)
  ·
    try dsimp +instances only
    refine zOp.ite (fun c_3 => ?_) (fun c_3 => ?_)
    ·
      try dsimp +instances only
      exact zOp.ret (by omega)
    ·
      try dsimp +instances only
      refine zOp.ite (fun c_4 => ?_) (fun c_4 => ?_)
      ·
        try dsimp +instances only
        exact zOp.ret (by omega)
      ·
        try dsimp +instances only
        refine zOp.gd (by omega) ?_
        try dsimp +instances only
        generalize hv_v_21 : σ 142 x1 = v_21
        have rv_v_21 := CI.cl (j := x1) H
        rw [hv_v_21] at rv_v_21
        refine zOp.ite (fun c_5 => ?_) (fun c_5 => ?_)
        ·
          try dsimp +instances only
          exact zOp.ret (by omega)
        ·
          try dsimp +instances only
          refine zOp.gd (by omega) ?_
          try dsimp +instances only
          try have ew_6 := w32_id (x := v_21 - x2) (by omega) (by omega)
          refine zOp.ite (fun c_7 => ?_) (fun c_7 => ?_)
          ·
            try dsimp +instances only
            exact zOp.ret (by omega)
          ·
            try dsimp +instances only
            exact zOp.ret (by omega)
def fw_li_layFrom (a : Nat) (j : Int) : Bool := ((decide (136 ≤ a) && decide (a ≤ 141))) || false
set_option maxHeartbeats 4000000 in
theorem g_li_layFrom_L3_sp {σ0 : zS} : ∀ (n : Nat) (x1 : Int) (x2 : Int) (x4 : Int) (σ : zS), CI σ → fr (fw_li_layFrom) σ0 σ → (0 ≤ x4 ∧ x4 ≤ 60) → (60 - x4) < (n : Int) → zO (g_li_layFrom_L3 n x1 x2 x4 σ) (fun v s => CI s ∧ fr (fw_li_layFrom) σ0 s ∧ (True))
  | 0, _, _, _, σ, _, _, hi, hm => by exfalso; omega
  | n + 1, x1, x2, x4, σ, H, F, hi, hm => by
    unfold g_li_layFrom_L3
    try dsimp +instances only
    generalize hv_v_6 : σ 60 2 = v_6
    have rv_v_6 := CI.cf (a := 60) H (by omega)
    rw [hv_v_6] at rv_v_6
    refine zO.ite (fun c_1 => ?_) (fun c_1 => ?_)
    ·
      try dsimp +instances only
      unfold g_li_layFrom_L62
      try dsimp +instances only
      generalize hv_v_63 : σ 60 2 = v_63
      have rv_v_63 := CI.cf (a := 60) H (by omega)
      rw [hv_v_63] at rv_v_63
      exact zO.ret ⟨H, F, trivial⟩
    ·
      try dsimp +instances only
      refine zO.ite (fun c_2 => ?_) (fun c_2 => ?_)
      ·
        try dsimp +instances only
        unfold g_li_layFrom_L62
        try dsimp +instances only
        generalize hv_v_63 : σ 60 2 = v_63
        have rv_v_63 := CI.cf (a := 60) H (by omega)
        rw [hv_v_63] at rv_v_63
        exact zO.ret ⟨H, F, trivial⟩
      ·
        try dsimp +instances only
        refine zO.ite (fun c_3 => ?_) (fun c_3 => ?_)
        ·
          try dsimp +instances only
          exact zO.ret ⟨H, F, trivial⟩
        ·
          try dsimp +instances only
          try have ew_4 := w32_id (x := x2 + x4) (by omega) (by omega)
          refine zO.bindp (g_li_hasPlace_sp H) (fun r_29 p_29 => ?_)
          try dsimp +instances only
          refine zO.ite (fun c_6 => ?_) (fun c_6 => ?_)
          ·
            try dsimp +instances only
            refine zO.gd (by omega) ?_
            try dsimp +instances only
            generalize hv_A_43 : 136 + (x1).toNat = A_43
            have rv_A_43 : 136 ≤ A_43 ∧ A_43 ≤ 141 := by omega
            refine zO.gd (by omega) ?_
            try dsimp +instances only
            generalize hv_v_54 : σ 62 x4 = v_54
            refine zO.gd (by omega) ?_
            try dsimp +instances only
            generalize hs_s_55 : zu σ A_43 (w32 (x2 + x4)) v_54 = s_55
            have H_55 : CI s_55 := by rw [← hs_s_55]; exact CI_zun H (by omega) (by omega) (rng_row rv_A_43)
            have F_55 : fr (fw_li_layFrom) σ0 s_55 := by rw [← hs_s_55]; exact fr.zu F (by omega) (bl (row_mem rv_A_43))
            try have ew_7 := w32_id (x := x4 + 1) (by omega) (by omega)
            exact g_li_layFrom_L3_sp n x1 x2 (w32 (x4 + 1)) s_55 H_55 F_55 (by omega) (by omega)
          ·
            try dsimp +instances only
            exact zO.ret ⟨H, F, trivial⟩
theorem g_li_layFrom_sp {x1 : Int} {x2 : Int} {σ : zS} (H : CI σ) : zO (g_li_layFrom x1 x2 σ) (fun v s => CI s ∧ fr (fw_li_layFrom) σ s ∧ (True)) := by
  have F : fr (fw_li_layFrom) σ σ := fr.refl σ
  unfold g_li_layFrom
  try dsimp +instances only
  exact g_li_layFrom_L3_sp zK x1 x2 0 σ H F (by omega) (by show _ < (1000000 : Int); omega)
set_option maxHeartbeats 4000000 in
theorem g_li_judgeFrom_L10_sp {σ : zS} : ∀ (n : Nat) (x1 : Int) (x2 : Int) (x4 : Int) (H : CI σ), (0 ≤ x4 ∧ x4 ≤ 60) → (60 - x4) < (n : Int) → zOp (g_li_judgeFrom_L10 n x1 x2 x4 σ) σ (fun v => True)
  | 0, _, _, _, _, hi, hm => by exfalso; omega
  | n + 1, x1, x2, x4, H, hi, hm => by
    unfold g_li_judgeFrom_L10
    try dsimp +instances only
    generalize hv_v_13 : σ 60 2 = v_13
    have rv_v_13 := CI.cf (a := 60) H (by omega)
    rw [hv_v_13] at rv_v_13
    refine zOp.ite (fun c_1 => ?_) (fun c_1 => ?_)
    ·
      try dsimp +instances only
      exact zOp.ret trivial
    ·
      try dsimp +instances only
      refine zOp.ite (fun c_2 => ?_) (fun c_2 => ?_)
      ·
        try dsimp +instances only
        exact zOp.ret trivial
      ·
        try dsimp +instances only
        try have ew_3 := w32_id (x := x2 + x4) (by omega) (by omega)
        refine zOp.bindp (g_li_hasPlace_sp H) (fun r_32 p_32 => ?_)
        try dsimp +instances only
        refine zOp.ite (fun c_5 => ?_) (fun c_5 => ?_)
        ·
          try dsimp +instances only
          refine zOp.gd (by omega) ?_
          try dsimp +instances only
          generalize hv_A_49 : 136 + (x1).toNat = A_49
          have rv_A_49 : 136 ≤ A_49 ∧ A_49 ≤ 141 := by omega
          refine zOp.gd (by omega) ?_
          try dsimp +instances only
          generalize hv_v_54 : σ A_49 (w32 (x2 + x4)) = v_54
          refine zOp.gd (by omega) ?_
          try dsimp +instances only
          generalize hv_v_61 : σ 62 x4 = v_61
          refine zOp.ite (fun c_6 => ?_) (fun c_6 => ?_)
          ·
            try dsimp +instances only
            try have ew_7 := w32_id (x := x4 + 1) (by omega) (by omega)
            exact g_li_judgeFrom_L10_sp n x1 x2 (w32 (x4 + 1)) H (by omega) (by omega)
          ·
            try dsimp +instances only
            exact zOp.ret trivial
        ·
          try dsimp +instances only
          try have ew_8 := w32_id (x := 100 + x4) (by omega) (by omega)
          exact zOp.ret trivial
theorem g_li_judgeFrom_sp {x1 : Int} {x2 : Int} {σ : zS} (H : CI σ) : zOp (g_li_judgeFrom x1 x2 σ) σ (fun v => True) := by
  unfold g_li_judgeFrom
  try dsimp +instances only
  refine zOp.ite (fun c_9 => ?_) (fun c_9 => ?_)
  ·
    try dsimp +instances only
    exact g_li_judgeFrom_L10_sp zK x1 x2 0 H (by omega) (by show _ < (1000000 : Int); omega)
  ·
    try dsimp +instances only
    exact zOp.ret trivial
