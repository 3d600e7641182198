/-! THE CLASS over the typed memory: each method answers, keeps the invariant, changes what fw_.. names (printed by wip/zv.py) -/
theorem g_ta_here_sp {σ : zS} (H : CI σ) : zOp (g_ta_here σ) σ (fun v => v ≠ 0 → 0 ≤ σ 120 2 ∧ σ 120 2 < σ 120 1) := by
  have ri_120_2 := CI.ca H
  have ri_120_1 := CI.ct H
  unfold g_ta_here
  try dsimp +instances only
  generalize hv_v_1 : σ 120 3 = v_1
  refine zOp.ite (fun c_1 => ?_) (fun c_1 => ?_)
  ·
    try dsimp +instances only
    exact zOp.ret (by omega)
  ·
    try dsimp +instances only
    generalize hv_v_9 : σ 120 2 = v_9
    have rv_v_9 := CI.ca H
    rw [hv_v_9] at rv_v_9
    refine zOp.ite (fun c_2 => ?_) (fun c_2 => ?_)
    ·
      try dsimp +instances only
      exact zOp.ret (by omega)
    ·
      try dsimp +instances only
      generalize hv_v_20 : σ 120 1 = v_20
      have rv_v_20 := CI.ct H
      rw [hv_v_20] at rv_v_20
      refine zOp.ite (fun c_3 => ?_) (fun c_3 => ?_)
      ·
        try dsimp +instances only
        exact zOp.ret (by omega)
      ·
        try dsimp +instances only
        refine zOp.ite (fun c_4 => ?_) (fun c_4 => ?_)
        ·
          try dsimp +instances only
          exact zOp.ret (by omega)
        ·
          try dsimp +instances only
          refine zOp.gd (by omega) ?_
          try dsimp +instances only
          generalize hv_v_44 : σ 121 v_9 = v_44
          exact zOp.ret (by omega)
theorem g_ta_isSound_sp {σ : zS} : zOp (g_ta_isSound σ) σ (fun v => True) := by
  unfold g_ta_isSound
  try dsimp +instances only
  generalize hv_v_1 : σ 120 3 = v_1
  refine zOp.ite (fun c_1 => ?_) (fun c_1 => ?_)
  ·
    try dsimp +instances only
    exact zOp.ret trivial
  ·
    try dsimp +instances only
    exact zOp.ret trivial
def fw_ta_blame (a : Nat) (j : Int) : Bool := ((a == 120 && j == 3)) || false
theorem g_ta_blame_sp {x1 : Int} {σ : zS} (H : CI σ) : zO (g_ta_blame x1 σ) (fun v s => CI s ∧ fr (fw_ta_blame) σ s ∧ (True)) := by
  have F : fr (fw_ta_blame) σ σ := fr.refl σ
  unfold g_ta_blame
  try dsimp +instances only
  generalize hv_v_1 : σ 120 3 = v_1
  refine zO.ite (fun c_1 => ?_) (fun c_1 => ?_)
  ·
    try dsimp +instances only
    exact zO.ret ⟨H, F, trivial⟩
  ·
    try dsimp +instances only
    generalize hs_s_10 : zu σ 120 3 x1 = s_10
    have H_10 : CI s_10 := by rw [← hs_s_10]; exact CI_zun H (by omega) (by omega) rfl
    have F_10 : fr (fw_ta_blame) σ s_10 := by rw [← hs_s_10]; exact fr.zu F (by omega) (bl (zbb _ _))
    exact zO.ret ⟨H_10, F_10, trivial⟩
def fw_ta_wants (a : Nat) (j : Int) : Bool := (fw_ta_blame a j) || (((a == 120 && j == 2)) || false)
theorem g_ta_wants_sp {x1 : Int} {σ : zS} (H : CI σ) (hp : x1 ≠ 0) : zO (g_ta_wants x1 σ) (fun v s => CI s ∧ fr (fw_ta_wants) σ s ∧ (True)) := by
  have F : fr (fw_ta_wants) σ σ := fr.refl σ
  have ri_120_1 := CI.ct H
  unfold g_ta_wants
  try dsimp +instances only
  refine zO.bindp (g_ta_here_sp H) (fun r_1 p_1 => ?_)
  try dsimp +instances only
  refine zO.ite (fun c_2 => ?_) (fun c_2 => ?_)
  ·
    try dsimp +instances only
    generalize hv_v_23 : σ 120 2 = v_23
    have rv_v_23 := CI.ca H
    rw [hv_v_23] at rv_v_23
    refine zO.bind (g_ta_blame_sp H) (fun r_26 t_26 p_26 => ?_)
    obtain ⟨H_26, G_26, q_26⟩ := p_26
    try dsimp +instances only
    have F_26 := F.trans (fr.mono G_26 (fun a j h => ffl h))
    have e_t_26_120_1 := G_26 120 1 (Or.inr rfl)
    exact zO.ret ⟨H_26, F_26, trivial⟩
  ·
    try dsimp +instances only
    generalize hv_v_10 : σ 120 2 = v_10
    have rv_v_10 := CI.ca H
    rw [hv_v_10] at rv_v_10
    try have ew_4 := w32_id (x := v_10 + 1) (by omega) (by omega)
    generalize hs_s_15 : zu σ 120 2 (w32 (v_10 + 1)) = s_15
    have H_15 : CI s_15 := by rw [← hs_s_15]; exact CI_zuy H (by omega) (by omega) (lo := 0) (hi := 160) rfl (by omega) (by omega)
    have F_15 : fr (fw_ta_wants) σ s_15 := by rw [← hs_s_15]; exact fr.zu F (by omega) (br (bl (zbb _ _)))
    have e_s_15_120_1 : s_15 120 1 = σ 120 1 := by rw [← hs_s_15]; exact zu_c (by omega)
    exact zO.ret ⟨H_15, F_15, trivial⟩
def fw_ta_takes (a : Nat) (j : Int) : Bool := ((a == 120 && j == 2)) || false
theorem g_ta_takes_sp {x1 : Int} {σ : zS} (H : CI σ) (hp : x1 ≠ 0) : zO (g_ta_takes x1 σ) (fun v s => CI s ∧ fr (fw_ta_takes) σ s ∧ (True)) := by
  have F : fr (fw_ta_takes) σ σ := fr.refl σ
  have ri_120_1 := CI.ct H
  unfold g_ta_takes
  try dsimp +instances only
  refine zO.bindp (g_ta_here_sp H) (fun r_1 p_1 => ?_)
  try dsimp +instances only
  refine zO.ite (fun c_2 => ?_) (fun c_2 => ?_)
  ·
    try dsimp +instances only
    generalize hv_v_12 : σ 120 2 = v_12
    have rv_v_12 := CI.ca H
    rw [hv_v_12] at rv_v_12
    try have ew_3 := w32_id (x := v_12 + 1) (by omega) (by omega)
    generalize hs_s_17 : zu σ 120 2 (w32 (v_12 + 1)) = s_17
    have H_17 : CI s_17 := by rw [← hs_s_17]; exact CI_zuy H (by omega) (by omega) (lo := 0) (hi := 160) rfl (by omega) (by omega)
    have F_17 : fr (fw_ta_takes) σ s_17 := by rw [← hs_s_17]; exact fr.zu F (by omega) (bl (zbb _ _))
    have e_s_17_120_1 : s_17 120 1 = σ 120 1 := by rw [← hs_s_17]; exact zu_c (by omega)
    exact zO.ret ⟨H_17, F_17, trivial⟩
  ·
    try dsimp +instances only
    exact zO.ret ⟨H, F, trivial⟩
def fw_ta_oneOf (a1 : Nat) (a : Nat) (j : Int) : Bool := ((a == 120 && j == 2)) || ((fw_ta_blame a j) || false)
theorem g_ta_oneOf_sp {a1 : Nat} (ha1 : a1 = 6 ∨ a1 = 7) {σ : zS} (H : CI σ) : zO (g_ta_oneOf a1 σ) (fun v s => CI s ∧ fr (fw_ta_oneOf a1) σ s ∧ (True)) := by
  have F : fr (fw_ta_oneOf a1) σ σ := fr.refl σ
  have ri_120_1 := CI.ct H
  unfold g_ta_oneOf
  try dsimp +instances only
  refine zO.bindp (g_ta_here_sp H) (fun r_2 p_2 => ?_)
  try dsimp +instances only
  refine zO.bindp (g_jString_indexOf_295_sp (by omega)) (fun r_6 p_6 => ?_)
  try dsimp +instances only
  have hw : r_2 = 0 → w16 r_2 = 0 := fun h => by rw [h]; rfl
  refine zO.ite (fun c_3 => ?_) (fun c_3 => ?_)
  ·
    try dsimp +instances only
    generalize hv_v_27 : σ 120 2 = v_27
    have rv_v_27 := CI.ca H
    rw [hv_v_27] at rv_v_27
    try have ew_4 := w32_id (x := v_27 + 1) (by omega) (by omega)
    generalize hs_s_32 : zu σ 120 2 (w32 (v_27 + 1)) = s_32
    have H_32 : CI s_32 := by rw [← hs_s_32]; exact CI_zuy H (by omega) (by omega) (lo := 0) (hi := 160) rfl (by omega) (by omega)
    have F_32 : fr (fw_ta_oneOf a1) σ s_32 := by rw [← hs_s_32]; exact fr.zu F (by omega) (bl (zbb _ _))
    have e_s_32_120_1 : s_32 120 1 = σ 120 1 := by rw [← hs_s_32]; exact zu_c (by omega)
    exact zO.ret ⟨H_32, F_32, trivial⟩
  ·
    try dsimp +instances only
    generalize hv_v_16 : σ 120 2 = v_16
    have rv_v_16 := CI.ca H
    rw [hv_v_16] at rv_v_16
    refine zO.bind (g_ta_blame_sp H) (fun r_19 t_19 p_19 => ?_)
    obtain ⟨H_19, G_19, q_19⟩ := p_19
    try dsimp +instances only
    have F_19 := F.trans (fr.mono G_19 (fun a j h => ffl (ffr h)))
    have e_t_19_120_1 := G_19 120 1 (Or.inr rfl)
    exact zO.ret ⟨H_19, F_19, trivial⟩
def fw_ta_number (a : Nat) (j : Int) : Bool := (fw_ta_blame a j) || (((a == 120 && j == 2)) || false)
set_option maxHeartbeats 4000000 in
theorem g_ta_number_L12_sp {σ0 : zS} : ∀ (n : Nat) (x1 : Int) (x2 : Int) (x3 : Int) (x4 : Int) (x5 : Int) (x6 : Int) (σ : zS), CI σ → fr (fw_ta_number) σ0 σ → (x1 ≤ 10 ∧ 0 ≤ x6 ∧ x6 ≤ 10) → (10 - x6) < (n : Int) → zO (g_ta_number_L12 n x1 x2 x3 x4 x5 x6 σ) (fun v s => CI s ∧ fr (fw_ta_number) σ0 s ∧ (True))
  | 0, _, _, _, _, _, _, σ, _, _, hi, hm => by exfalso; omega
  | n + 1, x1, x2, x3, x4, x5, x6, σ, H, F, hi, hm => by
    have ri_120_1 := CI.ct H
    unfold g_ta_number_L12
    try dsimp +instances only
    refine zO.ite (fun c_1 => ?_) (fun c_1 => ?_)
    ·
      try dsimp +instances only
      unfold g_ta_number_L67
      try dsimp +instances only
      generalize hv_v_68 : σ 120 2 = v_68
      have rv_v_68 := CI.ca H
      rw [hv_v_68] at rv_v_68
      refine zO.ite (fun c_2 => ?_) (fun c_2 => ?_)
      ·
        try dsimp +instances only
        unfold g_ta_number_L88
        try dsimp +instances only
        refine zO.bind (g_ta_blame_sp H) (fun r_91 t_91 p_91 => ?_)
        obtain ⟨H_91, G_91, q_91⟩ := p_91
        try dsimp +instances only
        have F_91 := F.trans (fr.mono G_91 (fun a j h => ffl h))
        have e_t_91_120_1 := G_91 120 1 (Or.inr rfl)
        exact zO.ret ⟨H_91, F_91, trivial⟩
      ·
        try dsimp +instances only
        refine zO.ite (fun c_4 => ?_) (fun c_4 => ?_)
        ·
          try dsimp +instances only
          unfold g_ta_number_L88
          try dsimp +instances only
          refine zO.bind (g_ta_blame_sp H) (fun r_91 t_91 p_91 => ?_)
          obtain ⟨H_91, G_91, q_91⟩ := p_91
          try dsimp +instances only
          have F_91 := F.trans (fr.mono G_91 (fun a j h => ffl h))
          have e_t_91_120_1 := G_91 120 1 (Or.inr rfl)
          exact zO.ret ⟨H_91, F_91, trivial⟩
        ·
          try dsimp +instances only
          refine zO.ite (fun c_6 => ?_) (fun c_6 => ?_)
          ·
            try dsimp +instances only
            exact zO.ret ⟨H, F, trivial⟩
          ·
            try dsimp +instances only
            unfold g_ta_number_L88
            try dsimp +instances only
            refine zO.bind (g_ta_blame_sp H) (fun r_91 t_91 p_91 => ?_)
            obtain ⟨H_91, G_91, q_91⟩ := p_91
            try dsimp +instances only
            have F_91 := F.trans (fr.mono G_91 (fun a j h => ffl h))
            have e_t_91_120_1 := G_91 120 1 (Or.inr rfl)
            exact zO.ret ⟨H_91, F_91, trivial⟩
    ·
      try dsimp +instances only
      refine zO.bindp (g_ta_here_sp H) (fun r_19 p_19 => ?_)
      try dsimp +instances only
      refine zO.ite (fun c_9 => ?_) (fun c_9 => ?_)
      ·
        try dsimp +instances only
        unfold g_ta_number_L67
        try dsimp +instances only
        generalize hv_v_68 : σ 120 2 = v_68
        have rv_v_68 := CI.ca H
        rw [hv_v_68] at rv_v_68
        refine zO.ite (fun c_10 => ?_) (fun c_10 => ?_)
        ·
          try dsimp +instances only
          unfold g_ta_number_L88
          try dsimp +instances only
          refine zO.bind (g_ta_blame_sp H) (fun r_91 t_91 p_91 => ?_)
          obtain ⟨H_91, G_91, q_91⟩ := p_91
          try dsimp +instances only
          have F_91 := F.trans (fr.mono G_91 (fun a j h => ffl h))
          have e_t_91_120_1 := G_91 120 1 (Or.inr rfl)
          exact zO.ret ⟨H_91, F_91, trivial⟩
        ·
          try dsimp +instances only
          refine zO.ite (fun c_12 => ?_) (fun c_12 => ?_)
          ·
            try dsimp +instances only
            unfold g_ta_number_L88
            try dsimp +instances only
            refine zO.bind (g_ta_blame_sp H) (fun r_91 t_91 p_91 => ?_)
            obtain ⟨H_91, G_91, q_91⟩ := p_91
            try dsimp +instances only
            have F_91 := F.trans (fr.mono G_91 (fun a j h => ffl h))
            have e_t_91_120_1 := G_91 120 1 (Or.inr rfl)
            exact zO.ret ⟨H_91, F_91, trivial⟩
          ·
            try dsimp +instances only
            refine zO.ite (fun c_14 => ?_) (fun c_14 => ?_)
            ·
              try dsimp +instances only
              exact zO.ret ⟨H, F, trivial⟩
            ·
              try dsimp +instances only
              unfold g_ta_number_L88
              try dsimp +instances only
              refine zO.bind (g_ta_blame_sp H) (fun r_91 t_91 p_91 => ?_)
              obtain ⟨H_91, G_91, q_91⟩ := p_91
              try dsimp +instances only
              have F_91 := F.trans (fr.mono G_91 (fun a j h => ffl h))
              have e_t_91_120_1 := G_91 120 1 (Or.inr rfl)
              exact zO.ret ⟨H_91, F_91, trivial⟩
      ·
        try dsimp +instances only
        refine zO.bindp (g_ta_here_sp H) (fun r_28 p_28 => ?_)
        try dsimp +instances only
        refine zO.ite (fun c_17 => ?_) (fun c_17 => ?_)
        ·
          try dsimp +instances only
          unfold g_ta_number_L67
          try dsimp +instances only
          generalize hv_v_68 : σ 120 2 = v_68
          have rv_v_68 := CI.ca H
          rw [hv_v_68] at rv_v_68
          refine zO.ite (fun c_18 => ?_) (fun c_18 => ?_)
          ·
            try dsimp +instances only
            unfold g_ta_number_L88
            try dsimp +instances only
            refine zO.bind (g_ta_blame_sp H) (fun r_91 t_91 p_91 => ?_)
            obtain ⟨H_91, G_91, q_91⟩ := p_91
            try dsimp +instances only
            have F_91 := F.trans (fr.mono G_91 (fun a j h => ffl h))
            have e_t_91_120_1 := G_91 120 1 (Or.inr rfl)
            exact zO.ret ⟨H_91, F_91, trivial⟩
          ·
            try dsimp +instances only
            refine zO.ite (fun c_20 => ?_) (fun c_20 => ?_)
            ·
              try dsimp +instances only
              unfold g_ta_number_L88
              try dsimp +instances only
              refine zO.bind (g_ta_blame_sp H) (fun r_91 t_91 p_91 => ?_)
              obtain ⟨H_91, G_91, q_91⟩ := p_91
              try dsimp +instances only
              have F_91 := F.trans (fr.mono G_91 (fun a j h => ffl h))
              have e_t_91_120_1 := G_91 120 1 (Or.inr rfl)
              exact zO.ret ⟨H_91, F_91, trivial⟩
            ·
              try dsimp +instances only
              refine zO.ite (fun c_22 => ?_) (fun c_22 => ?_)
              ·
                try dsimp +instances only
                exact zO.ret ⟨H, F, trivial⟩
              ·
                try dsimp +instances only
                unfold g_ta_number_L88
                try dsimp +instances only
                refine zO.bind (g_ta_blame_sp H) (fun r_91 t_91 p_91 => ?_)
                obtain ⟨H_91, G_91, q_91⟩ := p_91
                try dsimp +instances only
                have F_91 := F.trans (fr.mono G_91 (fun a j h => ffl h))
                have e_t_91_120_1 := G_91 120 1 (Or.inr rfl)
                exact zO.ret ⟨H_91, F_91, trivial⟩
        ·
          try dsimp +instances only
          refine zO.bindp (g_ta_here_sp H) (fun r_42 p_42 => ?_)
          try dsimp +instances only
          generalize hv_v_53 : σ 120 2 = v_53
          have rv_v_53 := CI.ca H
          rw [hv_v_53] at rv_v_53
          try have ew_25 := w32_id (x := v_53 + 1) (by omega) (by omega)
          generalize hs_s_58 : zu σ 120 2 (w32 (v_53 + 1)) = s_58
          have H_58 : CI s_58 := by rw [← hs_s_58]; exact CI_zuy H (by omega) (by omega) (lo := 0) (hi := 160) rfl (by omega) (by omega)
          have F_58 : fr (fw_ta_number) σ0 s_58 := by rw [← hs_s_58]; exact fr.zu F (by omega) (br (bl (zbb _ _)))
          have e_s_58_120_1 : s_58 120 1 = σ 120 1 := by rw [← hs_s_58]; exact zu_c (by omega)
          try have ew_26 := w32_id (x := x6 + 1) (by omega) (by omega)
          try have ew_27 := w32_id (x := x5 * 10) (by omega) (by omega)
          try have ew_28 := w32_id (x := (w32 (x5 * 10)) + r_42) (by omega) (by omega)
          try have ew_29 := w32_id (x := (w32 ((w32 (x5 * 10)) + r_42)) - 48) (by omega) (by omega)
          exact g_ta_number_L12_sp n x1 x2 x3 x4 (w32 ((w32 ((w32 (x5 * 10)) + r_42)) - 48)) (w32 (x6 + 1)) s_58 H_58 F_58 (by omega) (by omega)
theorem g_ta_number_sp {x1 : Int} {x2 : Int} {x3 : Int} {σ : zS} (H : CI σ) (hp : x1 ≤ 10) : zO (g_ta_number x1 x2 x3 σ) (fun v s => CI s ∧ fr (fw_ta_number) σ s ∧ (True)) := by
  have F : fr (fw_ta_number) σ σ := fr.refl σ
  have ri_120_1 := CI.ct H
  unfold g_ta_number
  try dsimp +instances only
  generalize hv_v_1 : σ 120 2 = v_1
  have rv_v_1 := CI.ca H
  rw [hv_v_1] at rv_v_1
  exact g_ta_number_L12_sp zK x1 x2 x3 v_1 0 0 σ H F (by omega) (by show _ < (1000000 : Int); omega)
set_option maxHeartbeats 4000000 in
theorem g_ta_isSame_L40_sp {a1 : Nat} (ha1 : a1 = 1 ∨ a1 = 2 ∨ a1 = 3 ∨ a1 = 4 ∨ a1 = 5) {σ : zS} : ∀ (n : Nat) (x2 : Int) (x3 : Int) (x4 : Int) (x5 : Int) (H : CI σ), (0 ≤ x2 ∧ x2 ≤ 101 ∧ 0 ≤ x3 ∧ x3 ≤ 101 ∧ 0 ≤ x4 ∧ x4 + (x3 - x2) ≤ 160 ∧ 0 ≤ x5 ∧ x5 ≤ 101) → (101 - x5) < (n : Int) → zOp (g_ta_isSame_L40 a1 n x2 x3 x4 x5 σ) σ (fun v => True)
  | 0, _, _, _, _, _, hi, hm => by exfalso; omega
  | n + 1, x2, x3, x4, x5, H, hi, hm => by
    have hzs := zLI_str (a := a1) (by omega) (by omega)
    unfold g_ta_isSame_L40
    try dsimp +instances only
    try have ew_1 := w32_id (x := x3 - x2) (by omega) (by omega)
    refine zOp.ite (fun c_2 => ?_) (fun c_2 => ?_)
    ·
      try dsimp +instances only
      exact zOp.ret trivial
    ·
      try dsimp +instances only
      refine zOp.bindp (g_jString_length_sp (by omega)) (fun r_53 p_53 => ?_)
      try dsimp +instances only
      try have ew_4 := w32_id (x := x2 + x5) (by omega) (by omega)
      refine zOp.ite (fun c_5 => ?_) (fun c_5 => ?_)
      ·
        try dsimp +instances only
        exact zOp.ret trivial
      ·
        try dsimp +instances only
        try have ew_6 := w32_id (x := x4 + x5) (by omega) (by omega)
        refine zOp.gd (by omega) ?_
        try dsimp +instances only
        generalize hv_v_68 : σ 121 (w32 (x4 + x5)) = v_68
        refine zOp.bindp (g_jString_charAt_sp (by omega) (by omega)) (fun r_74 p_74 => ?_)
        try dsimp +instances only
        refine zOp.ite (fun c_8 => ?_) (fun c_8 => ?_)
        ·
          try dsimp +instances only
          try have ew_9 := w32_id (x := x5 + 1) (by omega) (by omega)
          exact g_ta_isSame_L40_sp (by omega) n x2 x3 x4 (w32 (x5 + 1)) H (by omega) (by omega)
        ·
          try dsimp +instances only
          exact zOp.ret trivial
theorem g_ta_isSame_sp {a1 : Nat} (ha1 : a1 = 1 ∨ a1 = 2 ∨ a1 = 3 ∨ a1 = 4 ∨ a1 = 5) {x2 : Int} {x3 : Int} {x4 : Int} {σ : zS} (H : CI σ) (hp : 0 ≤ x2 ∧ x2 ≤ 101 ∧ 0 ≤ x3 ∧ x3 ≤ 101 ∧ 0 ≤ x4 ∧ x4 ≤ 160) : zOp (g_ta_isSame a1 x2 x3 x4 σ) σ (fun v => True) := by
  have hzs := zLI_str (a := a1) (by omega) (by omega)
  unfold g_ta_isSame
  try dsimp +instances only
  refine zOp.bindp (g_ta_isSound_sp) (fun r_1 p_1 => ?_)
  try dsimp +instances only
  refine zOp.ite (fun c_11 => ?_) (fun c_11 => ?_)
  ·
    try dsimp +instances only
    exact zOp.ret trivial
  ·
    try dsimp +instances only
    refine zOp.ite (fun c_12 => ?_) (fun c_12 => ?_)
    ·
      try dsimp +instances only
      exact zOp.ret trivial
    ·
      try dsimp +instances only
      generalize hv_v_13 : σ 120 2 = v_13
      have rv_v_13 := CI.ca H
      rw [hv_v_13] at rv_v_13
      refine zOp.ite (fun c_13 => ?_) (fun c_13 => ?_)
      ·
        try dsimp +instances only
        exact zOp.ret trivial
      ·
        try dsimp +instances only
        try have ew_14 := w32_id (x := x3 - x2) (by omega) (by omega)
        try have ew_15 := w32_id (x := v_13 - x4) (by omega) (by omega)
        refine zOp.ite (fun c_16 => ?_) (fun c_16 => ?_)
        ·
          try dsimp +instances only
          exact g_ta_isSame_L40_sp (by omega) zK x2 x3 x4 0 H (by omega) (by show _ < (1000000 : Int); omega)
        ·
          try dsimp +instances only
          exact zOp.ret trivial
def fw_ta_word (a1 : Nat) (a : Nat) (j : Int) : Bool := (fw_ta_blame a j) || (((a == 120 && j == 2)) || false)
set_option maxHeartbeats 4000000 in
theorem g_ta_word_L56_sp {a1 : Nat} (ha1 : a1 = 1 ∨ a1 = 2 ∨ a1 = 3 ∨ a1 = 4 ∨ a1 = 5) {σ0 : zS} : ∀ (n : Nat) (x2 : Int) (x3 : Int) (x4 : Int) (x5 : Int) (σ : zS), CI σ → fr (fw_ta_word a1) σ0 σ → (0 ≤ x2 ∧ x2 ≤ 160 ∧ 0 ≤ x4 ∧ x4 ≤ x5 ∧ x5 ≤ 101) → (101 - x5) < (n : Int) → zO (g_ta_word_L56 a1 n x2 x3 x4 x5 σ) (fun v s => CI s ∧ fr (fw_ta_word a1) σ0 s ∧ (True))
  | 0, _, _, _, _, σ, _, _, hi, hm => by exfalso; omega
  | n + 1, x2, x3, x4, x5, σ, H, F, hi, hm => by
    have ri_120_1 := CI.ct H
    have hzs := zLI_str (a := a1) (by omega) (by omega)
    unfold g_ta_word_L56
    try dsimp +instances only
    refine zO.bindp (g_jString_length_sp (by omega)) (fun r_59 p_59 => ?_)
    try dsimp +instances only
    refine zO.ite (fun c_2 => ?_) (fun c_2 => ?_)
    ·
      try dsimp +instances only
      refine zO.bind (g_ta_blame_sp H) (fun r_117 t_117 p_117 => ?_)
      obtain ⟨H_117, G_117, q_117⟩ := p_117
      try dsimp +instances only
      have F_117 := F.trans (fr.mono G_117 (fun a j h => ffl h))
      have e_t_117_120_1 := G_117 120 1 (Or.inr rfl)
      exact zO.ret ⟨H_117, F_117, trivial⟩
    ·
      try dsimp +instances only
      refine zO.bindp (g_jString_length_sp (by omega)) (fun r_68 p_68 => ?_)
      try dsimp +instances only
      refine zO.ite (fun c_5 => ?_) (fun c_5 => ?_)
      ·
        try dsimp +instances only
        unfold g_ta_word_L85
        try dsimp +instances only
        refine zO.bindp (g_ta_isSame_sp (by omega) H (by omega)) (fun r_92 p_92 => ?_)
        try dsimp +instances only
        refine zO.ite (fun c_7 => ?_) (fun c_7 => ?_)
        ·
          try dsimp +instances only
          try have ew_8 := w32_id (x := x3 + 1) (by omega) (by omega)
          try have ew_9 := w32_id (x := x5 + 1) (by omega) (by omega)
          unfold g_ta_word_L109
          try dsimp +instances only
          exact g_ta_word_L56_sp (by omega) n x2 (w32 (x3 + 1)) (w32 (x5 + 1)) (w32 (x5 + 1)) σ H F (by omega) (by omega)
        ·
          try dsimp +instances only
          exact zO.ret ⟨H, F, trivial⟩
      ·
        try dsimp +instances only
        refine zO.bindp (g_jString_charAt_sp (by omega) (by omega)) (fun r_77 p_77 => ?_)
        try dsimp +instances only
        refine zO.ite (fun c_11 => ?_) (fun c_11 => ?_)
        ·
          try dsimp +instances only
          unfold g_ta_word_L109
          try dsimp +instances only
          try have ew_12 := w32_id (x := x5 + 1) (by omega) (by omega)
          exact g_ta_word_L56_sp (by omega) n x2 x3 x4 (w32 (x5 + 1)) σ H F (by omega) (by omega)
        ·
          try dsimp +instances only
          unfold g_ta_word_L85
          try dsimp +instances only
          refine zO.bindp (g_ta_isSame_sp (by omega) H (by omega)) (fun r_92 p_92 => ?_)
          try dsimp +instances only
          refine zO.ite (fun c_14 => ?_) (fun c_14 => ?_)
          ·
            try dsimp +instances only
            try have ew_15 := w32_id (x := x3 + 1) (by omega) (by omega)
            try have ew_16 := w32_id (x := x5 + 1) (by omega) (by omega)
            unfold g_ta_word_L109
            try dsimp +instances only
            exact g_ta_word_L56_sp (by omega) n x2 (w32 (x3 + 1)) (w32 (x5 + 1)) (w32 (x5 + 1)) σ H F (by omega) (by omega)
          ·
            try dsimp +instances only
            exact zO.ret ⟨H, F, trivial⟩
set_option maxHeartbeats 4000000 in
theorem g_ta_word_L7_sp {a1 : Nat} (ha1 : a1 = 1 ∨ a1 = 2 ∨ a1 = 3 ∨ a1 = 4 ∨ a1 = 5) {σ0 : zS} : ∀ (n : Nat) (x2 : Int) (x3 : Int) (σ : zS), CI σ → fr (fw_ta_word a1) σ0 σ → (0 ≤ x2 ∧ x2 ≤ 160 ∧ 0 ≤ x3 ∧ x3 ≤ 160) → (160 - x3) < (n : Int) → zO (g_ta_word_L7 a1 n x2 x3 σ) (fun v s => CI s ∧ fr (fw_ta_word a1) σ0 s ∧ (True))
  | 0, _, _, σ, _, _, hi, hm => by exfalso; omega
  | n + 1, x2, x3, σ, H, F, hi, hm => by
    have ri_120_1 := CI.ct H
    have hzs := zLI_str (a := a1) (by omega) (by omega)
    unfold g_ta_word_L7
    try dsimp +instances only
    refine zO.ite (fun c_17 => ?_) (fun c_17 => ?_)
    ·
      try dsimp +instances only
      unfold g_ta_word_L48
      try dsimp +instances only
      exact g_ta_word_L56_sp (by omega) zK x2 0 0 0 σ H F (by omega) (by show _ < (1000000 : Int); omega)
    ·
      try dsimp +instances only
      refine zO.bindp (g_ta_here_sp H) (fun r_15 p_15 => ?_)
      try dsimp +instances only
      refine zO.ite (fun c_19 => ?_) (fun c_19 => ?_)
      ·
        try dsimp +instances only
        unfold g_ta_word_L48
        try dsimp +instances only
        exact g_ta_word_L56_sp (by omega) zK x2 0 0 0 σ H F (by omega) (by show _ < (1000000 : Int); omega)
      ·
        try dsimp +instances only
        refine zO.bindp (g_ta_here_sp H) (fun r_24 p_24 => ?_)
        try dsimp +instances only
        refine zO.ite (fun c_21 => ?_) (fun c_21 => ?_)
        ·
          try dsimp +instances only
          unfold g_ta_word_L48
          try dsimp +instances only
          exact g_ta_word_L56_sp (by omega) zK x2 0 0 0 σ H F (by omega) (by show _ < (1000000 : Int); omega)
        ·
          try dsimp +instances only
          generalize hv_v_34 : σ 120 2 = v_34
          have rv_v_34 := CI.ca H
          rw [hv_v_34] at rv_v_34
          try have ew_22 := w32_id (x := v_34 + 1) (by omega) (by omega)
          generalize hs_s_39 : zu σ 120 2 (w32 (v_34 + 1)) = s_39
          have H_39 : CI s_39 := by rw [← hs_s_39]; exact CI_zuy H (by omega) (by omega) (lo := 0) (hi := 160) rfl (by omega) (by omega)
          have F_39 : fr (fw_ta_word a1) σ0 s_39 := by rw [← hs_s_39]; exact fr.zu F (by omega) (br (bl (zbb _ _)))
          have e_s_39_120_1 : s_39 120 1 = σ 120 1 := by rw [← hs_s_39]; exact zu_c (by omega)
          try have ew_23 := w32_id (x := x3 + 1) (by omega) (by omega)
          exact g_ta_word_L7_sp (by omega) n x2 (w32 (x3 + 1)) s_39 H_39 F_39 (by omega) (by omega)
theorem g_ta_word_sp {a1 : Nat} (ha1 : a1 = 1 ∨ a1 = 2 ∨ a1 = 3 ∨ a1 = 4 ∨ a1 = 5) {σ : zS} (H : CI σ) : zO (g_ta_word a1 σ) (fun v s => CI s ∧ fr (fw_ta_word a1) σ s ∧ (True)) := by
  have F : fr (fw_ta_word a1) σ σ := fr.refl σ
  have ri_120_1 := CI.ct H
  have hzs := zLI_str (a := a1) (by omega) (by omega)
  unfold g_ta_word
  try dsimp +instances only
  generalize hv_v_1 : σ 120 2 = v_1
  have rv_v_1 := CI.ca H
  rw [hv_v_1] at rv_v_1
  exact g_ta_word_L7_sp (by omega) zK v_1 0 σ H F (by omega) (by show _ < (1000000 : Int); omega)
def fw_ta_another (a : Nat) (j : Int) : Bool := (fw_ta_blame a j) || ((fw_ta_takes a j) || false)
theorem g_ta_another_sp {x1 : Int} {σ : zS} (H : CI σ) : zO (g_ta_another x1 σ) (fun v s => CI s ∧ fr (fw_ta_another) σ s ∧ (True)) := by
  have F : fr (fw_ta_another) σ σ := fr.refl σ
  unfold g_ta_another
  try dsimp +instances only
  refine zO.ite (fun c_1 => ?_) (fun c_1 => ?_)
  ·
    try dsimp +instances only
    unfold g_ta_another_L15
    try dsimp +instances only
    refine zO.bindp (g_ta_here_sp H) (fun r_16 p_16 => ?_)
    try dsimp +instances only
    refine zO.ite (fun c_3 => ?_) (fun c_3 => ?_)
    ·
      try dsimp +instances only
      exact zO.ret ⟨H, F, trivial⟩
    ·
      try dsimp +instances only
      generalize hv_v_24 : σ 120 2 = v_24
      have rv_v_24 := CI.ca H
      rw [hv_v_24] at rv_v_24
      refine zO.bind (g_ta_blame_sp H) (fun r_27 t_27 p_27 => ?_)
      obtain ⟨H_27, G_27, q_27⟩ := p_27
      try dsimp +instances only
      have F_27 := F.trans (fr.mono G_27 (fun a j h => ffl h))
      exact zO.ret ⟨H_27, F_27, trivial⟩
  ·
    try dsimp +instances only
    refine zO.bind (g_ta_takes_sp H (by omega)) (fun r_7 t_7 p_7 => ?_)
    obtain ⟨H_7, G_7, q_7⟩ := p_7
    try dsimp +instances only
    have F_7 := F.trans (fr.mono G_7 (fun a j h => ffl (ffr h)))
    refine zO.ite (fun c_6 => ?_) (fun c_6 => ?_)
    ·
      try dsimp +instances only
      unfold g_ta_another_L15
      try dsimp +instances only
      refine zO.bindp (g_ta_here_sp H_7) (fun r_16 p_16 => ?_)
      try dsimp +instances only
      refine zO.ite (fun c_8 => ?_) (fun c_8 => ?_)
      ·
        try dsimp +instances only
        exact zO.ret ⟨H_7, F_7, trivial⟩
      ·
        try dsimp +instances only
        generalize hv_v_24 : t_7 120 2 = v_24
        have rv_v_24 := CI.ca H_7
        rw [hv_v_24] at rv_v_24
        refine zO.bind (g_ta_blame_sp H_7) (fun r_27 t_27 p_27 => ?_)
        obtain ⟨H_27, G_27, q_27⟩ := p_27
        try dsimp +instances only
        have F_27 := F_7.trans (fr.mono G_27 (fun a j h => ffl h))
        exact zO.ret ⟨H_27, F_27, trivial⟩
    ·
      try dsimp +instances only
      exact zO.ret ⟨H_7, F_7, trivial⟩
def fw_ta_range (a : Nat) (j : Int) : Bool := (fw_ta_takes a j) || ((fw_ta_number a j) || false)
theorem g_ta_range_sp {σ : zS} (H : CI σ) : zO (g_ta_range σ) (fun v s => CI s ∧ fr (fw_ta_range) σ s ∧ (True)) := by
  have F : fr (fw_ta_range) σ σ := fr.refl σ
  unfold g_ta_range
  try dsimp +instances only
  refine zO.bind (g_ta_takes_sp H (by omega)) (fun r_3 t_3 p_3 => ?_)
  obtain ⟨H_3, G_3, q_3⟩ := p_3
  try dsimp +instances only
  have F_3 := F.trans (fr.mono G_3 (fun a j h => ffl h))
  refine zO.ite (fun c_2 => ?_) (fun c_2 => ?_)
  ·
    try dsimp +instances only
    refine zO.bind (g_ta_number_sp H_3 (by omega)) (fun r_17 t_17 p_17 => ?_)
    obtain ⟨H_17, G_17, q_17⟩ := p_17
    try dsimp +instances only
    have F_17 := F_3.trans (fr.mono G_17 (fun a j h => ffl (ffr h)))
    refine zO.bind (g_ta_takes_sp H_17 (by omega)) (fun r_28 t_28 p_28 => ?_)
    obtain ⟨H_28, G_28, q_28⟩ := p_28
    try dsimp +instances only
    have F_28 := F_17.trans (fr.mono G_28 (fun a j h => ffl h))
    refine zO.ite (fun c_5 => ?_) (fun c_5 => ?_)
    ·
      try dsimp +instances only
      try have ew_6 := w32_id (x := r_17 * 32) (by omega) (by omega)
      try have ew_7 := w32_id (x := (w32 (r_17 * 32)) + r_17) (by omega) (by omega)
      exact zO.ret ⟨H_28, F_28, trivial⟩
    ·
      try dsimp +instances only
      refine zO.bind (g_ta_number_sp H_28 (by omega)) (fun r_39 t_39 p_39 => ?_)
      obtain ⟨H_39, G_39, q_39⟩ := p_39
      try dsimp +instances only
      have F_39 := F_28.trans (fr.mono G_39 (fun a j h => ffl (ffr h)))
      try have ew_9 := w32_id (x := r_17 * 32) (by omega) (by omega)
      try have ew_10 := w32_id (x := (w32 (r_17 * 32)) + r_39) (by omega) (by omega)
      exact zO.ret ⟨H_39, F_39, trivial⟩
  ·
    try dsimp +instances only
    exact zO.ret ⟨H_3, F_3, trivial⟩
def fw_ta_ranges (a : Nat) (j : Int) : Bool := (fw_ta_range a j) || ((fw_ta_wants a j) || false)
theorem g_ta_ranges_sp {σ : zS} (H : CI σ) : zO (g_ta_ranges σ) (fun v s => CI s ∧ fr (fw_ta_ranges) σ s ∧ (True)) := by
  have F : fr (fw_ta_ranges) σ σ := fr.refl σ
  unfold g_ta_ranges
  try dsimp +instances only
  refine zO.bind (g_ta_range_sp H) (fun r_1 t_1 p_1 => ?_)
  obtain ⟨H_1, G_1, q_1⟩ := p_1
  try dsimp +instances only
  have F_1 := F.trans (fr.mono G_1 (fun a j h => ffl h))
  refine zO.bind (g_ta_wants_sp H_1 (by omega)) (fun r_8 t_8 p_8 => ?_)
  obtain ⟨H_8, G_8, q_8⟩ := p_8
  try dsimp +instances only
  have F_8 := F_1.trans (fr.mono G_8 (fun a j h => ffl (ffr h)))
  refine zO.bind (g_ta_range_sp H_8) (fun r_12 t_12 p_12 => ?_)
  obtain ⟨H_12, G_12, q_12⟩ := p_12
  try dsimp +instances only
  have F_12 := F_8.trans (fr.mono G_12 (fun a j h => ffl h))
  refine zO.bindp (g_ta_isSound_sp) (fun r_17 p_17 => ?_)
  try dsimp +instances only
  refine zO.ite (fun c_5 => ?_) (fun c_5 => ?_)
  ·
    try dsimp +instances only
    exact zO.ret ⟨H_12, F_12, trivial⟩
  ·
    try dsimp +instances only
    try have ew_6 := w32_id (x := Int.tdiv r_1 32) (by omega) (by omega)
    try have ew_7 := w32_id (x := Int.tdiv r_12 32) (by omega) (by omega)
    refine zO.bindp (g_b_of_sp) (fun r_39 p_39 => ?_)
    try dsimp +instances only
    exact zO.ret ⟨H_12, F_12, trivial⟩
def fw_ta_begin (a : Nat) (j : Int) : Bool := ((a == 120 && j == 2)) || (((a == 120 && j == 3)) || false)
theorem g_ta_begin_sp {σ : zS} (H : CI σ) : zO (g_ta_begin σ) (fun v s => CI s ∧ fr (fw_ta_begin) σ s ∧ (True)) := by
  have F : fr (fw_ta_begin) σ σ := fr.refl σ
  unfold g_ta_begin
  try dsimp +instances only
  generalize hs_s_2 : zu σ 120 2 0 = s_2
  have H_2 : CI s_2 := by rw [← hs_s_2]; exact CI_zuy H (by omega) (by omega) (lo := 0) (hi := 160) rfl (by omega) (by omega)
  have F_2 : fr (fw_ta_begin) σ s_2 := by rw [← hs_s_2]; exact fr.zu F (by omega) (bl (zbb _ _))
  generalize hs_s_7 : zu s_2 120 3 (-1) = s_7
  have H_7 : CI s_7 := by rw [← hs_s_7]; exact CI_zun H_2 (by omega) (by omega) rfl
  have F_7 : fr (fw_ta_begin) σ s_7 := by rw [← hs_s_7]; exact fr.zu F_2 (by omega) (br (bl (zbb _ _)))
  exact zO.ret ⟨H_7, F_7, trivial⟩
def fw_ta_end (a : Nat) (j : Int) : Bool := ((a == 120 && j == 1)) || false
theorem g_ta_end_sp {x1 : Int} {σ : zS} (H : CI σ) : zO (g_ta_end x1 σ) (fun v s => CI s ∧ fr (fw_ta_end) σ s ∧ (s 120 1 = 0)) := by
  have F : fr (fw_ta_end) σ σ := fr.refl σ
  have ri_120_1 := CI.ct H
  unfold g_ta_end
  try dsimp +instances only
  generalize hs_s_2 : zu σ 120 1 0 = s_2
  have H_2 : CI s_2 := by rw [← hs_s_2]; exact CI_zuy H (by omega) (by omega) (lo := 0) (hi := 160) rfl (by omega) (by omega)
  have F_2 : fr (fw_ta_end) σ s_2 := by rw [← hs_s_2]; exact fr.zu F (by omega) (bl (zbb _ _))
  have e_s_2_120_1 : s_2 120 1 = 0 := by rw [← hs_s_2]; exact zu_e rfl
  refine zO.bindp (g_ta_isSound_sp) (fun r_6 p_6 => ?_)
  try dsimp +instances only
  refine zO.ite (fun c_2 => ?_) (fun c_2 => ?_)
  ·
    try dsimp +instances only
    generalize hv_v_19 : s_2 120 3 = v_19
    try have ew_3 := w32_id (x := (-100) - v_19) (by omega) (by omega)
    exact zO.ret ⟨H_2, F_2, (by omega)⟩
  ·
    try dsimp +instances only
    exact zO.ret ⟨H_2, F_2, (by omega)⟩
def fw_ta_append (a : Nat) (j : Int) : Bool := (a == 121) || (((a == 120 && j == 1)) || false)
theorem g_ta_append_sp {x1 : Int} {σ : zS} (H : CI σ) : zO (g_ta_append x1 σ) (fun v s => CI s ∧ fr (fw_ta_append) σ s ∧ ((v = 0 → σ 120 1 = 160 ∧ s 120 1 = σ 120 1) ∧ (v ≠ 0 → s 120 1 = σ 120 1 + 1 ∧ σ 120 1 < 160))) := by
  have F : fr (fw_ta_append) σ σ := fr.refl σ
  have ri_120_1 := CI.ct H
  unfold g_ta_append
  try dsimp +instances only
  generalize hv_v_1 : σ 120 1 = v_1
  have rv_v_1 := CI.ct H
  rw [hv_v_1] at rv_v_1
  refine zO.ite (fun c_1 => ?_) (fun c_1 => ?_)
  ·
    try dsimp +instances only
    refine zO.gd (by omega) ?_
    try dsimp +instances only
    generalize hs_s_22 : zu σ 121 v_1 (w8 (w8 x1)) = s_22
    have H_22 : CI s_22 := by rw [← hs_s_22]; exact CI_zun H (by omega) (by omega) rfl
    have F_22 : fr (fw_ta_append) σ s_22 := by rw [← hs_s_22]; exact fr.zu F (by omega) (bl (beq_self_eq_true _))
    have e_s_22_120_1 : s_22 120 1 = σ 120 1 := by rw [← hs_s_22]; exact zu_c (by omega)
    generalize hv_v_25 : s_22 120 1 = v_25
    have rv_v_25 := CI.ct H_22
    rw [hv_v_25] at rv_v_25
    try have ew_2 := w32_id (x := v_25 + 1) (by omega) (by omega)
    generalize hs_s_30 : zu s_22 120 1 (w32 (v_25 + 1)) = s_30
    have H_30 : CI s_30 := by rw [← hs_s_30]; exact CI_zuy H_22 (by omega) (by omega) (lo := 0) (hi := 160) rfl (by omega) (by omega)
    have F_30 : fr (fw_ta_append) σ s_30 := by rw [← hs_s_30]; exact fr.zu F_22 (by omega) (br (bl (zbb _ _)))
    have e_s_30_120_1 : s_30 120 1 = (w32 (v_25 + 1)) := by rw [← hs_s_30]; exact zu_e rfl
    exact zO.ret ⟨H_30, F_30, (by omega)⟩
  ·
    try dsimp +instances only
    exact zO.ret ⟨H, F, (by omega)⟩
def fw_ta_plainBox (a : Nat) (j : Int) : Bool := (fw_ta_number a j) || ((fw_ta_wants a j) || false)
theorem g_ta_plainBox_sp {σ : zS} (H : CI σ) : zO (g_ta_plainBox σ) (fun v s => CI s ∧ fr (fw_ta_plainBox) σ s ∧ (True)) := by
  have F : fr (fw_ta_plainBox) σ σ := fr.refl σ
  unfold g_ta_plainBox
  try dsimp +instances only
  refine zO.bind (g_ta_number_sp H (by omega)) (fun r_5 t_5 p_5 => ?_)
  obtain ⟨H_5, G_5, q_5⟩ := p_5
  try dsimp +instances only
  have F_5 := F.trans (fr.mono G_5 (fun a j h => ffl h))
  refine zO.bind (g_ta_wants_sp H_5 (by omega)) (fun r_12 t_12 p_12 => ?_)
  obtain ⟨H_12, G_12, q_12⟩ := p_12
  try dsimp +instances only
  have F_12 := F_5.trans (fr.mono G_12 (fun a j h => ffl (ffr h)))
  refine zO.bind (g_ta_number_sp H_12 (by omega)) (fun r_20 t_20 p_20 => ?_)
  obtain ⟨H_20, G_20, q_20⟩ := p_20
  try dsimp +instances only
  have F_20 := F_12.trans (fr.mono G_20 (fun a j h => ffl h))
  refine zO.bind (g_ta_wants_sp H_20 (by omega)) (fun r_27 t_27 p_27 => ?_)
  obtain ⟨H_27, G_27, q_27⟩ := p_27
  try dsimp +instances only
  have F_27 := F_20.trans (fr.mono G_27 (fun a j h => ffl (ffr h)))
  refine zO.bind (g_ta_number_sp H_27 (by omega)) (fun r_35 t_35 p_35 => ?_)
  obtain ⟨H_35, G_35, q_35⟩ := p_35
  try dsimp +instances only
  have F_35 := F_27.trans (fr.mono G_35 (fun a j h => ffl h))
  refine zO.bind (g_ta_wants_sp H_35 (by omega)) (fun r_42 t_42 p_42 => ?_)
  obtain ⟨H_42, G_42, q_42⟩ := p_42
  try dsimp +instances only
  have F_42 := F_35.trans (fr.mono G_42 (fun a j h => ffl (ffr h)))
  refine zO.bind (g_ta_number_sp H_42 (by omega)) (fun r_50 t_50 p_50 => ?_)
  obtain ⟨H_50, G_50, q_50⟩ := p_50
  try dsimp +instances only
  have F_50 := F_42.trans (fr.mono G_50 (fun a j h => ffl h))
  refine zO.bindp (g_ta_isSound_sp) (fun r_56 p_56 => ?_)
  try dsimp +instances only
  refine zO.ite (fun c_9 => ?_) (fun c_9 => ?_)
  ·
    try dsimp +instances only
    exact zO.ret ⟨H_50, F_50, trivial⟩
  ·
    try dsimp +instances only
    refine zO.bindp (g_b_of_sp) (fun r_67 p_67 => ?_)
    try dsimp +instances only
    exact zO.ret ⟨H_50, F_50, trivial⟩
def fw_se_become (a0 : Nat) (a : Nat) (j : Int) : Bool := (a == (a0 + 1)) || false
theorem g_se_become_sp {a0 : Nat} (ha0 : a0 = 49 ∨ a0 = 82 ∨ a0 = 107 ∨ a0 = 118) {x1 : Int} {x2 : Int} {σ : zS} (H : CI σ) : zO (g_se_become a0 x1 x2 σ) (fun v s => CI s ∧ fr (fw_se_become a0) σ s ∧ (True)) := by
  have F : fr (fw_se_become a0) σ σ := fr.refl σ
  unfold g_se_become
  try dsimp +instances only
  refine zO.ite (fun c_1 => ?_) (fun c_1 => ?_)
  ·
    try dsimp +instances only
    exact zO.ret ⟨H, F, trivial⟩
  ·
    try dsimp +instances only
    refine zO.ite (fun c_2 => ?_) (fun c_2 => ?_)
    ·
      try dsimp +instances only
      exact zO.ret ⟨H, F, trivial⟩
    ·
      try dsimp +instances only
      refine zO.gd (by omega) ?_
      try dsimp +instances only
      generalize hs_s_16 : zu σ (a0 + 1) x1 x2 = s_16
      have H_16 : CI s_16 := by rw [← hs_s_16]; exact CI_zun H (by omega) (by omega) (by rcases ha0 with rfl | rfl | rfl | rfl <;> rfl)
      have F_16 : fr (fw_se_become a0) σ s_16 := by rw [← hs_s_16]; exact fr.zu F (by omega) (bl (beq_self_eq_true _))
      exact zO.ret ⟨H_16, F_16, trivial⟩
def fw_se_readValue (a : Nat) (j : Int) : Bool := (fw_ta_number a j) || ((fw_ta_word 2 a j) || ((fw_ta_word 3 a j) || false))
theorem g_se_readValue_sp {x2 : Int} {σ : zS} (H : CI σ) : zO (g_se_readValue x2 σ) (fun v s => CI s ∧ fr (fw_se_readValue) σ s ∧ (True)) := by
  have F : fr (fw_se_readValue) σ σ := fr.refl σ
  unfold g_se_readValue
  try dsimp +instances only
  refine zO.ite (fun c_1 => ?_) (fun c_1 => ?_)
  ·
    try dsimp +instances only
    refine zO.bind (g_ta_number_sp H (by omega)) (fun r_49 t_49 p_49 => ?_)
    obtain ⟨H_49, G_49, q_49⟩ := p_49
    try dsimp +instances only
    have F_49 := F.trans (fr.mono G_49 (fun a j h => ffl h))
    exact zO.ret ⟨H_49, F_49, trivial⟩
  ·
    try dsimp +instances only
    refine zO.ite (fun c_3 => ?_) (fun c_3 => ?_)
    ·
      try dsimp +instances only
      refine zO.bind (g_ta_number_sp H (by omega)) (fun r_58 t_58 p_58 => ?_)
      obtain ⟨H_58, G_58, q_58⟩ := p_58
      try dsimp +instances only
      have F_58 := F.trans (fr.mono G_58 (fun a j h => ffl h))
      exact zO.ret ⟨H_58, F_58, trivial⟩
    ·
      try dsimp +instances only
      refine zO.ite (fun c_5 => ?_) (fun c_5 => ?_)
      ·
        try dsimp +instances only
        refine zO.bind (g_ta_number_sp H (by omega)) (fun r_67 t_67 p_67 => ?_)
        obtain ⟨H_67, G_67, q_67⟩ := p_67
        try dsimp +instances only
        have F_67 := F.trans (fr.mono G_67 (fun a j h => ffl h))
        exact zO.ret ⟨H_67, F_67, trivial⟩
      ·
        try dsimp +instances only
        refine zO.ite (fun c_7 => ?_) (fun c_7 => ?_)
        ·
          try dsimp +instances only
          refine zO.bind (g_ta_word_sp (by omega) H) (fun r_74 t_74 p_74 => ?_)
          obtain ⟨H_74, G_74, q_74⟩ := p_74
          try dsimp +instances only
          have F_74 := F.trans (fr.mono G_74 (fun a j h => ffl (ffr h)))
          exact zO.ret ⟨H_74, F_74, trivial⟩
        ·
          try dsimp +instances only
          refine zO.ite (fun c_9 => ?_) (fun c_9 => ?_)
          ·
            try dsimp +instances only
            refine zO.bind (g_ta_number_sp H (by omega)) (fun r_84 t_84 p_84 => ?_)
            obtain ⟨H_84, G_84, q_84⟩ := p_84
            try dsimp +instances only
            have F_84 := F.trans (fr.mono G_84 (fun a j h => ffl h))
            exact zO.ret ⟨H_84, F_84, trivial⟩
          ·
            try dsimp +instances only
            refine zO.bind (g_ta_word_sp (by omega) H) (fun r_91 t_91 p_91 => ?_)
            obtain ⟨H_91, G_91, q_91⟩ := p_91
            try dsimp +instances only
            have F_91 := F.trans (fr.mono G_91 (fun a j h => ffl (ffr (ffr h))))
            exact zO.ret ⟨H_91, F_91, trivial⟩
def fw_se_readParts (a : Nat) (j : Int) : Bool := (fw_ta_word 1 a j) || ((fw_ta_wants a j) || ((fw_se_readValue a j) || ((fw_se_become 118 a j) || ((fw_ta_another a j) || false))))
set_option maxHeartbeats 4000000 in
theorem g_se_readParts_L4_sp {σ0 : zS} : ∀ (n : Nat) (x2 : Int) (x3 : Int) (σ : zS), CI σ → fr (fw_se_readParts) σ0 σ → (0 ≤ x2 ∧ x2 ≤ 160) → (160 - x2) < (n : Int) → zO (g_se_readParts_L4 n x2 x3 σ) (fun v s => CI s ∧ fr (fw_se_readParts) σ0 s ∧ (True))
  | 0, _, _, σ, _, _, hi, hm => by exfalso; omega
  | n + 1, x2, x3, σ, H, F, hi, hm => by
    unfold g_se_readParts_L4
    try dsimp +instances only
    refine zO.ite (fun c_1 => ?_) (fun c_1 => ?_)
    ·
      try dsimp +instances only
      exact zO.ret ⟨H, F, trivial⟩
    ·
      try dsimp +instances only
      refine zO.ite (fun c_2 => ?_) (fun c_2 => ?_)
      ·
        try dsimp +instances only
        exact zO.ret ⟨H, F, trivial⟩
      ·
        try dsimp +instances only
        refine zO.bind (g_ta_word_sp (by omega) H) (fun r_18 t_18 p_18 => ?_)
        obtain ⟨H_18, G_18, q_18⟩ := p_18
        try dsimp +instances only
        have F_18 := F.trans (fr.mono G_18 (fun a j h => ffl h))
        refine zO.bind (g_ta_wants_sp H_18 (by omega)) (fun r_26 t_26 p_26 => ?_)
        obtain ⟨H_26, G_26, q_26⟩ := p_26
        try dsimp +instances only
        have F_26 := F_18.trans (fr.mono G_26 (fun a j h => ffl (ffr h)))
        refine zO.bind (g_se_readValue_sp H_26) (fun r_36 t_36 p_36 => ?_)
        obtain ⟨H_36, G_36, q_36⟩ := p_36
        try dsimp +instances only
        have F_36 := F_26.trans (fr.mono G_36 (fun a j h => ffl (ffr (ffr h))))
        refine zO.bind (g_se_become_sp (by omega) H_36) (fun r_39 t_39 p_39 => ?_)
        obtain ⟨H_39, G_39, q_39⟩ := p_39
        try dsimp +instances only
        have F_39 := F_36.trans (fr.mono G_39 (fun a j h => ffl (ffr (ffr (ffr h)))))
        refine zO.bind (g_ta_another_sp H_39) (fun r_44 t_44 p_44 => ?_)
        obtain ⟨H_44, G_44, q_44⟩ := p_44
        try dsimp +instances only
        have F_44 := F_39.trans (fr.mono G_44 (fun a j h => ffl (ffr (ffr (ffr (ffr h))))))
        try have ew_8 := w32_id (x := x2 + 1) (by omega) (by omega)
        exact g_se_readParts_L4_sp n (w32 (x2 + 1)) r_44 t_44 H_44 F_44 (by omega) (by omega)
theorem g_se_readParts_sp {σ : zS} (H : CI σ) : zO (g_se_readParts σ) (fun v s => CI s ∧ fr (fw_se_readParts) σ s ∧ (True)) := by
  have F : fr (fw_se_readParts) σ σ := fr.refl σ
  unfold g_se_readParts
  try dsimp +instances only
  exact g_se_readParts_L4_sp zK 0 1 σ H F (by omega) (by show _ < (1000000 : Int); omega)
