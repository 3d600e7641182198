/-! THE CLASS over the typed memory: each method answers, keeps the invariant, changes what fw_.. names (printed by wip/zv.py) -/
def fw_bs_add (a0 : Nat) (a : Nat) (j : Int) : Bool := (a == (a0 + 1)) || (((a == a0 && j == 1)) || false)
theorem g_bs_add_sp {a0 : Nat} (ha0 : a0 = 56 ∨ a0 = 58 ∨ a0 = 63 ∨ a0 = 96 ∨ a0 = 114 ∨ a0 = 116 ∨ a0 = 126 ∨ a0 = 131) {x1 : Int} {σ : zS} (H : CI σ) : zO (g_bs_add a0 x1 σ) (fun v s => CI s ∧ fr (fw_bs_add a0) σ s ∧ (True)) := by
  have F : fr (fw_bs_add a0) σ σ := fr.refl σ
  have ri_a0_1 := CI.c1 (a := a0) H (by omega)
  have hz_0 : 0 ≤ zLI (a0 + 1) ∧ zLI (a0 + 1) ≤ 181 := by rcases ha0 with rfl | rfl | rfl | rfl | rfl | rfl | rfl | rfl <;> decide
  unfold g_bs_add
  try dsimp +instances only
  generalize hv_v_1 : σ a0 1 = v_1
  have rv_v_1 := CI.c1 (a := a0) H (by omega)
  rw [hv_v_1] at rv_v_1
  refine zO.ite (fun c_1 => ?_) (fun c_1 => ?_)
  ·
    try dsimp +instances only
    exact zO.ret ⟨H, F, trivial⟩
  ·
    try dsimp +instances only
    refine zO.ite (fun c_2 => ?_) (fun c_2 => ?_)
    ·
      try dsimp +instances only
      refine zO.gd (by omega) ?_
      try dsimp +instances only
      generalize hs_s_30 : zu σ (a0 + 1) v_1 x1 = s_30
      have H_30 : CI s_30 := by rw [← hs_s_30]; exact CI_zun H (by omega) (by omega) (by rcases ha0 with rfl | rfl | rfl | rfl | rfl | rfl | rfl | rfl <;> rfl)
      have F_30 : fr (fw_bs_add a0) σ s_30 := by rw [← hs_s_30]; exact fr.zu F (by omega) (bl (beq_self_eq_true _))
      have e_s_30_a0_1 : s_30 a0 1 = σ a0 1 := by rw [← hs_s_30]; exact zu_c (by omega)
      generalize hv_v_33 : s_30 a0 1 = v_33
      have rv_v_33 := CI.c1 (a := a0) H_30 (by omega)
      rw [hv_v_33] at rv_v_33
      try have ew_3 := w32_id (x := v_33 + 1) (by omega) (by omega)
      generalize hs_s_38 : zu s_30 a0 1 (w32 (v_33 + 1)) = s_38
      have H_38 : CI s_38 := by rw [← hs_s_38]; exact CI_zuy H_30 (by omega) (by omega) (lo := 0) (hi := 181) (by rcases ha0 with rfl | rfl | rfl | rfl | rfl | rfl | rfl | rfl <;> rfl) (by omega) (by omega)
      have F_38 : fr (fw_bs_add a0) σ s_38 := by rw [← hs_s_38]; exact fr.zu F_30 (by omega) (br (bl (zbb _ _)))
      have e_s_38_a0_1 : s_38 a0 1 = (w32 (v_33 + 1)) := by rw [← hs_s_38]; exact zu_e rfl
      exact zO.ret ⟨H_38, F_38, trivial⟩
    ·
      try dsimp +instances only
      exact zO.ret ⟨H, F, trivial⟩
theorem g_bs_at_sp {a0 : Nat} (ha0 : a0 = 56 ∨ a0 = 58 ∨ a0 = 63 ∨ a0 = 96 ∨ a0 = 114 ∨ a0 = 116 ∨ a0 = 126 ∨ a0 = 131) {x1 : Int} {σ : zS} (H : CI σ) : zOp (g_bs_at a0 x1 σ) σ (fun v => True) := by
  have hz_0 : 0 ≤ zLI (a0 + 1) ∧ zLI (a0 + 1) ≤ 181 := by rcases ha0 with rfl | rfl | rfl | rfl | rfl | rfl | rfl | rfl <;> decide
  unfold g_bs_at
  try dsimp +instances only
  refine zOp.ite (fun c_1 => ?_) (fun c_1 => ?_)
  ·
    try dsimp +instances only
    exact zOp.ret trivial
  ·
    try dsimp +instances only
    generalize hv_v_6 : σ a0 1 = v_6
    have rv_v_6 := CI.c1 (a := a0) H (by omega)
    rw [hv_v_6] at rv_v_6
    refine zOp.ite (fun c_2 => ?_) (fun c_2 => ?_)
    ·
      try dsimp +instances only
      exact zOp.ret trivial
    ·
      try dsimp +instances only
      refine zOp.ite (fun c_3 => ?_) (fun c_3 => ?_)
      ·
        try dsimp +instances only
        exact zOp.ret trivial
      ·
        try dsimp +instances only
        refine zOp.gd (by omega) ?_
        try dsimp +instances only
        generalize hv_v_26 : σ (a0 + 1) x1 = v_26
        exact zOp.ret trivial
def fw_bs_copyFrom (a0 : Nat) (a1 : Nat) (a : Nat) (j : Int) : Bool := (fw_bs_add a0 a j) || (((a == a0 && j == 1)) || false)
set_option maxHeartbeats 4000000 in
theorem g_bs_copyFrom_L7_sp {a0 : Nat} {a1 : Nat} (ha0 : a0 = 56 ∨ a0 = 58 ∨ a0 = 63 ∨ a0 = 96 ∨ a0 = 114 ∨ a0 = 116) (ha1 : a1 = 56 ∨ a1 = 58 ∨ a1 = 63 ∨ a1 = 96 ∨ a1 = 114 ∨ a1 = 116) {σ0 : zS} : ∀ (n : Nat) (x2 : Int) (σ : zS), CI σ → fr (fw_bs_copyFrom a0 a1) σ0 σ → (0 ≤ x2 ∧ x2 ≤ 181) → (181 - x2) < (n : Int) → zO (g_bs_copyFrom_L7 a0 a1 n x2 σ) (fun v s => CI s ∧ fr (fw_bs_copyFrom a0 a1) σ0 s ∧ (True))
  | 0, _, σ, _, _, hi, hm => by exfalso; omega
  | n + 1, x2, σ, H, F, hi, hm => by
    unfold g_bs_copyFrom_L7
    try dsimp +instances only
    generalize hv_v_9 : σ a1 1 = v_9
    have rv_v_9 := CI.c1 (a := a1) H (by omega)
    rw [hv_v_9] at rv_v_9
    refine zO.ite (fun c_1 => ?_) (fun c_1 => ?_)
    ·
      try dsimp +instances only
      exact zO.ret ⟨H, F, trivial⟩
    ·
      try dsimp +instances only
      refine zO.bindp (g_bs_at_sp (by omega) H) (fun r_18 p_18 => ?_)
      try dsimp +instances only
      refine zO.bind (g_bs_add_sp (by omega) H) (fun r_21 t_21 p_21 => ?_)
      obtain ⟨H_21, G_21, q_21⟩ := p_21
      try dsimp +instances only
      have F_21 := F.trans (fr.mono G_21 (fun a j h => ffl h))
      try have ew_4 := w32_id (x := x2 + 1) (by omega) (by omega)
      exact g_bs_copyFrom_L7_sp (by omega) (by omega) n (w32 (x2 + 1)) t_21 H_21 F_21 (by omega) (by omega)
theorem g_bs_copyFrom_sp {a0 : Nat} {a1 : Nat} (ha0 : a0 = 56 ∨ a0 = 58 ∨ a0 = 63 ∨ a0 = 96 ∨ a0 = 114 ∨ a0 = 116) (ha1 : a1 = 56 ∨ a1 = 58 ∨ a1 = 63 ∨ a1 = 96 ∨ a1 = 114 ∨ a1 = 116) {σ : zS} (H : CI σ) : zO (g_bs_copyFrom a0 a1 σ) (fun v s => CI s ∧ fr (fw_bs_copyFrom a0 a1) σ s ∧ (True)) := by
  have F : fr (fw_bs_copyFrom a0 a1) σ σ := fr.refl σ
  unfold g_bs_copyFrom
  try dsimp +instances only
  generalize hs_s_2 : zu σ a0 1 0 = s_2
  have H_2 : CI s_2 := by rw [← hs_s_2]; exact CI_zuy H (by omega) (by omega) (lo := 0) (hi := 181) (by rcases ha0 with rfl | rfl | rfl | rfl | rfl | rfl <;> rcases ha1 with rfl | rfl | rfl | rfl | rfl | rfl <;> rfl) (by omega) (by omega)
  have F_2 : fr (fw_bs_copyFrom a0 a1) σ s_2 := by rw [← hs_s_2]; exact fr.zu F (by omega) (br (bl (zbb _ _)))
  exact g_bs_copyFrom_L7_sp (by omega) (by omega) zK 0 s_2 H_2 F_2 (by omega) (by show _ < (1000000 : Int); omega)
def fw_bs_addRest (a0 : Nat) (a : Nat) (j : Int) : Bool := (fw_bs_add a0 a j) || false
theorem g_bs_addRest_sp {a0 : Nat} (ha0 : a0 = 58 ∨ a0 = 116) {x1 : Int} {x2 : Int} {σ : zS} (H : CI σ) : zO (g_bs_addRest a0 x1 x2 σ) (fun v s => CI s ∧ fr (fw_bs_addRest a0) σ s ∧ (True)) := by
  have F : fr (fw_bs_addRest a0) σ σ := fr.refl σ
  unfold g_bs_addRest
  try dsimp +instances only
  refine zO.bindp (g_b_meet_sp) (fun r_2 p_2 => ?_)
  try dsimp +instances only
  refine zO.ite (fun c_2 => ?_) (fun c_2 => ?_)
  ·
    try dsimp +instances only
    refine zO.bindp (g_b_x0_sp) (fun r_16 p_16 => ?_)
    try dsimp +instances only
    refine zO.bindp (g_b_x1_sp) (fun r_21 p_21 => ?_)
    try dsimp +instances only
    refine zO.bindp (g_b_y0_sp) (fun r_27 p_27 => ?_)
    try dsimp +instances only
    refine zO.bindp (g_b_y1_sp) (fun r_33 p_33 => ?_)
    try dsimp +instances only
    refine zO.bindp (g_b_y0_sp) (fun r_41 p_41 => ?_)
    try dsimp +instances only
    refine zO.bindp (g_jMath_max_289_sp) (fun r_44 p_44 => ?_)
    try dsimp +instances only
    refine zO.bindp (g_b_y1_sp) (fun r_52 p_52 => ?_)
    try dsimp +instances only
    refine zO.bindp (g_jMath_min_291_sp) (fun r_55 p_55 => ?_)
    try dsimp +instances only
    refine zO.ite (fun c_11 => ?_) (fun c_11 => ?_)
    ·
      try dsimp +instances only
      unfold g_bs_addRest_L84
      try dsimp +instances only
      refine zO.ite (fun c_12 => ?_) (fun c_12 => ?_)
      ·
        try dsimp +instances only
        unfold g_bs_addRest_L108
        try dsimp +instances only
        refine zO.bindp (g_b_x0_sp) (fun r_110 p_110 => ?_)
        try dsimp +instances only
        refine zO.ite (fun c_14 => ?_) (fun c_14 => ?_)
        ·
          try dsimp +instances only
          unfold g_bs_addRest_L135
          try dsimp +instances only
          refine zO.bindp (g_b_x1_sp) (fun r_138 p_138 => ?_)
          try dsimp +instances only
          refine zO.ite (fun c_16 => ?_) (fun c_16 => ?_)
          ·
            try dsimp +instances only
            exact zO.ret ⟨H, F, trivial⟩
          ·
            try dsimp +instances only
            refine zO.bindp (g_b_x1_sp) (fun r_146 p_146 => ?_)
            try dsimp +instances only
            try have ew_18 := w32_id (x := r_146 + 1) (by omega) (by omega)
            refine zO.bindp (g_b_of_sp) (fun r_157 p_157 => ?_)
            try dsimp +instances only
            refine zO.bind (g_bs_add_sp (by omega) H) (fun r_160 t_160 p_160 => ?_)
            obtain ⟨H_160, G_160, q_160⟩ := p_160
            try dsimp +instances only
            have F_160 := F.trans (fr.mono G_160 (fun a j h => ffl h))
            exact zO.ret ⟨H_160, F_160, trivial⟩
        ·
          try dsimp +instances only
          refine zO.bindp (g_b_x0_sp) (fun r_119 p_119 => ?_)
          try dsimp +instances only
          try have ew_22 := w32_id (x := r_119 - 1) (by omega) (by omega)
          refine zO.bindp (g_b_of_sp) (fun r_128 p_128 => ?_)
          try dsimp +instances only
          refine zO.bind (g_bs_add_sp (by omega) H) (fun r_131 t_131 p_131 => ?_)
          obtain ⟨H_131, G_131, q_131⟩ := p_131
          try dsimp +instances only
          have F_131 := F.trans (fr.mono G_131 (fun a j h => ffl h))
          unfold g_bs_addRest_L135
          try dsimp +instances only
          refine zO.bindp (g_b_x1_sp) (fun r_138 p_138 => ?_)
          try dsimp +instances only
          refine zO.ite (fun c_26 => ?_) (fun c_26 => ?_)
          ·
            try dsimp +instances only
            exact zO.ret ⟨H_131, F_131, trivial⟩
          ·
            try dsimp +instances only
            refine zO.bindp (g_b_x1_sp) (fun r_146 p_146 => ?_)
            try dsimp +instances only
            try have ew_28 := w32_id (x := r_146 + 1) (by omega) (by omega)
            refine zO.bindp (g_b_of_sp) (fun r_157 p_157 => ?_)
            try dsimp +instances only
            refine zO.bind (g_bs_add_sp (by omega) H_131) (fun r_160 t_160 p_160 => ?_)
            obtain ⟨H_160, G_160, q_160⟩ := p_160
            try dsimp +instances only
            have F_160 := F_131.trans (fr.mono G_160 (fun a j h => ffl h))
            exact zO.ret ⟨H_160, F_160, trivial⟩
      ·
        try dsimp +instances only
        try have ew_31 := w32_id (x := r_55 + 1) (by omega) (by omega)
        refine zO.bindp (g_b_of_sp) (fun r_101 p_101 => ?_)
        try dsimp +instances only
        refine zO.bind (g_bs_add_sp (by omega) H) (fun r_104 t_104 p_104 => ?_)
        obtain ⟨H_104, G_104, q_104⟩ := p_104
        try dsimp +instances only
        have F_104 := F.trans (fr.mono G_104 (fun a j h => ffl h))
        unfold g_bs_addRest_L108
        try dsimp +instances only
        refine zO.bindp (g_b_x0_sp) (fun r_110 p_110 => ?_)
        try dsimp +instances only
        refine zO.ite (fun c_35 => ?_) (fun c_35 => ?_)
        ·
          try dsimp +instances only
          unfold g_bs_addRest_L135
          try dsimp +instances only
          refine zO.bindp (g_b_x1_sp) (fun r_138 p_138 => ?_)
          try dsimp +instances only
          refine zO.ite (fun c_37 => ?_) (fun c_37 => ?_)
          ·
            try dsimp +instances only
            exact zO.ret ⟨H_104, F_104, trivial⟩
          ·
            try dsimp +instances only
            refine zO.bindp (g_b_x1_sp) (fun r_146 p_146 => ?_)
            try dsimp +instances only
            try have ew_39 := w32_id (x := r_146 + 1) (by omega) (by omega)
            refine zO.bindp (g_b_of_sp) (fun r_157 p_157 => ?_)
            try dsimp +instances only
            refine zO.bind (g_bs_add_sp (by omega) H_104) (fun r_160 t_160 p_160 => ?_)
            obtain ⟨H_160, G_160, q_160⟩ := p_160
            try dsimp +instances only
            have F_160 := F_104.trans (fr.mono G_160 (fun a j h => ffl h))
            exact zO.ret ⟨H_160, F_160, trivial⟩
        ·
          try dsimp +instances only
          refine zO.bindp (g_b_x0_sp) (fun r_119 p_119 => ?_)
          try dsimp +instances only
          try have ew_43 := w32_id (x := r_119 - 1) (by omega) (by omega)
          refine zO.bindp (g_b_of_sp) (fun r_128 p_128 => ?_)
          try dsimp +instances only
          refine zO.bind (g_bs_add_sp (by omega) H_104) (fun r_131 t_131 p_131 => ?_)
          obtain ⟨H_131, G_131, q_131⟩ := p_131
          try dsimp +instances only
          have F_131 := F_104.trans (fr.mono G_131 (fun a j h => ffl h))
          unfold g_bs_addRest_L135
          try dsimp +instances only
          refine zO.bindp (g_b_x1_sp) (fun r_138 p_138 => ?_)
          try dsimp +instances only
          refine zO.ite (fun c_47 => ?_) (fun c_47 => ?_)
          ·
            try dsimp +instances only
            exact zO.ret ⟨H_131, F_131, trivial⟩
          ·
            try dsimp +instances only
            refine zO.bindp (g_b_x1_sp) (fun r_146 p_146 => ?_)
            try dsimp +instances only
            try have ew_49 := w32_id (x := r_146 + 1) (by omega) (by omega)
            refine zO.bindp (g_b_of_sp) (fun r_157 p_157 => ?_)
            try dsimp +instances only
            refine zO.bind (g_bs_add_sp (by omega) H_131) (fun r_160 t_160 p_160 => ?_)
            obtain ⟨H_160, G_160, q_160⟩ := p_160
            try dsimp +instances only
            have F_160 := F_131.trans (fr.mono G_160 (fun a j h => ffl h))
            exact zO.ret ⟨H_160, F_160, trivial⟩
    ·
      try dsimp +instances only
      try have ew_52 := w32_id (x := r_44 - 1) (by omega) (by omega)
      refine zO.bindp (g_b_of_sp) (fun r_77 p_77 => ?_)
      try dsimp +instances only
      refine zO.bind (g_bs_add_sp (by omega) H) (fun r_80 t_80 p_80 => ?_)
      obtain ⟨H_80, G_80, q_80⟩ := p_80
      try dsimp +instances only
      have F_80 := F.trans (fr.mono G_80 (fun a j h => ffl h))
      unfold g_bs_addRest_L84
      try dsimp +instances only
      refine zO.ite (fun c_55 => ?_) (fun c_55 => ?_)
      ·
        try dsimp +instances only
        unfold g_bs_addRest_L108
        try dsimp +instances only
        refine zO.bindp (g_b_x0_sp) (fun r_110 p_110 => ?_)
        try dsimp +instances only
        refine zO.ite (fun c_57 => ?_) (fun c_57 => ?_)
        ·
          try dsimp +instances only
          unfold g_bs_addRest_L135
          try dsimp +instances only
          refine zO.bindp (g_b_x1_sp) (fun r_138 p_138 => ?_)
          try dsimp +instances only
          refine zO.ite (fun c_59 => ?_) (fun c_59 => ?_)
          ·
            try dsimp +instances only
            exact zO.ret ⟨H_80, F_80, trivial⟩
          ·
            try dsimp +instances only
            refine zO.bindp (g_b_x1_sp) (fun r_146 p_146 => ?_)
            try dsimp +instances only
            try have ew_61 := w32_id (x := r_146 + 1) (by omega) (by omega)
            refine zO.bindp (g_b_of_sp) (fun r_157 p_157 => ?_)
            try dsimp +instances only
            refine zO.bind (g_bs_add_sp (by omega) H_80) (fun r_160 t_160 p_160 => ?_)
            obtain ⟨H_160, G_160, q_160⟩ := p_160
            try dsimp +instances only
            have F_160 := F_80.trans (fr.mono G_160 (fun a j h => ffl h))
            exact zO.ret ⟨H_160, F_160, trivial⟩
        ·
          try dsimp +instances only
          refine zO.bindp (g_b_x0_sp) (fun r_119 p_119 => ?_)
          try dsimp +instances only
          try have ew_65 := w32_id (x := r_119 - 1) (by omega) (by omega)
          refine zO.bindp (g_b_of_sp) (fun r_128 p_128 => ?_)
          try dsimp +instances only
          refine zO.bind (g_bs_add_sp (by omega) H_80) (fun r_131 t_131 p_131 => ?_)
          obtain ⟨H_131, G_131, q_131⟩ := p_131
          try dsimp +instances only
          have F_131 := F_80.trans (fr.mono G_131 (fun a j h => ffl h))
          unfold g_bs_addRest_L135
          try dsimp +instances only
          refine zO.bindp (g_b_x1_sp) (fun r_138 p_138 => ?_)
          try dsimp +instances only
          refine zO.ite (fun c_69 => ?_) (fun c_69 => ?_)
          ·
            try dsimp +instances only
            exact zO.ret ⟨H_131, F_131, trivial⟩
          ·
            try dsimp +instances only
            refine zO.bindp (g_b_x1_sp) (fun r_146 p_146 => ?_)
            try dsimp +instances only
            try have ew_71 := w32_id (x := r_146 + 1) (by omega) (by omega)
            refine zO.bindp (g_b_of_sp) (fun r_157 p_157 => ?_)
            try dsimp +instances only
            refine zO.bind (g_bs_add_sp (by omega) H_131) (fun r_160 t_160 p_160 => ?_)
            obtain ⟨H_160, G_160, q_160⟩ := p_160
            try dsimp +instances only
            have F_160 := F_131.trans (fr.mono G_160 (fun a j h => ffl h))
            exact zO.ret ⟨H_160, F_160, trivial⟩
      ·
        try dsimp +instances only
        try have ew_74 := w32_id (x := r_55 + 1) (by omega) (by omega)
        refine zO.bindp (g_b_of_sp) (fun r_101 p_101 => ?_)
        try dsimp +instances only
        refine zO.bind (g_bs_add_sp (by omega) H_80) (fun r_104 t_104 p_104 => ?_)
        obtain ⟨H_104, G_104, q_104⟩ := p_104
        try dsimp +instances only
        have F_104 := F_80.trans (fr.mono G_104 (fun a j h => ffl h))
        unfold g_bs_addRest_L108
        try dsimp +instances only
        refine zO.bindp (g_b_x0_sp) (fun r_110 p_110 => ?_)
        try dsimp +instances only
        refine zO.ite (fun c_78 => ?_) (fun c_78 => ?_)
        ·
          try dsimp +instances only
          unfold g_bs_addRest_L135
          try dsimp +instances only
          refine zO.bindp (g_b_x1_sp) (fun r_138 p_138 => ?_)
          try dsimp +instances only
          refine zO.ite (fun c_80 => ?_) (fun c_80 => ?_)
          ·
            try dsimp +instances only
            exact zO.ret ⟨H_104, F_104, trivial⟩
          ·
            try dsimp +instances only
            refine zO.bindp (g_b_x1_sp) (fun r_146 p_146 => ?_)
            try dsimp +instances only
            try have ew_82 := w32_id (x := r_146 + 1) (by omega) (by omega)
            refine zO.bindp (g_b_of_sp) (fun r_157 p_157 => ?_)
            try dsimp +instances only
            refine zO.bind (g_bs_add_sp (by omega) H_104) (fun r_160 t_160 p_160 => ?_)
            obtain ⟨H_160, G_160, q_160⟩ := p_160
            try dsimp +instances only
            have F_160 := F_104.trans (fr.mono G_160 (fun a j h => ffl h))
            exact zO.ret ⟨H_160, F_160, trivial⟩
        ·
          try dsimp +instances only
          refine zO.bindp (g_b_x0_sp) (fun r_119 p_119 => ?_)
          try dsimp +instances only
          try have ew_86 := w32_id (x := r_119 - 1) (by omega) (by omega)
          refine zO.bindp (g_b_of_sp) (fun r_128 p_128 => ?_)
          try dsimp +instances only
          refine zO.bind (g_bs_add_sp (by omega) H_104) (fun r_131 t_131 p_131 => ?_)
          obtain ⟨H_131, G_131, q_131⟩ := p_131
          try dsimp +instances only
          have F_131 := F_104.trans (fr.mono G_131 (fun a j h => ffl h))
          unfold g_bs_addRest_L135
          try dsimp +instances only
          refine zO.bindp (g_b_x1_sp) (fun r_138 p_138 => ?_)
          try dsimp +instances only
          refine zO.ite (fun c_90 => ?_) (fun c_90 => ?_)
          ·
            try dsimp +instances only
            exact zO.ret ⟨H_131, F_131, trivial⟩
          ·
            try dsimp +instances only
            refine zO.bindp (g_b_x1_sp) (fun r_146 p_146 => ?_)
            try dsimp +instances only
            try have ew_92 := w32_id (x := r_146 + 1) (by omega) (by omega)
            refine zO.bindp (g_b_of_sp) (fun r_157 p_157 => ?_)
            try dsimp +instances only
            refine zO.bind (g_bs_add_sp (by omega) H_131) (fun r_160 t_160 p_160 => ?_)
            obtain ⟨H_160, G_160, q_160⟩ := p_160
            try dsimp +instances only
            have F_160 := F_131.trans (fr.mono G_160 (fun a j h => ffl h))
            exact zO.ret ⟨H_160, F_160, trivial⟩
  ·
    try dsimp +instances only
    refine zO.bind (g_bs_add_sp (by omega) H) (fun r_10 t_10 p_10 => ?_)
    obtain ⟨H_10, G_10, q_10⟩ := p_10
    try dsimp +instances only
    have F_10 := F.trans (fr.mono G_10 (fun a j h => ffl h))
    exact zO.ret ⟨H_10, F_10, trivial⟩
def fw_bs_becomeRest (a0 : Nat) (a1 : Nat) (a : Nat) (j : Int) : Bool := (fw_bs_addRest a0 a j) || (((a == a0 && j == 1)) || false)
set_option maxHeartbeats 4000000 in
theorem g_bs_becomeRest_L7_sp {a0 : Nat} {a1 : Nat} (ha0 : a0 = 58 ∨ a0 = 116) (ha1 : a1 = 56 ∨ a1 = 114) {σ0 : zS} : ∀ (n : Nat) (x2 : Int) (x3 : Int) (σ : zS), CI σ → fr (fw_bs_becomeRest a0 a1) σ0 σ → (0 ≤ x3 ∧ x3 ≤ 181) → (181 - x3) < (n : Int) → zO (g_bs_becomeRest_L7 a0 a1 n x2 x3 σ) (fun v s => CI s ∧ fr (fw_bs_becomeRest a0 a1) σ0 s ∧ (True))
  | 0, _, _, σ, _, _, hi, hm => by exfalso; omega
  | n + 1, x2, x3, σ, H, F, hi, hm => by
    unfold g_bs_becomeRest_L7
    try dsimp +instances only
    generalize hv_v_9 : σ a1 1 = v_9
    have rv_v_9 := CI.c1 (a := a1) H (by omega)
    rw [hv_v_9] at rv_v_9
    refine zO.ite (fun c_1 => ?_) (fun c_1 => ?_)
    ·
      try dsimp +instances only
      exact zO.ret ⟨H, F, trivial⟩
    ·
      try dsimp +instances only
      refine zO.bindp (g_bs_at_sp (by omega) H) (fun r_18 p_18 => ?_)
      try dsimp +instances only
      refine zO.bind (g_bs_addRest_sp (by omega) H) (fun r_22 t_22 p_22 => ?_)
      obtain ⟨H_22, G_22, q_22⟩ := p_22
      try dsimp +instances only
      have F_22 := F.trans (fr.mono G_22 (fun a j h => ffl h))
      try have ew_4 := w32_id (x := x3 + 1) (by omega) (by omega)
      exact g_bs_becomeRest_L7_sp (by omega) (by omega) n x2 (w32 (x3 + 1)) t_22 H_22 F_22 (by omega) (by omega)
theorem g_bs_becomeRest_sp {a0 : Nat} {a1 : Nat} (ha0 : a0 = 58 ∨ a0 = 116) (ha1 : a1 = 56 ∨ a1 = 114) {x2 : Int} {σ : zS} (H : CI σ) : zO (g_bs_becomeRest a0 a1 x2 σ) (fun v s => CI s ∧ fr (fw_bs_becomeRest a0 a1) σ s ∧ (True)) := by
  have F : fr (fw_bs_becomeRest a0 a1) σ σ := fr.refl σ
  unfold g_bs_becomeRest
  try dsimp +instances only
  generalize hs_s_2 : zu σ a0 1 0 = s_2
  have H_2 : CI s_2 := by rw [← hs_s_2]; exact CI_zuy H (by omega) (by omega) (lo := 0) (hi := 181) (by rcases ha0 with rfl | rfl <;> rcases ha1 with rfl | rfl <;> rfl) (by omega) (by omega)
  have F_2 : fr (fw_bs_becomeRest a0 a1) σ s_2 := by rw [← hs_s_2]; exact fr.zu F (by omega) (br (bl (zbb _ _)))
  exact g_bs_becomeRest_L7_sp (by omega) (by omega) zK x2 0 s_2 H_2 F_2 (by omega) (by show _ < (1000000 : Int); omega)
def fw_ca_forgetAll (a0 : Nat) (a : Nat) (j : Int) : Bool := ((a == a0 && j == 2)) || (((a == a0 && j == 8)) || (((a == a0 && j == 9)) || (((a == a0 && j == 10)) || (((a == a0 && j == 11)) || (((a == a0 && j == 12)) || (((a == a0 && j == 13)) || (((a == a0 && j == 14)) || (((a == a0 && j == 15)) || false))))))))
theorem g_ca_forgetAll_sp {a0 : Nat} (ha0 : a0 = 48 ∨ a0 = 106) {σ : zS} (H : CI σ) : zO (g_ca_forgetAll a0 σ) (fun v s => CI s ∧ fr (fw_ca_forgetAll a0) σ s ∧ (True)) := by
  have F : fr (fw_ca_forgetAll a0) σ σ := fr.refl σ
  unfold g_ca_forgetAll
  try dsimp +instances only
  generalize hs_s_2 : zu σ a0 2 0 = s_2
  have H_2 : CI s_2 := by rw [← hs_s_2]; exact CI_zuy H (by omega) (by omega) (lo := 0) (hi := 181) (by rcases ha0 with rfl | rfl <;> rfl) (by omega) (by omega)
  have F_2 : fr (fw_ca_forgetAll a0) σ s_2 := by rw [← hs_s_2]; exact fr.zu F (by omega) (bl (zbb _ _))
  generalize hs_s_7 : zu s_2 a0 8 0 = s_7
  have H_7 : CI s_7 := by rw [← hs_s_7]; exact CI_zuy H_2 (by omega) (by omega) (lo := -2147483648) (hi := 2147483647) (by rcases ha0 with rfl | rfl <;> rfl) (by omega) (by omega)
  have F_7 : fr (fw_ca_forgetAll a0) σ s_7 := by rw [← hs_s_7]; exact fr.zu F_2 (by omega) (br (bl (zbb _ _)))
  generalize hs_s_12 : zu s_7 a0 9 0 = s_12
  have H_12 : CI s_12 := by rw [← hs_s_12]; exact CI_zun H_7 (by omega) (by omega) (by rcases ha0 with rfl | rfl <;> rfl)
  have F_12 : fr (fw_ca_forgetAll a0) σ s_12 := by rw [← hs_s_12]; exact fr.zu F_7 (by omega) (br (br (bl (zbb _ _))))
  generalize hs_s_17 : zu s_12 a0 10 0 = s_17
  have H_17 : CI s_17 := by rw [← hs_s_17]; exact CI_zun H_12 (by omega) (by omega) (by rcases ha0 with rfl | rfl <;> rfl)
  have F_17 : fr (fw_ca_forgetAll a0) σ s_17 := by rw [← hs_s_17]; exact fr.zu F_12 (by omega) (br (br (br (bl (zbb _ _)))))
  generalize hs_s_22 : zu s_17 a0 11 0 = s_22
  have H_22 : CI s_22 := by rw [← hs_s_22]; exact CI_zun H_17 (by omega) (by omega) (by rcases ha0 with rfl | rfl <;> rfl)
  have F_22 : fr (fw_ca_forgetAll a0) σ s_22 := by rw [← hs_s_22]; exact fr.zu F_17 (by omega) (br (br (br (br (bl (zbb _ _))))))
  generalize hs_s_27 : zu s_22 a0 12 0 = s_27
  have H_27 : CI s_27 := by rw [← hs_s_27]; exact CI_zun H_22 (by omega) (by omega) (by rcases ha0 with rfl | rfl <;> rfl)
  have F_27 : fr (fw_ca_forgetAll a0) σ s_27 := by rw [← hs_s_27]; exact fr.zu F_22 (by omega) (br (br (br (br (br (bl (zbb _ _)))))))
  generalize hs_s_32 : zu s_27 a0 13 0 = s_32
  have H_32 : CI s_32 := by rw [← hs_s_32]; exact CI_zun H_27 (by omega) (by omega) (by rcases ha0 with rfl | rfl <;> rfl)
  have F_32 : fr (fw_ca_forgetAll a0) σ s_32 := by rw [← hs_s_32]; exact fr.zu F_27 (by omega) (br (br (br (br (br (br (bl (zbb _ _))))))))
  generalize hs_s_37 : zu s_32 a0 14 0 = s_37
  have H_37 : CI s_37 := by rw [← hs_s_37]; exact CI_zun H_32 (by omega) (by omega) (by rcases ha0 with rfl | rfl <;> rfl)
  have F_37 : fr (fw_ca_forgetAll a0) σ s_37 := by rw [← hs_s_37]; exact fr.zu F_32 (by omega) (br (br (br (br (br (br (br (bl (zbb _ _)))))))))
  generalize hs_s_42 : zu s_37 a0 15 0 = s_42
  have H_42 : CI s_42 := by rw [← hs_s_42]; exact CI_zun H_37 (by omega) (by omega) (by rcases ha0 with rfl | rfl <;> rfl)
  have F_42 : fr (fw_ca_forgetAll a0) σ s_42 := by rw [← hs_s_42]; exact fr.zu F_37 (by omega) (br (br (br (br (br (br (br (br (bl (zbb _ _))))))))))
  exact zO.ret ⟨H_42, F_42, trivial⟩
def fw_se_copyFrom (a0 : Nat) (a1 : Nat) (a : Nat) (j : Int) : Bool := (a == (a0 + 1)) || false
theorem g_se_copyFrom_sp {a0 : Nat} {a1 : Nat} (ha0 : a0 = 49 ∨ a0 = 82 ∨ a0 = 107 ∨ a0 = 118) (ha1 : a1 = 49 ∨ a1 = 82 ∨ a1 = 107 ∨ a1 = 118) {σ : zS} (H : CI σ) : zO (g_se_copyFrom a0 a1 σ) (fun v s => CI s ∧ fr (fw_se_copyFrom a0 a1) σ s ∧ (True)) := by
  have F : fr (fw_se_copyFrom a0 a1) σ σ := fr.refl σ
  unfold g_se_copyFrom
  try dsimp +instances only
  generalize hs_s_12 : zcp σ (a1 + 1) 0 (a0 + 1) 0 7 = s_12
  have H_12 : CI s_12 := by rw [← hs_s_12]; exact CI_zcpn H (by omega) (by omega) (fun j => by rcases ha0 with rfl | rfl | rfl | rfl <;> rcases ha1 with rfl | rfl | rfl | rfl <;> rfl)
  have F_12 : fr (fw_se_copyFrom a0 a1) σ s_12 := by rw [← hs_s_12]; exact fr.zcp F (by omega) (fun j => bl (beq_self_eq_true _))
  exact zO.ret ⟨H_12, F_12, trivial⟩
def fw_ca_copyFrom (a0 : Nat) (a1 : Nat) (a : Nat) (j : Int) : Bool := (fw_se_copyFrom (a0 + 1) (a1 + 1) a j) || ((a == (a0 + 3)) || ((a == (a0 + 4)) || ((a == (a0 + 5)) || ((a == (a0 + 6)) || ((a == (a0 + 7)) || (((a == a0 && j == 2)) || (((a == a0 && j == 8)) || (((a == a0 && j == 9)) || (((a == a0 && j == 10)) || (((a == a0 && j == 11)) || (((a == a0 && j == 12)) || (((a == a0 && j == 13)) || (((a == a0 && j == 14)) || (((a == a0 && j == 15)) || false))))))))))))))
theorem g_ca_copyFrom_sp {a0 : Nat} {a1 : Nat} (ha0 : a0 = 48 ∨ a0 = 81) (ha1 : a1 = 48 ∨ a1 = 81) {σ : zS} (H : CI σ) : zO (g_ca_copyFrom a0 a1 σ) (fun v s => CI s ∧ fr (fw_ca_copyFrom a0 a1) σ s ∧ (True)) := by
  have F : fr (fw_ca_copyFrom a0 a1) σ σ := fr.refl σ
  unfold g_ca_copyFrom
  try dsimp +instances only
  refine zO.bind (g_se_copyFrom_sp (by omega) (by omega) H) (fun r_8 t_8 p_8 => ?_)
  obtain ⟨H_8, G_8, q_8⟩ := p_8
  try dsimp +instances only
  have F_8 := F.trans (fr.mono G_8 (fun a j h => ffl h))
  generalize hs_s_24 : zcp t_8 (a1 + 3) 0 (a0 + 3) 0 181 = s_24
  have H_24 : CI s_24 := by rw [← hs_s_24]; exact CI_zcpy H_8 (by omega) (by omega) (fun j k v h => by rcases ha0 with rfl | rfl <;> rcases ha1 with rfl | rfl <;> exact h)
  have F_24 : fr (fw_ca_copyFrom a0 a1) σ s_24 := by rw [← hs_s_24]; exact fr.zcp F_8 (by omega) (fun j => br (bl (beq_self_eq_true _)))
  generalize hs_s_40 : zcp s_24 (a1 + 4) 0 (a0 + 4) 0 181 = s_40
  have H_40 : CI s_40 := by rw [← hs_s_40]; exact CI_zcpn H_24 (by omega) (by omega) (fun j => by rcases ha0 with rfl | rfl <;> rcases ha1 with rfl | rfl <;> rfl)
  have F_40 : fr (fw_ca_copyFrom a0 a1) σ s_40 := by rw [← hs_s_40]; exact fr.zcp F_24 (by omega) (fun j => br (br (bl (beq_self_eq_true _))))
  generalize hs_s_56 : zcp s_40 (a1 + 5) 0 (a0 + 5) 0 181 = s_56
  have H_56 : CI s_56 := by rw [← hs_s_56]; exact CI_zcpn H_40 (by omega) (by omega) (fun j => by rcases ha0 with rfl | rfl <;> rcases ha1 with rfl | rfl <;> rfl)
  have F_56 : fr (fw_ca_copyFrom a0 a1) σ s_56 := by rw [← hs_s_56]; exact fr.zcp F_40 (by omega) (fun j => br (br (br (bl (beq_self_eq_true _)))))
  generalize hs_s_72 : zcp s_56 (a1 + 6) 0 (a0 + 6) 0 181 = s_72
  have H_72 : CI s_72 := by rw [← hs_s_72]; exact CI_zcpn H_56 (by omega) (by omega) (fun j => by rcases ha0 with rfl | rfl <;> rcases ha1 with rfl | rfl <;> rfl)
  have F_72 : fr (fw_ca_copyFrom a0 a1) σ s_72 := by rw [← hs_s_72]; exact fr.zcp F_56 (by omega) (fun j => br (br (br (br (bl (beq_self_eq_true _))))))
  generalize hs_s_88 : zcp s_72 (a1 + 7) 0 (a0 + 7) 0 181 = s_88
  have H_88 : CI s_88 := by rw [← hs_s_88]; exact CI_zcpn H_72 (by omega) (by omega) (fun j => by rcases ha0 with rfl | rfl <;> rcases ha1 with rfl | rfl <;> rfl)
  have F_88 : fr (fw_ca_copyFrom a0 a1) σ s_88 := by rw [← hs_s_88]; exact fr.zcp F_72 (by omega) (fun j => br (br (br (br (br (bl (beq_self_eq_true _)))))))
  generalize hv_v_93 : s_88 a1 2 = v_93
  have rv_v_93 := CI.c2 (a := a1) H_88 (by omega)
  rw [hv_v_93] at rv_v_93
  generalize hs_s_96 : zu s_88 a0 2 v_93 = s_96
  have H_96 : CI s_96 := by rw [← hs_s_96]; exact CI_zuy H_88 (by omega) (by omega) (lo := 0) (hi := 181) (by rcases ha0 with rfl | rfl <;> rcases ha1 with rfl | rfl <;> rfl) (by omega) (by omega)
  have F_96 : fr (fw_ca_copyFrom a0 a1) σ s_96 := by rw [← hs_s_96]; exact fr.zu F_88 (by omega) (br (br (br (br (br (br (bl (zbb _ _))))))))
  generalize hv_v_101 : s_96 a1 8 = v_101
  have rv_v_101 := CI.cx (a := a1) H_96 (by omega)
  rw [hv_v_101] at rv_v_101
  generalize hs_s_104 : zu s_96 a0 8 v_101 = s_104
  have H_104 : CI s_104 := by rw [← hs_s_104]; exact CI_zuy H_96 (by omega) (by omega) (lo := -2147483648) (hi := 2147483647) (by rcases ha0 with rfl | rfl <;> rcases ha1 with rfl | rfl <;> rfl) (by omega) (by omega)
  have F_104 : fr (fw_ca_copyFrom a0 a1) σ s_104 := by rw [← hs_s_104]; exact fr.zu F_96 (by omega) (br (br (br (br (br (br (br (bl (zbb _ _)))))))))
  generalize hv_v_109 : s_104 a1 9 = v_109
  generalize hs_s_112 : zu s_104 a0 9 v_109 = s_112
  have H_112 : CI s_112 := by rw [← hs_s_112]; exact CI_zun H_104 (by omega) (by omega) (by rcases ha0 with rfl | rfl <;> rcases ha1 with rfl | rfl <;> rfl)
  have F_112 : fr (fw_ca_copyFrom a0 a1) σ s_112 := by rw [← hs_s_112]; exact fr.zu F_104 (by omega) (br (br (br (br (br (br (br (br (bl (zbb _ _))))))))))
  generalize hv_v_117 : s_112 a1 10 = v_117
  generalize hs_s_120 : zu s_112 a0 10 v_117 = s_120
  have H_120 : CI s_120 := by rw [← hs_s_120]; exact CI_zun H_112 (by omega) (by omega) (by rcases ha0 with rfl | rfl <;> rcases ha1 with rfl | rfl <;> rfl)
  have F_120 : fr (fw_ca_copyFrom a0 a1) σ s_120 := by rw [← hs_s_120]; exact fr.zu F_112 (by omega) (br (br (br (br (br (br (br (br (br (bl (zbb _ _)))))))))))
  generalize hv_v_125 : s_120 a1 11 = v_125
  generalize hs_s_128 : zu s_120 a0 11 v_125 = s_128
  have H_128 : CI s_128 := by rw [← hs_s_128]; exact CI_zun H_120 (by omega) (by omega) (by rcases ha0 with rfl | rfl <;> rcases ha1 with rfl | rfl <;> rfl)
  have F_128 : fr (fw_ca_copyFrom a0 a1) σ s_128 := by rw [← hs_s_128]; exact fr.zu F_120 (by omega) (br (br (br (br (br (br (br (br (br (br (bl (zbb _ _))))))))))))
  generalize hv_v_133 : s_128 a1 12 = v_133
  generalize hs_s_136 : zu s_128 a0 12 v_133 = s_136
  have H_136 : CI s_136 := by rw [← hs_s_136]; exact CI_zun H_128 (by omega) (by omega) (by rcases ha0 with rfl | rfl <;> rcases ha1 with rfl | rfl <;> rfl)
  have F_136 : fr (fw_ca_copyFrom a0 a1) σ s_136 := by rw [← hs_s_136]; exact fr.zu F_128 (by omega) (br (br (br (br (br (br (br (br (br (br (br (bl (zbb _ _)))))))))))))
  generalize hv_v_141 : s_136 a1 13 = v_141
  generalize hs_s_144 : zu s_136 a0 13 v_141 = s_144
  have H_144 : CI s_144 := by rw [← hs_s_144]; exact CI_zun H_136 (by omega) (by omega) (by rcases ha0 with rfl | rfl <;> rcases ha1 with rfl | rfl <;> rfl)
  have F_144 : fr (fw_ca_copyFrom a0 a1) σ s_144 := by rw [← hs_s_144]; exact fr.zu F_136 (by omega) (br (br (br (br (br (br (br (br (br (br (br (br (bl (zbb _ _))))))))))))))
  generalize hv_v_149 : s_144 a1 14 = v_149
  generalize hs_s_152 : zu s_144 a0 14 v_149 = s_152
  have H_152 : CI s_152 := by rw [← hs_s_152]; exact CI_zun H_144 (by omega) (by omega) (by rcases ha0 with rfl | rfl <;> rcases ha1 with rfl | rfl <;> rfl)
  have F_152 : fr (fw_ca_copyFrom a0 a1) σ s_152 := by rw [← hs_s_152]; exact fr.zu F_144 (by omega) (br (br (br (br (br (br (br (br (br (br (br (br (br (bl (zbb _ _)))))))))))))))
  generalize hv_v_157 : s_152 a1 15 = v_157
  generalize hs_s_160 : zu s_152 a0 15 v_157 = s_160
  have H_160 : CI s_160 := by rw [← hs_s_160]; exact CI_zun H_152 (by omega) (by omega) (by rcases ha0 with rfl | rfl <;> rcases ha1 with rfl | rfl <;> rfl)
  have F_160 : fr (fw_ca_copyFrom a0 a1) σ s_160 := by rw [← hs_s_160]; exact fr.zu F_152 (by omega) (br (br (br (br (br (br (br (br (br (br (br (br (br (br (bl (zbb _ _))))))))))))))))
  exact zO.ret ⟨H_160, F_160, trivial⟩
def fw_ca_remove (a0 : Nat) (a : Nat) (j : Int) : Bool := ((a == a0 && j == 2)) || ((a == (a0 + 3)) || ((a == (a0 + 4)) || ((a == (a0 + 5)) || ((a == (a0 + 6)) || ((a == (a0 + 7)) || false)))))
set_option maxHeartbeats 4000000 in
theorem g_ca_remove_L4_sp {a0 : Nat} (ha0 : a0 = 48 ∨ a0 = 106) {σ0 : zS} : ∀ (n : Nat) (x2 : Int) (σ : zS), CI σ → fr (fw_ca_remove a0) σ0 σ → (1 ≤ x2 ∧ x2 ≤ 181 ∧ 1 ≤ σ a0 2 ∧ σ a0 2 = σ0 a0 2) → (181 - x2) < (n : Int) → zO (g_ca_remove_L4 a0 n x2 σ) (fun v s => CI s ∧ fr (fw_ca_remove a0) σ0 s ∧ (s a0 2 = σ0 a0 2 - 1))
  | 0, _, σ, _, _, hi, hm => by exfalso; omega
  | n + 1, x2, σ, H, F, hi, hm => by
    have ri_a0_2 := CI.c2 (a := a0) H (by omega)
    unfold g_ca_remove_L4
    try dsimp +instances only
    generalize hv_v_6 : σ a0 2 = v_6
    have rv_v_6 := CI.c2 (a := a0) H (by omega)
    rw [hv_v_6] at rv_v_6
    refine zO.ite (fun c_1 => ?_) (fun c_1 => ?_)
    ·
      try dsimp +instances only
      try have ew_2 := w32_id (x := v_6 - 1) (by omega) (by omega)
      generalize hs_s_95 : zu σ a0 2 (w32 (v_6 - 1)) = s_95
      have H_95 : CI s_95 := by rw [← hs_s_95]; exact CI_zuy H (by omega) (by omega) (lo := 0) (hi := 181) (by rcases ha0 with rfl | rfl <;> rfl) (by omega) (by omega)
      have F_95 : fr (fw_ca_remove a0) σ0 s_95 := by rw [← hs_s_95]; exact fr.zu F (by omega) (bl (zbb _ _))
      have e_s_95_a0_2 : s_95 a0 2 = (w32 (v_6 - 1)) := by rw [← hs_s_95]; exact zu_e rfl
      exact zO.ret ⟨H_95, F_95, (by omega)⟩
    ·
      try dsimp +instances only
      refine zO.gd (by omega) ?_
      try dsimp +instances only
      generalize hv_v_24 : σ (a0 + 3) x2 = v_24
      have rv_v_24 := CI.cy (a := a0 + 3) (j := x2) H (by omega)
      rw [hv_v_24] at rv_v_24
      try have ew_3 := w32_id (x := x2 - 1) (by omega) (by omega)
      refine zO.gd (by omega) ?_
      try dsimp +instances only
      generalize hs_s_25 : zu σ (a0 + 3) (w32 (x2 - 1)) v_24 = s_25
      have H_25 : CI s_25 := by rw [← hs_s_25]; exact CI_zuy H (by omega) (by omega) (lo := -2147483648) (hi := 2147483647) (by rcases ha0 with rfl | rfl <;> rfl) (by omega) (by omega)
      have F_25 : fr (fw_ca_remove a0) σ0 s_25 := by rw [← hs_s_25]; exact fr.zu F (by omega) (br (bl (beq_self_eq_true _)))
      have e_s_25_a0_2 : s_25 a0 2 = σ a0 2 := by rw [← hs_s_25]; exact zu_c (by omega)
      refine zO.gd (by omega) ?_
      try dsimp +instances only
      generalize hv_v_38 : s_25 (a0 + 4) x2 = v_38
      refine zO.gd (by omega) ?_
      try dsimp +instances only
      generalize hs_s_39 : zu s_25 (a0 + 4) (w32 (x2 - 1)) v_38 = s_39
      have H_39 : CI s_39 := by rw [← hs_s_39]; exact CI_zun H_25 (by omega) (by omega) (by rcases ha0 with rfl | rfl <;> rfl)
      have F_39 : fr (fw_ca_remove a0) σ0 s_39 := by rw [← hs_s_39]; exact fr.zu F_25 (by omega) (br (br (bl (beq_self_eq_true _))))
      have e_s_39_a0_2 : s_39 a0 2 = s_25 a0 2 := by rw [← hs_s_39]; exact zu_c (by omega)
      refine zO.gd (by omega) ?_
      try dsimp +instances only
      generalize hv_v_52 : s_39 (a0 + 5) x2 = v_52
      refine zO.gd (by omega) ?_
      try dsimp +instances only
      generalize hs_s_53 : zu s_39 (a0 + 5) (w32 (x2 - 1)) v_52 = s_53
      have H_53 : CI s_53 := by rw [← hs_s_53]; exact CI_zun H_39 (by omega) (by omega) (by rcases ha0 with rfl | rfl <;> rfl)
      have F_53 : fr (fw_ca_remove a0) σ0 s_53 := by rw [← hs_s_53]; exact fr.zu F_39 (by omega) (br (br (br (bl (beq_self_eq_true _)))))
      have e_s_53_a0_2 : s_53 a0 2 = s_39 a0 2 := by rw [← hs_s_53]; exact zu_c (by omega)
      refine zO.gd (by omega) ?_
      try dsimp +instances only
      generalize hv_v_66 : s_53 (a0 + 6) x2 = v_66
      refine zO.gd (by omega) ?_
      try dsimp +instances only
      generalize hs_s_67 : zu s_53 (a0 + 6) (w32 (x2 - 1)) v_66 = s_67
      have H_67 : CI s_67 := by rw [← hs_s_67]; exact CI_zun H_53 (by omega) (by omega) (by rcases ha0 with rfl | rfl <;> rfl)
      have F_67 : fr (fw_ca_remove a0) σ0 s_67 := by rw [← hs_s_67]; exact fr.zu F_53 (by omega) (br (br (br (br (bl (beq_self_eq_true _))))))
      have e_s_67_a0_2 : s_67 a0 2 = s_53 a0 2 := by rw [← hs_s_67]; exact zu_c (by omega)
      refine zO.gd (by omega) ?_
      try dsimp +instances only
      generalize hv_v_80 : s_67 (a0 + 7) x2 = v_80
      refine zO.gd (by omega) ?_
      try dsimp +instances only
      generalize hs_s_81 : zu s_67 (a0 + 7) (w32 (x2 - 1)) v_80 = s_81
      have H_81 : CI s_81 := by rw [← hs_s_81]; exact CI_zun H_67 (by omega) (by omega) (by rcases ha0 with rfl | rfl <;> rfl)
      have F_81 : fr (fw_ca_remove a0) σ0 s_81 := by rw [← hs_s_81]; exact fr.zu F_67 (by omega) (br (br (br (br (br (bl (beq_self_eq_true _)))))))
      have e_s_81_a0_2 : s_81 a0 2 = s_67 a0 2 := by rw [← hs_s_81]; exact zu_c (by omega)
      try have ew_4 := w32_id (x := x2 + 1) (by omega) (by omega)
      exact zO.imp (g_ca_remove_L4_sp (by omega) n (w32 (x2 + 1)) s_81 H_81 F_81 (by omega) (by omega)) (fun v s ⟨pa, pb, pc⟩ => ⟨pa, pb, by omega⟩)
theorem g_ca_remove_sp {a0 : Nat} (ha0 : a0 = 48 ∨ a0 = 106) {x1 : Int} {σ : zS} (H : CI σ) (hp : 0 ≤ x1 ∧ x1 < σ a0 2) : zO (g_ca_remove a0 x1 σ) (fun v s => CI s ∧ fr (fw_ca_remove a0) σ s ∧ (s a0 2 = σ a0 2 - 1)) := by
  have F : fr (fw_ca_remove a0) σ σ := fr.refl σ
  have ri_a0_2 := CI.c2 (a := a0) H (by omega)
  unfold g_ca_remove
  try dsimp +instances only
  try have ew_5 := w32_id (x := x1 + 1) (by omega) (by omega)
  exact zO.imp (g_ca_remove_L4_sp (by omega) zK (w32 (x1 + 1)) σ H F (by omega) (by show _ < (1000000 : Int); omega)) (fun v s ⟨pa, pb, pc⟩ => ⟨pa, pb, by omega⟩)
def fw_ca_mergeInto (a0 : Nat) (a : Nat) (j : Int) : Bool := (a == (a0 + 4)) || ((a == (a0 + 5)) || ((a == (a0 + 6)) || ((a == (a0 + 7)) || ((fw_ca_remove a0 a j) || (((a == a0 && j == 14)) || false)))))
theorem g_ca_mergeInto_sp {a0 : Nat} (ha0 : a0 = 48 ∨ a0 = 106) {x1 : Int} {x2 : Int} {σ : zS} (H : CI σ) (hp : 0 ≤ x1 ∧ x1 < σ a0 2 ∧ 0 ≤ x2 ∧ x2 < σ a0 2) : zO (g_ca_mergeInto a0 x1 x2 σ) (fun v s => CI s ∧ fr (fw_ca_mergeInto a0) σ s ∧ (s a0 2 = σ a0 2 - 1)) := by
  have F : fr (fw_ca_mergeInto a0) σ σ := fr.refl σ
  have ri_a0_2 := CI.c2 (a := a0) H (by omega)
  unfold g_ca_mergeInto
  try dsimp +instances only
  refine zO.gd (by omega) ?_
  try dsimp +instances only
  generalize hv_v_10 : σ (a0 + 4) x1 = v_10
  refine zO.gd (by omega) ?_
  try dsimp +instances only
  generalize hv_v_16 : σ (a0 + 4) x2 = v_16
  refine zO.bindp (g_b_around_sp) (fun r_17 p_17 => ?_)
  try dsimp +instances only
  refine zO.gd (by omega) ?_
  try dsimp +instances only
  generalize hs_s_20 : zu σ (a0 + 4) x1 r_17 = s_20
  have H_20 : CI s_20 := by rw [← hs_s_20]; exact CI_zun H (by omega) (by omega) (by rcases ha0 with rfl | rfl <;> rfl)
  have F_20 : fr (fw_ca_mergeInto a0) σ s_20 := by rw [← hs_s_20]; exact fr.zu F (by omega) (bl (beq_self_eq_true _))
  have e_s_20_a0_2 : s_20 a0 2 = σ a0 2 := by rw [← hs_s_20]; exact zu_c (by omega)
  refine zO.gd (by omega) ?_
  try dsimp +instances only
  generalize hv_v_34 : s_20 (a0 + 5) x1 = v_34
  refine zO.gd (by omega) ?_
  try dsimp +instances only
  generalize hv_v_40 : s_20 (a0 + 5) x2 = v_40
  try have ew_2 := w32_id (x := v_34 + v_40) (by omega) (by omega)
  refine zO.bindp (g_jMath_min_291_sp) (fun r_42 p_42 => ?_)
  try dsimp +instances only
  refine zO.gd (by omega) ?_
  try dsimp +instances only
  generalize hs_s_45 : zu s_20 (a0 + 5) x1 r_42 = s_45
  have H_45 : CI s_45 := by rw [← hs_s_45]; exact CI_zun H_20 (by omega) (by omega) (by rcases ha0 with rfl | rfl <;> rfl)
  have F_45 : fr (fw_ca_mergeInto a0) σ s_45 := by rw [← hs_s_45]; exact fr.zu F_20 (by omega) (br (bl (beq_self_eq_true _)))
  have e_s_45_a0_2 : s_45 a0 2 = s_20 a0 2 := by rw [← hs_s_45]; exact zu_c (by omega)
  refine zO.gd (by omega) ?_
  try dsimp +instances only
  generalize hv_v_56 : s_45 (a0 + 6) x1 = v_56
  refine zO.gd (by omega) ?_
  try dsimp +instances only
  generalize hv_v_62 : s_45 (a0 + 6) x2 = v_62
  refine zO.bindp (g_b_around_sp) (fun r_63 p_63 => ?_)
  try dsimp +instances only
  refine zO.gd (by omega) ?_
  try dsimp +instances only
  generalize hs_s_66 : zu s_45 (a0 + 6) x1 r_63 = s_66
  have H_66 : CI s_66 := by rw [← hs_s_66]; exact CI_zun H_45 (by omega) (by omega) (by rcases ha0 with rfl | rfl <;> rfl)
  have F_66 : fr (fw_ca_mergeInto a0) σ s_66 := by rw [← hs_s_66]; exact fr.zu F_45 (by omega) (br (br (bl (beq_self_eq_true _))))
  have e_s_66_a0_2 : s_66 a0 2 = s_45 a0 2 := by rw [← hs_s_66]; exact zu_c (by omega)
  refine zO.gd (by omega) ?_
  try dsimp +instances only
  generalize hv_v_77 : s_66 (a0 + 7) x1 = v_77
  refine zO.gd (by omega) ?_
  try dsimp +instances only
  generalize hv_v_83 : s_66 (a0 + 7) x2 = v_83
  refine zO.bindp (g_jMath_max_290_sp) (fun r_84 p_84 => ?_)
  try dsimp +instances only
  refine zO.gd (by omega) ?_
  try dsimp +instances only
  generalize hs_s_87 : zu s_66 (a0 + 7) x1 r_84 = s_87
  have H_87 : CI s_87 := by rw [← hs_s_87]; exact CI_zun H_66 (by omega) (by omega) (by rcases ha0 with rfl | rfl <;> rfl)
  have F_87 : fr (fw_ca_mergeInto a0) σ s_87 := by rw [← hs_s_87]; exact fr.zu F_66 (by omega) (br (br (br (bl (beq_self_eq_true _)))))
  have e_s_87_a0_2 : s_87 a0 2 = s_66 a0 2 := by rw [← hs_s_87]; exact zu_c (by omega)
  refine zO.bind (g_ca_remove_sp (by omega) H_87 (by omega)) (fun r_90 t_90 p_90 => ?_)
  obtain ⟨H_90, G_90, q_90⟩ := p_90
  try dsimp +instances only
  have F_90 := F_87.trans (fr.mono G_90 (fun a j h => ffl (ffr (ffr (ffr (ffr h))))))
  generalize hv_v_95 : t_90 a0 14 = v_95
  try have ew_7 := w32_id (x := v_95 + 1) (by omega) (by omega)
  generalize hs_s_100 : zu t_90 a0 14 (w32 (v_95 + 1)) = s_100
  have H_100 : CI s_100 := by rw [← hs_s_100]; exact CI_zun H_90 (by omega) (by omega) (by rcases ha0 with rfl | rfl <;> rfl)
  have F_100 : fr (fw_ca_mergeInto a0) σ s_100 := by rw [← hs_s_100]; exact fr.zu F_90 (by omega) (br (br (br (br (br (bl (zbb _ _)))))))
  have e_s_100_a0_2 : s_100 a0 2 = t_90 a0 2 := by rw [← hs_s_100]; exact zu_c (by omega)
  exact zO.ret ⟨H_100, F_100, (by omega)⟩
def fw_ca_merge (a0 : Nat) (a : Nat) (j : Int) : Bool := (fw_ca_mergeInto a0 a j) || false
set_option maxHeartbeats 4000000 in
theorem g_ca_merge_L17_sp {a0 : Nat} (ha0 : a0 = 48 ∨ a0 = 106) {σ0 : zS} : ∀ (n : Nat) (x1 : Int) (x2 : Int) (σ : zS), CI σ → fr (fw_ca_merge a0) σ0 σ → (0 ≤ x1 ∧ x1 ≤ 181 ∧ 0 ≤ x2 ∧ x2 ≤ 100000) → (x2) < (n : Int) → zO (g_ca_merge_L17 a0 n x1 x2 σ) (fun v s => CI s ∧ fr (fw_ca_merge a0) σ0 s ∧ (True))
  | 0, _, _, σ, _, _, hi, hm => by exfalso; omega
  | n + 1, x1, x2, σ, H, F, hi, hm => by
    unfold g_ca_merge_L17
    try dsimp +instances only
    refine zO.ite (fun c_1 => ?_) (fun c_1 => ?_)
    ·
      try dsimp +instances only
      exact zO.ret ⟨H, F, trivial⟩
    ·
      try dsimp +instances only
      generalize hv_v_23 : σ a0 2 = v_23
      have rv_v_23 := CI.c2 (a := a0) H (by omega)
      rw [hv_v_23] at rv_v_23
      refine zO.ite (fun c_2 => ?_) (fun c_2 => ?_)
      ·
        try dsimp +instances only
        exact zO.ret ⟨H, F, trivial⟩
      ·
        try dsimp +instances only
        refine zO.bindp (g_ca_otherBehind_sp (by omega) H (by omega)) (fun r_31 p_31 => ?_)
        try dsimp +instances only
        refine zO.ite (fun c_4 => ?_) (fun c_4 => ?_)
        ·
          try dsimp +instances only
          refine zO.bind (g_ca_mergeInto_sp (by omega) H (by omega)) (fun r_48 t_48 p_48 => ?_)
          obtain ⟨H_48, G_48, q_48⟩ := p_48
          try dsimp +instances only
          have F_48 := F.trans (fr.mono G_48 (fun a j h => ffl h))
          refine zO.bindp (g_ca_earliestFor_sp (by omega) H_48 (by omega)) (fun r_53 p_53 => ?_)
          try dsimp +instances only
          unfold g_ca_merge_L57
          try dsimp +instances only
          try have ew_7 := w32_id (x := x2 - 1) (by omega) (by omega)
          exact g_ca_merge_L17_sp (by omega) n r_53 (w32 (x2 - 1)) t_48 H_48 F_48 (by omega) (by omega)
        ·
          try dsimp +instances only
          try have ew_8 := w32_id (x := x1 + 1) (by omega) (by omega)
          unfold g_ca_merge_L57
          try dsimp +instances only
          try have ew_9 := w32_id (x := x2 - 1) (by omega) (by omega)
          exact g_ca_merge_L17_sp (by omega) n (w32 (x1 + 1)) (w32 (x2 - 1)) σ H F (by omega) (by omega)
theorem g_ca_merge_sp {a0 : Nat} (ha0 : a0 = 48 ∨ a0 = 106) {σ : zS} (H : CI σ) : zO (g_ca_merge a0 σ) (fun v s => CI s ∧ fr (fw_ca_merge a0) σ s ∧ (True)) := by
  have F : fr (fw_ca_merge a0) σ σ := fr.refl σ
  unfold g_ca_merge
  try dsimp +instances only
  refine zO.bindp (g_se_of_sp (by omega)) (fun r_5 p_5 => ?_)
  try dsimp +instances only
  refine zO.ite (fun c_11 => ?_) (fun c_11 => ?_)
  ·
    try dsimp +instances only
    exact g_ca_merge_L17_sp (by omega) zK 0 100000 σ H F (by omega) (by show _ < (1000000 : Int); omega)
  ·
    try dsimp +instances only
    exact zO.ret ⟨H, F, trivial⟩
def fw_ca_weigh (a0 : Nat) (a : Nat) (j : Int) : Bool := (a == (a0 + 7)) || false
theorem g_ca_weigh_sp {a0 : Nat} (ha0 : a0 = 48 ∨ a0 = 106) {x1 : Int} {σ : zS} (H : CI σ) (hp : 0 ≤ x1 ∧ x1 < 181) : zO (g_ca_weigh a0 x1 σ) (fun v s => CI s ∧ fr (fw_ca_weigh a0) σ s ∧ (s a0 2 = σ a0 2)) := by
  have F : fr (fw_ca_weigh a0) σ σ := fr.refl σ
  have ri_a0_2 := CI.c2 (a := a0) H (by omega)
  unfold g_ca_weigh
  try dsimp +instances only
  refine zO.gd (by omega) ?_
  try dsimp +instances only
  generalize hv_v_9 : σ (a0 + 4) x1 = v_9
  refine zO.bindp (g_so_rowsIn_sp) (fun r_10 p_10 => ?_)
  try dsimp +instances only
  refine zO.bindp (g_jLong_bitCount_sp) (fun r_13 p_13 => ?_)
  try dsimp +instances only
  refine zO.bindp (g_se_of_sp (by omega)) (fun r_22 p_22 => ?_)
  try dsimp +instances only
  generalize hv_v_35 : σ a0 9 = v_35
  refine zO.gd (by omega) ?_
  try dsimp +instances only
  generalize hv_v_49 : σ (a0 + 5) x1 = v_49
  try have ew_4 := w32_id (x := 1 + r_13) (by omega) (by omega)
  refine zO.ite (fun c_5 => ?_) (fun c_5 => ?_)
  ·
    try dsimp +instances only
    exfalso; omega
  ·
    try dsimp +instances only
    refine zO.gd (by omega) ?_
    try dsimp +instances only
    try have ew_6 := w32_id (x := 1 + v_49) (by omega) (by omega)
    try have ew_7 := w32_id (x := r_22 + r_13) (by omega) (by omega)
    generalize hs_s_59 : zu σ (a0 + 7) x1 (w64 (v_35 + (w64 (Int.tdiv (w64 ((w64 (1000 * (w32 (r_22 + r_13)))) * (w32 (1 + v_49)))) (w32 (1 + r_13)))))) = s_59
    have H_59 : CI s_59 := by rw [← hs_s_59]; exact CI_zun H (by omega) (by omega) (by rcases ha0 with rfl | rfl <;> rfl)
    have F_59 : fr (fw_ca_weigh a0) σ s_59 := by rw [← hs_s_59]; exact fr.zu F (by omega) (bl (beq_self_eq_true _))
    have e_s_59_a0_2 : s_59 a0 2 = σ a0 2 := by rw [← hs_s_59]; exact zu_c (by omega)
    exact zO.ret ⟨H_59, F_59, (by omega)⟩
def fw_ca_giveUp (a0 : Nat) (a : Nat) (j : Int) : Bool := (fw_ca_remove a0 a j) || (((a == a0 && j == 12)) || ((a == (a0 + 4)) || ((a == (a0 + 6)) || ((a == (a0 + 5)) || ((fw_ca_weigh a0 a j) || (((a == a0 && j == 13)) || (((a == a0 && j == 9)) || false)))))))
theorem g_ca_giveUp_sp {a0 : Nat} (ha0 : a0 = 48 ∨ a0 = 106) {x1 : Int} {σ : zS} (H : CI σ) (hp : 0 ≤ x1 ∧ x1 < σ a0 2) : zO (g_ca_giveUp a0 x1 σ) (fun v s => CI s ∧ fr (fw_ca_giveUp a0) σ s ∧ (True)) := by
  have F : fr (fw_ca_giveUp a0) σ σ := fr.refl σ
  have ri_a0_2 := CI.c2 (a := a0) H (by omega)
  unfold g_ca_giveUp
  try dsimp +instances only
  generalize hv_v_2 : σ a0 9 = v_2
  refine zO.gd (by omega) ?_
  try dsimp +instances only
  generalize hv_v_10 : σ (a0 + 7) x1 = v_10
  refine zO.bindp (g_jMath_max_290_sp) (fun r_11 p_11 => ?_)
  try dsimp +instances only
  generalize hs_s_14 : zu σ a0 9 r_11 = s_14
  have H_14 : CI s_14 := by rw [← hs_s_14]; exact CI_zun H (by omega) (by omega) (by rcases ha0 with rfl | rfl <;> rfl)
  have F_14 : fr (fw_ca_giveUp a0) σ s_14 := by rw [← hs_s_14]; exact fr.zu F (by omega) (br (br (br (br (br (br (br (bl (zbb _ _)))))))))
  have e_s_14_a0_2 : s_14 a0 2 = σ a0 2 := by rw [← hs_s_14]; exact zu_c (by omega)
  refine zO.gd (by omega) ?_
  try dsimp +instances only
  generalize hv_v_22 : s_14 (a0 + 6) x1 = v_22
  refine zO.ite (fun c_2 => ?_) (fun c_2 => ?_)
  ·
    try dsimp +instances only
    unfold g_ca_giveUp_L52
    try dsimp +instances only
    unfold g_ca_giveUp_L53
    try dsimp +instances only
    refine zO.bindp (g_se_of_sp (by omega)) (fun r_59 p_59 => ?_)
    try dsimp +instances only
    refine zO.ite (fun c_4 => ?_) (fun c_4 => ?_)
    ·
      try dsimp +instances only
      unfold g_ca_giveUp_L69
      try dsimp +instances only
      refine zO.bind (g_ca_remove_sp (by omega) H_14 (by omega)) (fun r_71 t_71 p_71 => ?_)
      obtain ⟨H_71, G_71, q_71⟩ := p_71
      try dsimp +instances only
      have F_71 := F_14.trans (fr.mono G_71 (fun a j h => ffl h))
      generalize hv_v_76 : t_71 a0 12 = v_76
      try have ew_6 := w32_id (x := v_76 + 1) (by omega) (by omega)
      generalize hs_s_81 : zu t_71 a0 12 (w32 (v_76 + 1)) = s_81
      have H_81 : CI s_81 := by rw [← hs_s_81]; exact CI_zun H_71 (by omega) (by omega) (by rcases ha0 with rfl | rfl <;> rfl)
      have F_81 : fr (fw_ca_giveUp a0) σ s_81 := by rw [← hs_s_81]; exact fr.zu F_71 (by omega) (br (bl (zbb _ _)))
      have e_s_81_a0_2 : s_81 a0 2 = t_71 a0 2 := by rw [← hs_s_81]; exact zu_c (by omega)
      exact zO.ret ⟨H_81, F_81, trivial⟩
    ·
      try dsimp +instances only
      refine zO.ite (fun c_7 => ?_) (fun c_7 => ?_)
      ·
        try dsimp +instances only
        refine zO.gd (by omega) ?_
        try dsimp +instances only
        generalize hv_v_95 : s_14 (a0 + 6) x1 = v_95
        refine zO.gd (by omega) ?_
        try dsimp +instances only
        generalize hs_s_96 : zu s_14 (a0 + 4) x1 v_95 = s_96
        have H_96 : CI s_96 := by rw [← hs_s_96]; exact CI_zun H_14 (by omega) (by omega) (by rcases ha0 with rfl | rfl <;> rfl)
        have F_96 : fr (fw_ca_giveUp a0) σ s_96 := by rw [← hs_s_96]; exact fr.zu F_14 (by omega) (br (br (bl (beq_self_eq_true _))))
        have e_s_96_a0_2 : s_96 a0 2 = s_14 a0 2 := by rw [← hs_s_96]; exact zu_c (by omega)
        refine zO.gd (by omega) ?_
        try dsimp +instances only
        generalize hs_s_103 : zu s_96 (a0 + 6) x1 (-1) = s_103
        have H_103 : CI s_103 := by rw [← hs_s_103]; exact CI_zun H_96 (by omega) (by omega) (by rcases ha0 with rfl | rfl <;> rfl)
        have F_103 : fr (fw_ca_giveUp a0) σ s_103 := by rw [← hs_s_103]; exact fr.zu F_96 (by omega) (br (br (br (bl (beq_self_eq_true _)))))
        have e_s_103_a0_2 : s_103 a0 2 = s_96 a0 2 := by rw [← hs_s_103]; exact zu_c (by omega)
        refine zO.gd (by omega) ?_
        try dsimp +instances only
        generalize hv_v_110 : s_103 (a0 + 5) x1 = v_110
        refine zO.gd (by omega) ?_
        try dsimp +instances only
        try have ew_8 := w32_id (x := Int.tdiv v_110 2) (by omega) (by omega)
        generalize hs_s_113 : zu s_103 (a0 + 5) x1 (w32 (Int.tdiv v_110 2)) = s_113
        have H_113 : CI s_113 := by rw [← hs_s_113]; exact CI_zun H_103 (by omega) (by omega) (by rcases ha0 with rfl | rfl <;> rfl)
        have F_113 : fr (fw_ca_giveUp a0) σ s_113 := by rw [← hs_s_113]; exact fr.zu F_103 (by omega) (br (br (br (br (bl (beq_self_eq_true _))))))
        have e_s_113_a0_2 : s_113 a0 2 = s_103 a0 2 := by rw [← hs_s_113]; exact zu_c (by omega)
        refine zO.bind (g_ca_weigh_sp (by omega) H_113 (by omega)) (fun r_116 t_116 p_116 => ?_)
        obtain ⟨H_116, G_116, q_116⟩ := p_116
        try dsimp +instances only
        have F_116 := F_113.trans (fr.mono G_116 (fun a j h => ffl (ffr (ffr (ffr (ffr (ffr h)))))))
        have e_t_116_a0_2 := G_116 a0 2 (Or.inr (by rcases ha0 with rfl | rfl <;> rfl))
        generalize hv_v_121 : t_116 a0 13 = v_121
        try have ew_10 := w32_id (x := v_121 + 1) (by omega) (by omega)
        generalize hs_s_126 : zu t_116 a0 13 (w32 (v_121 + 1)) = s_126
        have H_126 : CI s_126 := by rw [← hs_s_126]; exact CI_zun H_116 (by omega) (by omega) (by rcases ha0 with rfl | rfl <;> rfl)
        have F_126 : fr (fw_ca_giveUp a0) σ s_126 := by rw [← hs_s_126]; exact fr.zu F_116 (by omega) (br (br (br (br (br (br (bl (zbb _ _))))))))
        have e_s_126_a0_2 : s_126 a0 2 = t_116 a0 2 := by rw [← hs_s_126]; exact zu_c (by omega)
        exact zO.ret ⟨H_126, F_126, trivial⟩
      ·
        try dsimp +instances only
        unfold g_ca_giveUp_L69
        try dsimp +instances only
        refine zO.bind (g_ca_remove_sp (by omega) H_14 (by omega)) (fun r_71 t_71 p_71 => ?_)
        obtain ⟨H_71, G_71, q_71⟩ := p_71
        try dsimp +instances only
        have F_71 := F_14.trans (fr.mono G_71 (fun a j h => ffl h))
        generalize hv_v_76 : t_71 a0 12 = v_76
        try have ew_12 := w32_id (x := v_76 + 1) (by omega) (by omega)
        generalize hs_s_81 : zu t_71 a0 12 (w32 (v_76 + 1)) = s_81
        have H_81 : CI s_81 := by rw [← hs_s_81]; exact CI_zun H_71 (by omega) (by omega) (by rcases ha0 with rfl | rfl <;> rfl)
        have F_81 : fr (fw_ca_giveUp a0) σ s_81 := by rw [← hs_s_81]; exact fr.zu F_71 (by omega) (br (bl (zbb _ _)))
        have e_s_81_a0_2 : s_81 a0 2 = t_71 a0 2 := by rw [← hs_s_81]; exact zu_c (by omega)
        exact zO.ret ⟨H_81, F_81, trivial⟩
  ·
    try dsimp +instances only
    refine zO.gd (by omega) ?_
    try dsimp +instances only
    refine zO.bindp (g_b_area_sp) (fun r_33 p_33 => ?_)
    try dsimp +instances only
    refine zO.gd (by omega) ?_
    try dsimp +instances only
    generalize hv_v_41 : s_14 (a0 + 4) x1 = v_41
    refine zO.bindp (g_b_area_sp) (fun r_42 p_42 => ?_)
    try dsimp +instances only
    refine zO.ite (fun c_15 => ?_) (fun c_15 => ?_)
    ·
      try dsimp +instances only
      unfold g_ca_giveUp_L52
      try dsimp +instances only
      unfold g_ca_giveUp_L53
      try dsimp +instances only
      refine zO.bindp (g_se_of_sp (by omega)) (fun r_59 p_59 => ?_)
      try dsimp +instances only
      refine zO.ite (fun c_17 => ?_) (fun c_17 => ?_)
      ·
        try dsimp +instances only
        unfold g_ca_giveUp_L69
        try dsimp +instances only
        refine zO.bind (g_ca_remove_sp (by omega) H_14 (by omega)) (fun r_71 t_71 p_71 => ?_)
        obtain ⟨H_71, G_71, q_71⟩ := p_71
        try dsimp +instances only
        have F_71 := F_14.trans (fr.mono G_71 (fun a j h => ffl h))
        generalize hv_v_76 : t_71 a0 12 = v_76
        try have ew_19 := w32_id (x := v_76 + 1) (by omega) (by omega)
        generalize hs_s_81 : zu t_71 a0 12 (w32 (v_76 + 1)) = s_81
        have H_81 : CI s_81 := by rw [← hs_s_81]; exact CI_zun H_71 (by omega) (by omega) (by rcases ha0 with rfl | rfl <;> rfl)
        have F_81 : fr (fw_ca_giveUp a0) σ s_81 := by rw [← hs_s_81]; exact fr.zu F_71 (by omega) (br (bl (zbb _ _)))
        have e_s_81_a0_2 : s_81 a0 2 = t_71 a0 2 := by rw [← hs_s_81]; exact zu_c (by omega)
        exact zO.ret ⟨H_81, F_81, trivial⟩
      ·
        try dsimp +instances only
        refine zO.ite (fun c_20 => ?_) (fun c_20 => ?_)
        ·
          try dsimp +instances only
          refine zO.gd (by omega) ?_
          try dsimp +instances only
          generalize hv_v_95 : s_14 (a0 + 6) x1 = v_95
          refine zO.gd (by omega) ?_
          try dsimp +instances only
          generalize hs_s_96 : zu s_14 (a0 + 4) x1 v_95 = s_96
          have H_96 : CI s_96 := by rw [← hs_s_96]; exact CI_zun H_14 (by omega) (by omega) (by rcases ha0 with rfl | rfl <;> rfl)
          have F_96 : fr (fw_ca_giveUp a0) σ s_96 := by rw [← hs_s_96]; exact fr.zu F_14 (by omega) (br (br (bl (beq_self_eq_true _))))
          have e_s_96_a0_2 : s_96 a0 2 = s_14 a0 2 := by rw [← hs_s_96]; exact zu_c (by omega)
          refine zO.gd (by omega) ?_
          try dsimp +instances only
          generalize hs_s_103 : zu s_96 (a0 + 6) x1 (-1) = s_103
          have H_103 : CI s_103 := by rw [← hs_s_103]; exact CI_zun H_96 (by omega) (by omega) (by rcases ha0 with rfl | rfl <;> rfl)
          have F_103 : fr (fw_ca_giveUp a0) σ s_103 := by rw [← hs_s_103]; exact fr.zu F_96 (by omega) (br (br (br (bl (beq_self_eq_true _)))))
          have e_s_103_a0_2 : s_103 a0 2 = s_96 a0 2 := by rw [← hs_s_103]; exact zu_c (by omega)
          refine zO.gd (by omega) ?_
          try dsimp +instances only
          generalize hv_v_110 : s_103 (a0 + 5) x1 = v_110
          refine zO.gd (by omega) ?_
          try dsimp +instances only
          try have ew_21 := w32_id (x := Int.tdiv v_110 2) (by omega) (by omega)
          generalize hs_s_113 : zu s_103 (a0 + 5) x1 (w32 (Int.tdiv v_110 2)) = s_113
          have H_113 : CI s_113 := by rw [← hs_s_113]; exact CI_zun H_103 (by omega) (by omega) (by rcases ha0 with rfl | rfl <;> rfl)
          have F_113 : fr (fw_ca_giveUp a0) σ s_113 := by rw [← hs_s_113]; exact fr.zu F_103 (by omega) (br (br (br (br (bl (beq_self_eq_true _))))))
          have e_s_113_a0_2 : s_113 a0 2 = s_103 a0 2 := by rw [← hs_s_113]; exact zu_c (by omega)
          refine zO.bind (g_ca_weigh_sp (by omega) H_113 (by omega)) (fun r_116 t_116 p_116 => ?_)
          obtain ⟨H_116, G_116, q_116⟩ := p_116
          try dsimp +instances only
          have F_116 := F_113.trans (fr.mono G_116 (fun a j h => ffl (ffr (ffr (ffr (ffr (ffr h)))))))
          have e_t_116_a0_2 := G_116 a0 2 (Or.inr (by rcases ha0 with rfl | rfl <;> rfl))
          generalize hv_v_121 : t_116 a0 13 = v_121
          try have ew_23 := w32_id (x := v_121 + 1) (by omega) (by omega)
          generalize hs_s_126 : zu t_116 a0 13 (w32 (v_121 + 1)) = s_126
          have H_126 : CI s_126 := by rw [← hs_s_126]; exact CI_zun H_116 (by omega) (by omega) (by rcases ha0 with rfl | rfl <;> rfl)
          have F_126 : fr (fw_ca_giveUp a0) σ s_126 := by rw [← hs_s_126]; exact fr.zu F_116 (by omega) (br (br (br (br (br (br (bl (zbb _ _))))))))
          have e_s_126_a0_2 : s_126 a0 2 = t_116 a0 2 := by rw [← hs_s_126]; exact zu_c (by omega)
          exact zO.ret ⟨H_126, F_126, trivial⟩
        ·
          try dsimp +instances only
          unfold g_ca_giveUp_L69
          try dsimp +instances only
          refine zO.bind (g_ca_remove_sp (by omega) H_14 (by omega)) (fun r_71 t_71 p_71 => ?_)
          obtain ⟨H_71, G_71, q_71⟩ := p_71
          try dsimp +instances only
          have F_71 := F_14.trans (fr.mono G_71 (fun a j h => ffl h))
          generalize hv_v_76 : t_71 a0 12 = v_76
          try have ew_25 := w32_id (x := v_76 + 1) (by omega) (by omega)
          generalize hs_s_81 : zu t_71 a0 12 (w32 (v_76 + 1)) = s_81
          have H_81 : CI s_81 := by rw [← hs_s_81]; exact CI_zun H_71 (by omega) (by omega) (by rcases ha0 with rfl | rfl <;> rfl)
          have F_81 : fr (fw_ca_giveUp a0) σ s_81 := by rw [← hs_s_81]; exact fr.zu F_71 (by omega) (br (bl (zbb _ _)))
          have e_s_81_a0_2 : s_81 a0 2 = t_71 a0 2 := by rw [← hs_s_81]; exact zu_c (by omega)
          exact zO.ret ⟨H_81, F_81, trivial⟩
    ·
      try dsimp +instances only
      unfold g_ca_giveUp_L53
      try dsimp +instances only
      refine zO.bindp (g_se_of_sp (by omega)) (fun r_59 p_59 => ?_)
      try dsimp +instances only
      refine zO.ite (fun c_27 => ?_) (fun c_27 => ?_)
      ·
        try dsimp +instances only
        unfold g_ca_giveUp_L69
        try dsimp +instances only
        refine zO.bind (g_ca_remove_sp (by omega) H_14 (by omega)) (fun r_71 t_71 p_71 => ?_)
        obtain ⟨H_71, G_71, q_71⟩ := p_71
        try dsimp +instances only
        have F_71 := F_14.trans (fr.mono G_71 (fun a j h => ffl h))
        generalize hv_v_76 : t_71 a0 12 = v_76
        try have ew_29 := w32_id (x := v_76 + 1) (by omega) (by omega)
        generalize hs_s_81 : zu t_71 a0 12 (w32 (v_76 + 1)) = s_81
        have H_81 : CI s_81 := by rw [← hs_s_81]; exact CI_zun H_71 (by omega) (by omega) (by rcases ha0 with rfl | rfl <;> rfl)
        have F_81 : fr (fw_ca_giveUp a0) σ s_81 := by rw [← hs_s_81]; exact fr.zu F_71 (by omega) (br (bl (zbb _ _)))
        have e_s_81_a0_2 : s_81 a0 2 = t_71 a0 2 := by rw [← hs_s_81]; exact zu_c (by omega)
        exact zO.ret ⟨H_81, F_81, trivial⟩
      ·
        try dsimp +instances only
        refine zO.ite (fun c_30 => ?_) (fun c_30 => ?_)
        ·
          try dsimp +instances only
          refine zO.gd (by omega) ?_
          try dsimp +instances only
          generalize hv_v_95 : s_14 (a0 + 6) x1 = v_95
          refine zO.gd (by omega) ?_
          try dsimp +instances only
          generalize hs_s_96 : zu s_14 (a0 + 4) x1 v_95 = s_96
          have H_96 : CI s_96 := by rw [← hs_s_96]; exact CI_zun H_14 (by omega) (by omega) (by rcases ha0 with rfl | rfl <;> rfl)
          have F_96 : fr (fw_ca_giveUp a0) σ s_96 := by rw [← hs_s_96]; exact fr.zu F_14 (by omega) (br (br (bl (beq_self_eq_true _))))
          have e_s_96_a0_2 : s_96 a0 2 = s_14 a0 2 := by rw [← hs_s_96]; exact zu_c (by omega)
          refine zO.gd (by omega) ?_
          try dsimp +instances only
          generalize hs_s_103 : zu s_96 (a0 + 6) x1 (-1) = s_103
          have H_103 : CI s_103 := by rw [← hs_s_103]; exact CI_zun H_96 (by omega) (by omega) (by rcases ha0 with rfl | rfl <;> rfl)
          have F_103 : fr (fw_ca_giveUp a0) σ s_103 := by rw [← hs_s_103]; exact fr.zu F_96 (by omega) (br (br (br (bl (beq_self_eq_true _)))))
          have e_s_103_a0_2 : s_103 a0 2 = s_96 a0 2 := by rw [← hs_s_103]; exact zu_c (by omega)
          refine zO.gd (by omega) ?_
          try dsimp +instances only
          generalize hv_v_110 : s_103 (a0 + 5) x1 = v_110
          refine zO.gd (by omega) ?_
          try dsimp +instances only
          try have ew_31 := w32_id (x := Int.tdiv v_110 2) (by omega) (by omega)
          generalize hs_s_113 : zu s_103 (a0 + 5) x1 (w32 (Int.tdiv v_110 2)) = s_113
          have H_113 : CI s_113 := by rw [← hs_s_113]; exact CI_zun H_103 (by omega) (by omega) (by rcases ha0 with rfl | rfl <;> rfl)
          have F_113 : fr (fw_ca_giveUp a0) σ s_113 := by rw [← hs_s_113]; exact fr.zu F_103 (by omega) (br (br (br (br (bl (beq_self_eq_true _))))))
          have e_s_113_a0_2 : s_113 a0 2 = s_103 a0 2 := by rw [← hs_s_113]; exact zu_c (by omega)
          refine zO.bind (g_ca_weigh_sp (by omega) H_113 (by omega)) (fun r_116 t_116 p_116 => ?_)
          obtain ⟨H_116, G_116, q_116⟩ := p_116
          try dsimp +instances only
          have F_116 := F_113.trans (fr.mono G_116 (fun a j h => ffl (ffr (ffr (ffr (ffr (ffr h)))))))
          have e_t_116_a0_2 := G_116 a0 2 (Or.inr (by rcases ha0 with rfl | rfl <;> rfl))
          generalize hv_v_121 : t_116 a0 13 = v_121
          try have ew_33 := w32_id (x := v_121 + 1) (by omega) (by omega)
          generalize hs_s_126 : zu t_116 a0 13 (w32 (v_121 + 1)) = s_126
          have H_126 : CI s_126 := by rw [← hs_s_126]; exact CI_zun H_116 (by omega) (by omega) (by rcases ha0 with rfl | rfl <;> rfl)
          have F_126 : fr (fw_ca_giveUp a0) σ s_126 := by rw [← hs_s_126]; exact fr.zu F_116 (by omega) (br (br (br (br (br (br (bl (zbb _ _))))))))
          have e_s_126_a0_2 : s_126 a0 2 = t_116 a0 2 := by rw [← hs_s_126]; exact zu_c (by omega)
          exact zO.ret ⟨H_126, F_126, trivial⟩
        ·
          try dsimp +instances only
          unfold g_ca_giveUp_L69
          try dsimp +instances only
          refine zO.bind (g_ca_remove_sp (by omega) H_14 (by omega)) (fun r_71 t_71 p_71 => ?_)
          obtain ⟨H_71, G_71, q_71⟩ := p_71
          try dsimp +instances only
          have F_71 := F_14.trans (fr.mono G_71 (fun a j h => ffl h))
          generalize hv_v_76 : t_71 a0 12 = v_76
          try have ew_35 := w32_id (x := v_76 + 1) (by omega) (by omega)
          generalize hs_s_81 : zu t_71 a0 12 (w32 (v_76 + 1)) = s_81
          have H_81 : CI s_81 := by rw [← hs_s_81]; exact CI_zun H_71 (by omega) (by omega) (by rcases ha0 with rfl | rfl <;> rfl)
          have F_81 : fr (fw_ca_giveUp a0) σ s_81 := by rw [← hs_s_81]; exact fr.zu F_71 (by omega) (br (bl (zbb _ _)))
          have e_s_81_a0_2 : s_81 a0 2 = t_71 a0 2 := by rw [← hs_s_81]; exact zu_c (by omega)
          exact zO.ret ⟨H_81, F_81, trivial⟩
def fw_ca_trim (a0 : Nat) (a : Nat) (j : Int) : Bool := (fw_ca_giveUp a0 a j) || false
set_option maxHeartbeats 4000000 in
theorem g_ca_trim_L7_sp {a0 : Nat} (ha0 : a0 = 48 ∨ a0 = 106) {σ0 : zS} : ∀ (n : Nat) (x1 : Int) (σ : zS), CI σ → fr (fw_ca_trim a0) σ0 σ → (0 ≤ x1 ∧ x1 ≤ 362) → (x1) < (n : Int) → zO (g_ca_trim_L7 a0 n x1 σ) (fun v s => CI s ∧ fr (fw_ca_trim a0) σ0 s ∧ (True))
  | 0, _, σ, _, _, hi, hm => by exfalso; omega
  | n + 1, x1, σ, H, F, hi, hm => by
    unfold g_ca_trim_L7
    try dsimp +instances only
    refine zO.ite (fun c_1 => ?_) (fun c_1 => ?_)
    ·
      try dsimp +instances only
      exact zO.ret ⟨H, F, trivial⟩
    ·
      try dsimp +instances only
      generalize hv_v_12 : σ a0 2 = v_12
      have rv_v_12 := CI.c2 (a := a0) H (by omega)
      rw [hv_v_12] at rv_v_12
      refine zO.ite (fun c_2 => ?_) (fun c_2 => ?_)
      ·
        try dsimp +instances only
        exact zO.ret ⟨H, F, trivial⟩
      ·
        try dsimp +instances only
        refine zO.bindp (g_ca_isTooMuch_sp (by omega) H) (fun r_19 p_19 => ?_)
        try dsimp +instances only
        refine zO.ite (fun c_4 => ?_) (fun c_4 => ?_)
        ·
          try dsimp +instances only
          exact zO.ret ⟨H, F, trivial⟩
        ·
          try dsimp +instances only
          refine zO.bindp (g_ca_lightest_sp (by omega) H (by omega)) (fun r_27 p_27 => ?_)
          try dsimp +instances only
          refine zO.bind (g_ca_giveUp_sp (by omega) H (by omega)) (fun r_30 t_30 p_30 => ?_)
          obtain ⟨H_30, G_30, q_30⟩ := p_30
          try dsimp +instances only
          have F_30 := F.trans (fr.mono G_30 (fun a j h => ffl h))
          try have ew_7 := w32_id (x := x1 - 1) (by omega) (by omega)
          exact g_ca_trim_L7_sp (by omega) n (w32 (x1 - 1)) t_30 H_30 F_30 (by omega) (by omega)
theorem g_ca_trim_sp {a0 : Nat} (ha0 : a0 = 48 ∨ a0 = 106) {σ : zS} (H : CI σ) : zO (g_ca_trim a0 σ) (fun v s => CI s ∧ fr (fw_ca_trim a0) σ s ∧ (True)) := by
  have F : fr (fw_ca_trim a0) σ σ := fr.refl σ
  unfold g_ca_trim
  try dsimp +instances only
  generalize hv_v_2 : σ a0 2 = v_2
  have rv_v_2 := CI.c2 (a := a0) H (by omega)
  rw [hv_v_2] at rv_v_2
  try have ew_8 := w32_id (x := 2 * v_2) (by omega) (by omega)
  exact g_ca_trim_L7_sp (by omega) zK (w32 (2 * v_2)) σ H F (by omega) (by show _ < (1000000 : Int); omega)
def fw_ca_missingOf (a0 : Nat) (a : Nat) (j : Int) : Bool := (fw_bs_becomeRest (a0 + 10) (a0 + 8) a j) || ((fw_bs_copyFrom (a0 + 8) (a0 + 10) a j) || (((a == a0 + 8 && j == 1)) || ((fw_bs_add (a0 + 8) a j) || false)))
set_option maxHeartbeats 4000000 in
theorem g_ca_missingOf_L19_sp {a0 : Nat} (ha0 : a0 = 48 ∨ a0 = 106) {σ0 : zS} : ∀ (n : Nat) (x1 : Int) (x2 : Int) (σ : zS), CI σ → fr (fw_ca_missingOf a0) σ0 σ → (0 ≤ x2 ∧ x2 ≤ 181) → (181 - x2) < (n : Int) → zO (g_ca_missingOf_L19 a0 n x1 x2 σ) (fun v s => CI s ∧ fr (fw_ca_missingOf a0) σ0 s ∧ (True))
  | 0, _, _, σ, _, _, hi, hm => by exfalso; omega
  | n + 1, x1, x2, σ, H, F, hi, hm => by
    unfold g_ca_missingOf_L19
    try dsimp +instances only
    generalize hv_v_21 : σ a0 2 = v_21
    have rv_v_21 := CI.c2 (a := a0) H (by omega)
    rw [hv_v_21] at rv_v_21
    refine zO.ite (fun c_1 => ?_) (fun c_1 => ?_)
    ·
      try dsimp +instances only
      exact zO.ret ⟨H, F, trivial⟩
    ·
      try dsimp +instances only
      refine zO.gd (by omega) ?_
      try dsimp +instances only
      generalize hv_v_32 : σ (a0 + 4) x2 = v_32
      refine zO.bindp (g_b_meet_sp) (fun r_34 p_34 => ?_)
      try dsimp +instances only
      refine zO.ite (fun c_3 => ?_) (fun c_3 => ?_)
      ·
        try dsimp +instances only
        unfold g_ca_missingOf_L68
        try dsimp +instances only
        try have ew_4 := w32_id (x := x2 + 1) (by omega) (by omega)
        exact g_ca_missingOf_L19_sp (by omega) n x1 (w32 (x2 + 1)) σ H F (by omega) (by omega)
      ·
        try dsimp +instances only
        refine zO.gd (by omega) ?_
        try dsimp +instances only
        generalize hv_v_53 : σ (a0 + 4) x2 = v_53
        refine zO.bind (g_bs_becomeRest_sp (by omega) (by omega) H) (fun r_54 t_54 p_54 => ?_)
        obtain ⟨H_54, G_54, q_54⟩ := p_54
        try dsimp +instances only
        have F_54 := F.trans (fr.mono G_54 (fun a j h => ffl h))
        refine zO.bind (g_bs_copyFrom_sp (by omega) (by omega) H_54) (fun r_65 t_65 p_65 => ?_)
        obtain ⟨H_65, G_65, q_65⟩ := p_65
        try dsimp +instances only
        have F_65 := F_54.trans (fr.mono G_65 (fun a j h => ffl (ffr h)))
        unfold g_ca_missingOf_L68
        try dsimp +instances only
        try have ew_7 := w32_id (x := x2 + 1) (by omega) (by omega)
        exact g_ca_missingOf_L19_sp (by omega) n x1 (w32 (x2 + 1)) t_65 H_65 F_65 (by omega) (by omega)
theorem g_ca_missingOf_sp {a0 : Nat} (ha0 : a0 = 48 ∨ a0 = 106) {x1 : Int} {σ : zS} (H : CI σ) : zO (g_ca_missingOf a0 x1 σ) (fun v s => CI s ∧ fr (fw_ca_missingOf a0) σ s ∧ (True)) := by
  have F : fr (fw_ca_missingOf a0) σ σ := fr.refl σ
  unfold g_ca_missingOf
  try dsimp +instances only
  generalize hs_s_5 : zu σ (a0 + 8) 1 0 = s_5
  have H_5 : CI s_5 := by rw [← hs_s_5]; exact CI_zuy H (by omega) (by omega) (lo := 0) (hi := 181) (by rcases ha0 with rfl | rfl <;> rfl) (by omega) (by omega)
  have F_5 : fr (fw_ca_missingOf a0) σ s_5 := by rw [← hs_s_5]; exact fr.zu F (by omega) (br (br (bl (zbb _ _))))
  refine zO.bind (g_bs_add_sp (by omega) H_5) (fun r_13 t_13 p_13 => ?_)
  obtain ⟨H_13, G_13, q_13⟩ := p_13
  try dsimp +instances only
  have F_13 := F_5.trans (fr.mono G_13 (fun a j h => ffl (ffr (ffr (ffr h)))))
  exact g_ca_missingOf_L19_sp (by omega) zK x1 0 t_13 H_13 F_13 (by omega) (by show _ < (1000000 : Int); omega)
def fw_ca_hit (a0 : Nat) (a : Nat) (j : Int) : Bool := (a == (a0 + 5)) || ((a == (a0 + 6)) || ((fw_ca_weigh a0 a j) || false))
theorem g_ca_hit_sp {a0 : Nat} (ha0 : a0 = 48 ∨ a0 = 106) {x1 : Int} {x2 : Int} {σ : zS} (H : CI σ) (hp : 0 ≤ x1 ∧ x1 < 181) : zO (g_ca_hit a0 x1 x2 σ) (fun v s => CI s ∧ fr (fw_ca_hit a0) σ s ∧ (s a0 2 = σ a0 2)) := by
  have F : fr (fw_ca_hit a0) σ σ := fr.refl σ
  have ri_a0_2 := CI.c2 (a := a0) H (by omega)
  unfold g_ca_hit
  try dsimp +instances only
  refine zO.gd (by omega) ?_
  try dsimp +instances only
  generalize hv_v_13 : σ (a0 + 5) x1 = v_13
  try have ew_1 := w32_id (x := v_13 + 1) (by omega) (by omega)
  refine zO.bindp (g_jMath_min_291_sp) (fun r_16 p_16 => ?_)
  try dsimp +instances only
  refine zO.gd (by omega) ?_
  try dsimp +instances only
  generalize hs_s_19 : zu σ (a0 + 5) x1 r_16 = s_19
  have H_19 : CI s_19 := by rw [← hs_s_19]; exact CI_zun H (by omega) (by omega) (by rcases ha0 with rfl | rfl <;> rfl)
  have F_19 : fr (fw_ca_hit a0) σ s_19 := by rw [← hs_s_19]; exact fr.zu F (by omega) (bl (beq_self_eq_true _))
  have e_s_19_a0_2 : s_19 a0 2 = σ a0 2 := by rw [← hs_s_19]; exact zu_c (by omega)
  refine zO.gd (by omega) ?_
  try dsimp +instances only
  generalize hv_v_30 : s_19 (a0 + 6) x1 = v_30
  refine zO.bindp (g_b_around_sp) (fun r_32 p_32 => ?_)
  try dsimp +instances only
  refine zO.gd (by omega) ?_
  try dsimp +instances only
  generalize hs_s_35 : zu s_19 (a0 + 6) x1 r_32 = s_35
  have H_35 : CI s_35 := by rw [← hs_s_35]; exact CI_zun H_19 (by omega) (by omega) (by rcases ha0 with rfl | rfl <;> rfl)
  have F_35 : fr (fw_ca_hit a0) σ s_35 := by rw [← hs_s_35]; exact fr.zu F_19 (by omega) (br (bl (beq_self_eq_true _)))
  have e_s_35_a0_2 : s_35 a0 2 = s_19 a0 2 := by rw [← hs_s_35]; exact zu_c (by omega)
  refine zO.bind (g_ca_weigh_sp (by omega) H_35 (by omega)) (fun r_38 t_38 p_38 => ?_)
  obtain ⟨H_38, G_38, q_38⟩ := p_38
  try dsimp +instances only
  have F_38 := F_35.trans (fr.mono G_38 (fun a j h => ffl (ffr (ffr h))))
  have e_t_38_a0_2 := G_38 a0 2 (Or.inr (by rcases ha0 with rfl | rfl <;> rfl))
  exact zO.ret ⟨H_38, F_38, (by omega)⟩
def fw_ca_ask (a0 : Nat) (a : Nat) (j : Int) : Bool := ((a == a0 && j == 10)) || (((a == a0 && j == 11)) || false)
theorem g_ca_ask_sp {a0 : Nat} (ha0 : a0 = 48 ∨ a0 = 106) {x1 : Int} {σ : zS} (H : CI σ) : zO (g_ca_ask a0 x1 σ) (fun v s => CI s ∧ fr (fw_ca_ask a0) σ s ∧ (True)) := by
  have F : fr (fw_ca_ask a0) σ σ := fr.refl σ
  unfold g_ca_ask
  try dsimp +instances only
  generalize hv_v_2 : σ a0 10 = v_2
  try have ew_1 := w32_id (x := v_2 + 1) (by omega) (by omega)
  generalize hs_s_7 : zu σ a0 10 (w32 (v_2 + 1)) = s_7
  have H_7 : CI s_7 := by rw [← hs_s_7]; exact CI_zun H (by omega) (by omega) (by rcases ha0 with rfl | rfl <;> rfl)
  have F_7 : fr (fw_ca_ask a0) σ s_7 := by rw [← hs_s_7]; exact fr.zu F (by omega) (bl (zbb _ _))
  generalize hv_v_12 : s_7 a0 11 = v_12
  refine zO.bindp (g_ca_costOf_sp (by omega)) (fun r_17 p_17 => ?_)
  try dsimp +instances only
  try have ew_3 := w32_id (x := v_12 + r_17) (by omega) (by omega)
  generalize hs_s_21 : zu s_7 a0 11 (w32 (v_12 + r_17)) = s_21
  have H_21 : CI s_21 := by rw [← hs_s_21]; exact CI_zun H_7 (by omega) (by omega) (by rcases ha0 with rfl | rfl <;> rfl)
  have F_21 : fr (fw_ca_ask a0) σ s_21 := by rw [← hs_s_21]; exact fr.zu F_7 (by omega) (br (bl (zbb _ _)))
  exact zO.ret ⟨H_21, F_21, trivial⟩
def fw_ca_addLast (a0 : Nat) (a : Nat) (j : Int) : Bool := (a == (a0 + 3)) || ((a == (a0 + 4)) || ((a == (a0 + 5)) || ((a == (a0 + 6)) || ((a == (a0 + 7)) || (((a == a0 && j == 8)) || (((a == a0 && j == 2)) || false))))))
theorem g_ca_addLast_sp {a0 : Nat} (ha0 : a0 = 48 ∨ a0 = 106) {x1 : Int} {x2 : Int} {x3 : Int} {y4 : Int} {σ : zS} (H : CI σ) : zO (g_ca_addLast a0 x1 x2 x3 y4 σ) (fun v s => CI s ∧ fr (fw_ca_addLast a0) σ s ∧ (v = 0 ∨ 1 ≤ s a0 2)) := by
  have F : fr (fw_ca_addLast a0) σ σ := fr.refl σ
  have ri_a0_2 := CI.c2 (a := a0) H (by omega)
  unfold g_ca_addLast
  try dsimp +instances only
  generalize hv_v_1 : σ a0 2 = v_1
  have rv_v_1 := CI.c2 (a := a0) H (by omega)
  rw [hv_v_1] at rv_v_1
  refine zO.ite (fun c_1 => ?_) (fun c_1 => ?_)
  ·
    try dsimp +instances only
    generalize hv_v_21 : σ a0 8 = v_21
    have rv_v_21 := CI.cx (a := a0) H (by omega)
    rw [hv_v_21] at rv_v_21
    refine zO.gd (by omega) ?_
    try dsimp +instances only
    generalize hs_s_24 : zu σ (a0 + 3) v_1 v_21 = s_24
    have H_24 : CI s_24 := by rw [← hs_s_24]; exact CI_zuy H (by omega) (by omega) (lo := -2147483648) (hi := 2147483647) (by rcases ha0 with rfl | rfl <;> rfl) (by omega) (by omega)
    have F_24 : fr (fw_ca_addLast a0) σ s_24 := by rw [← hs_s_24]; exact fr.zu F (by omega) (bl (beq_self_eq_true _))
    have e_s_24_a0_2 : s_24 a0 2 = σ a0 2 := by rw [← hs_s_24]; exact zu_c (by omega)
    generalize hv_v_30 : s_24 a0 2 = v_30
    have rv_v_30 := CI.c2 (a := a0) H_24 (by omega)
    rw [hv_v_30] at rv_v_30
    refine zO.gd (by omega) ?_
    try dsimp +instances only
    generalize hs_s_34 : zu s_24 (a0 + 4) v_30 x1 = s_34
    have H_34 : CI s_34 := by rw [← hs_s_34]; exact CI_zun H_24 (by omega) (by omega) (by rcases ha0 with rfl | rfl <;> rfl)
    have F_34 : fr (fw_ca_addLast a0) σ s_34 := by rw [← hs_s_34]; exact fr.zu F_24 (by omega) (br (bl (beq_self_eq_true _)))
    have e_s_34_a0_2 : s_34 a0 2 = s_24 a0 2 := by rw [← hs_s_34]; exact zu_c (by omega)
    generalize hv_v_40 : s_34 a0 2 = v_40
    have rv_v_40 := CI.c2 (a := a0) H_34 (by omega)
    rw [hv_v_40] at rv_v_40
    refine zO.gd (by omega) ?_
    try dsimp +instances only
    generalize hs_s_44 : zu s_34 (a0 + 5) v_40 x2 = s_44
    have H_44 : CI s_44 := by rw [← hs_s_44]; exact CI_zun H_34 (by omega) (by omega) (by rcases ha0 with rfl | rfl <;> rfl)
    have F_44 : fr (fw_ca_addLast a0) σ s_44 := by rw [← hs_s_44]; exact fr.zu F_34 (by omega) (br (br (bl (beq_self_eq_true _))))
    have e_s_44_a0_2 : s_44 a0 2 = s_34 a0 2 := by rw [← hs_s_44]; exact zu_c (by omega)
    generalize hv_v_50 : s_44 a0 2 = v_50
    have rv_v_50 := CI.c2 (a := a0) H_44 (by omega)
    rw [hv_v_50] at rv_v_50
    refine zO.gd (by omega) ?_
    try dsimp +instances only
    generalize hs_s_54 : zu s_44 (a0 + 6) v_50 x3 = s_54
    have H_54 : CI s_54 := by rw [← hs_s_54]; exact CI_zun H_44 (by omega) (by omega) (by rcases ha0 with rfl | rfl <;> rfl)
    have F_54 : fr (fw_ca_addLast a0) σ s_54 := by rw [← hs_s_54]; exact fr.zu F_44 (by omega) (br (br (br (bl (beq_self_eq_true _)))))
    have e_s_54_a0_2 : s_54 a0 2 = s_44 a0 2 := by rw [← hs_s_54]; exact zu_c (by omega)
    generalize hv_v_60 : s_54 a0 2 = v_60
    have rv_v_60 := CI.c2 (a := a0) H_54 (by omega)
    rw [hv_v_60] at rv_v_60
    refine zO.gd (by omega) ?_
    try dsimp +instances only
    generalize hs_s_65 : zu s_54 (a0 + 7) v_60 y4 = s_65
    have H_65 : CI s_65 := by rw [← hs_s_65]; exact CI_zun H_54 (by omega) (by omega) (by rcases ha0 with rfl | rfl <;> rfl)
    have F_65 : fr (fw_ca_addLast a0) σ s_65 := by rw [← hs_s_65]; exact fr.zu F_54 (by omega) (br (br (br (br (bl (beq_self_eq_true _))))))
    have e_s_65_a0_2 : s_65 a0 2 = s_54 a0 2 := by rw [← hs_s_65]; exact zu_c (by omega)
    generalize hv_v_68 : s_65 a0 8 = v_68
    have rv_v_68 := CI.cx (a := a0) H_65 (by omega)
    rw [hv_v_68] at rv_v_68
    try have ew_2 := w32_id (x := v_68 + 1) (by omega) (by omega)
    generalize hs_s_73 : zu s_65 a0 8 (w32 (v_68 + 1)) = s_73
    have bw_73 := w32_bd (v_68 + 1)
    have H_73 : CI s_73 := by rw [← hs_s_73]; exact CI_zuy H_65 (by omega) (by omega) (lo := -2147483648) (hi := 2147483647) (by rcases ha0 with rfl | rfl <;> rfl) (by omega) (by omega)
    have F_73 : fr (fw_ca_addLast a0) σ s_73 := by rw [← hs_s_73]; exact fr.zu F_65 (by omega) (br (br (br (br (br (bl (zbb _ _)))))))
    have e_s_73_a0_2 : s_73 a0 2 = s_65 a0 2 := by rw [← hs_s_73]; exact zu_c (by omega)
    generalize hv_v_78 : s_73 a0 2 = v_78
    have rv_v_78 := CI.c2 (a := a0) H_73 (by omega)
    rw [hv_v_78] at rv_v_78
    try have ew_3 := w32_id (x := v_78 + 1) (by omega) (by omega)
    generalize hs_s_83 : zu s_73 a0 2 (w32 (v_78 + 1)) = s_83
    have H_83 : CI s_83 := by rw [← hs_s_83]; exact CI_zuy H_73 (by omega) (by omega) (lo := 0) (hi := 181) (by rcases ha0 with rfl | rfl <;> rfl) (by omega) (by omega)
    have F_83 : fr (fw_ca_addLast a0) σ s_83 := by rw [← hs_s_83]; exact fr.zu F_73 (by omega) (br (br (br (br (br (br (bl (zbb _ _))))))))
    have e_s_83_a0_2 : s_83 a0 2 = (w32 (v_78 + 1)) := by rw [← hs_s_83]; exact zu_e rfl
    exact zO.ret ⟨H_83, F_83, (by omega)⟩
  ·
    try dsimp +instances only
    exact zO.ret ⟨H, F, (by omega)⟩
def fw_ca_addNew (a0 : Nat) (a : Nat) (j : Int) : Bool := (fw_ca_addLast a0 a j) || ((fw_ca_weigh a0 a j) || false)
theorem g_ca_addNew_sp {a0 : Nat} (ha0 : a0 = 48 ∨ a0 = 106) {x1 : Int} {σ : zS} (H : CI σ) : zO (g_ca_addNew a0 x1 σ) (fun v s => CI s ∧ fr (fw_ca_addNew a0) σ s ∧ (True)) := by
  have F : fr (fw_ca_addNew a0) σ σ := fr.refl σ
  unfold g_ca_addNew
  try dsimp +instances only
  refine zO.bind (g_ca_addLast_sp (by omega) H) (fun r_5 t_5 p_5 => ?_)
  obtain ⟨H_5, G_5, q_5⟩ := p_5
  try dsimp +instances only
  have F_5 := F.trans (fr.mono G_5 (fun a j h => ffl h))
  refine zO.ite (fun c_2 => ?_) (fun c_2 => ?_)
  ·
    try dsimp +instances only
    exact zO.ret ⟨H_5, F_5, trivial⟩
  ·
    try dsimp +instances only
    generalize hv_v_13 : t_5 a0 2 = v_13
    have rv_v_13 := CI.c2 (a := a0) H_5 (by omega)
    rw [hv_v_13] at rv_v_13
    try have ew_3 := w32_id (x := v_13 - 1) (by omega) (by omega)
    refine zO.bind (g_ca_weigh_sp (by omega) H_5 (by omega)) (fun r_18 t_18 p_18 => ?_)
    obtain ⟨H_18, G_18, q_18⟩ := p_18
    try dsimp +instances only
    have F_18 := F_5.trans (fr.mono G_18 (fun a j h => ffl (ffr h)))
    exact zO.ret ⟨H_18, F_18, trivial⟩
def fw_ca_serve (a0 : Nat) (a : Nat) (j : Int) : Bool := (fw_ca_merge a0 a j) || ((fw_ca_trim a0 a j) || ((fw_ca_ask a0 a j) || ((fw_ca_addNew a0 a j) || ((fw_ca_hit a0 a j) || ((fw_ca_missingOf a0 a j) || false)))))
set_option maxHeartbeats 4000000 in
theorem g_ca_serve_L52_sp {a0 : Nat} (ha0 : a0 = 48 ∨ a0 = 106) {σ0 : zS} : ∀ (n : Nat) (x2 : Int) (σ : zS), CI σ → fr (fw_ca_serve a0) σ0 σ → (0 ≤ x2 ∧ x2 ≤ 181) → (181 - x2) < (n : Int) → zO (g_ca_serve_L52 a0 n x2 σ) (fun v s => CI s ∧ fr (fw_ca_serve a0) σ0 s ∧ (True))
  | 0, _, σ, _, _, hi, hm => by exfalso; omega
  | n + 1, x2, σ, H, F, hi, hm => by
    unfold g_ca_serve_L52
    try dsimp +instances only
    generalize hv_v_57 : σ (a0 + 8) 1 = v_57
    have rv_v_57 := CI.c1 (a := a0 + 8) H (by omega)
    rw [hv_v_57] at rv_v_57
    refine zO.ite (fun c_1 => ?_) (fun c_1 => ?_)
    ·
      try dsimp +instances only
      refine zO.bind (g_ca_merge_sp (by omega) H) (fun r_105 t_105 p_105 => ?_)
      obtain ⟨H_105, G_105, q_105⟩ := p_105
      try dsimp +instances only
      have F_105 := F.trans (fr.mono G_105 (fun a j h => ffl h))
      refine zO.bind (g_ca_trim_sp (by omega) H_105) (fun r_109 t_109 p_109 => ?_)
      obtain ⟨H_109, G_109, q_109⟩ := p_109
      try dsimp +instances only
      have F_109 := F_105.trans (fr.mono G_109 (fun a j h => ffl (ffr h)))
      exact zO.ret ⟨H_109, F_109, trivial⟩
    ·
      try dsimp +instances only
      refine zO.bindp (g_bs_at_sp (by omega) H) (fun r_68 p_68 => ?_)
      try dsimp +instances only
      refine zO.bind (g_ca_ask_sp (by omega) H) (fun r_74 t_74 p_74 => ?_)
      obtain ⟨H_74, G_74, q_74⟩ := p_74
      try dsimp +instances only
      have F_74 := F.trans (fr.mono G_74 (fun a j h => ffl (ffr (ffr h))))
      refine zO.bindp (g_b_area_sp) (fun r_78 p_78 => ?_)
      try dsimp +instances only
      refine zO.bindp (g_se_of_sp (by omega)) (fun r_87 p_87 => ?_)
      try dsimp +instances only
      refine zO.ite (fun c_8 => ?_) (fun c_8 => ?_)
      ·
        try dsimp +instances only
        unfold g_ca_serve_L98
        try dsimp +instances only
        try have ew_9 := w32_id (x := x2 + 1) (by omega) (by omega)
        exact g_ca_serve_L52_sp (by omega) n (w32 (x2 + 1)) t_74 H_74 F_74 (by omega) (by omega)
      ·
        try dsimp +instances only
        refine zO.bind (g_ca_addNew_sp (by omega) H_74) (fun r_95 t_95 p_95 => ?_)
        obtain ⟨H_95, G_95, q_95⟩ := p_95
        try dsimp +instances only
        have F_95 := F_74.trans (fr.mono G_95 (fun a j h => ffl (ffr (ffr (ffr h)))))
        unfold g_ca_serve_L98
        try dsimp +instances only
        try have ew_11 := w32_id (x := x2 + 1) (by omega) (by omega)
        exact g_ca_serve_L52_sp (by omega) n (w32 (x2 + 1)) t_95 H_95 F_95 (by omega) (by omega)
set_option maxHeartbeats 4000000 in
theorem g_ca_serve_L8_sp {a0 : Nat} (ha0 : a0 = 48 ∨ a0 = 106) {σ0 : zS} : ∀ (n : Nat) (x1 : Int) (x2 : Int) (σ : zS), CI σ → fr (fw_ca_serve a0) σ0 σ → (0 ≤ x2 ∧ x2 ≤ 181) → (181 - x2) < (n : Int) → zO (g_ca_serve_L8 a0 n x1 x2 σ) (fun v s => CI s ∧ fr (fw_ca_serve a0) σ0 s ∧ (True))
  | 0, _, _, σ, _, _, hi, hm => by exfalso; omega
  | n + 1, x1, x2, σ, H, F, hi, hm => by
    unfold g_ca_serve_L8
    try dsimp +instances only
    generalize hv_v_10 : σ a0 2 = v_10
    have rv_v_10 := CI.c2 (a := a0) H (by omega)
    rw [hv_v_10] at rv_v_10
    refine zO.ite (fun c_12 => ?_) (fun c_12 => ?_)
    ·
      try dsimp +instances only
      exact g_ca_serve_L52_sp (by omega) zK 0 σ H F (by omega) (by show _ < (1000000 : Int); omega)
    ·
      try dsimp +instances only
      refine zO.gd (by omega) ?_
      try dsimp +instances only
      generalize hv_v_21 : σ (a0 + 4) x2 = v_21
      refine zO.bindp (g_b_meet_sp) (fun r_23 p_23 => ?_)
      try dsimp +instances only
      refine zO.ite (fun c_14 => ?_) (fun c_14 => ?_)
      ·
        try dsimp +instances only
        unfold g_ca_serve_L44
        try dsimp +instances only
        try have ew_15 := w32_id (x := x2 + 1) (by omega) (by omega)
        exact g_ca_serve_L8_sp (by omega) n x1 (w32 (x2 + 1)) σ H F (by omega) (by omega)
      ·
        try dsimp +instances only
        refine zO.gd (by omega) ?_
        try dsimp +instances only
        generalize hv_v_36 : σ (a0 + 4) x2 = v_36
        refine zO.bindp (g_b_common_sp) (fun r_38 p_38 => ?_)
        try dsimp +instances only
        refine zO.bind (g_ca_hit_sp (by omega) H (by omega)) (fun r_41 t_41 p_41 => ?_)
        obtain ⟨H_41, G_41, q_41⟩ := p_41
        try dsimp +instances only
        have F_41 := F.trans (fr.mono G_41 (fun a j h => ffl (ffr (ffr (ffr (ffr h))))))
        unfold g_ca_serve_L44
        try dsimp +instances only
        try have ew_18 := w32_id (x := x2 + 1) (by omega) (by omega)
        exact g_ca_serve_L8_sp (by omega) n x1 (w32 (x2 + 1)) t_41 H_41 F_41 (by omega) (by omega)
theorem g_ca_serve_sp {a0 : Nat} (ha0 : a0 = 48 ∨ a0 = 106) {x1 : Int} {σ : zS} (H : CI σ) : zO (g_ca_serve a0 x1 σ) (fun v s => CI s ∧ fr (fw_ca_serve a0) σ s ∧ (True)) := by
  have F : fr (fw_ca_serve a0) σ σ := fr.refl σ
  unfold g_ca_serve
  try dsimp +instances only
  refine zO.bind (g_ca_missingOf_sp (by omega) H) (fun r_2 t_2 p_2 => ?_)
  obtain ⟨H_2, G_2, q_2⟩ := p_2
  try dsimp +instances only
  have F_2 := F.trans (fr.mono G_2 (fun a j h => ffl (ffr (ffr (ffr (ffr (ffr h)))))))
  exact g_ca_serve_L8_sp (by omega) zK x1 0 t_2 H_2 F_2 (by omega) (by show _ < (1000000 : Int); omega)
def fw_ca_write (a0 : Nat) (a : Nat) (j : Int) : Bool := (fw_ca_addLast a0 a j) || (((a == a0 && j == 15)) || ((fw_ca_remove a0 a j) || (((a == a0 + 10 && j == 1)) || ((fw_bs_addRest (a0 + 10) a j) || false))))
set_option maxHeartbeats 4000000 in
theorem g_ca_write_L99_sp {a0 : Nat} (ha0 : a0 = 48 ∨ a0 = 106) {σ0 : zS} : ∀ (n : Nat) (x5 : Int) (x6 : Int) (y7 : Int) (x9 : Int) (σ : zS), CI σ → fr (fw_ca_write a0) σ0 σ → (0 ≤ x9 ∧ x9 ≤ 181) → (181 - x9) < (n : Int) → zO (g_ca_write_L99 a0 n x5 x6 y7 x9 σ) (fun v s => CI s ∧ fr (fw_ca_write a0) σ0 s ∧ (True))
  | 0, _, _, _, _, σ, _, _, hi, hm => by exfalso; omega
  | n + 1, x5, x6, y7, x9, σ, H, F, hi, hm => by
    have ri_a0_2 := CI.c2 (a := a0) H (by omega)
    unfold g_ca_write_L99
    try dsimp +instances only
    generalize hv_v_105 : σ (a0 + 10) 1 = v_105
    have rv_v_105 := CI.c1 (a := a0 + 10) H (by omega)
    rw [hv_v_105] at rv_v_105
    refine zO.ite (fun c_1 => ?_) (fun c_1 => ?_)
    ·
      try dsimp +instances only
      exact zO.ret ⟨H, F, trivial⟩
    ·
      try dsimp +instances only
      refine zO.bindp (g_bs_at_sp (by omega) H) (fun r_118 p_118 => ?_)
      try dsimp +instances only
      refine zO.bindp (g_bs_at_sp (by omega) H) (fun r_131 p_131 => ?_)
      try dsimp +instances only
      refine zO.bindp (g_b_common_sp) (fun r_134 p_134 => ?_)
      try dsimp +instances only
      refine zO.bind (g_ca_addLast_sp (by omega) H) (fun r_139 t_139 p_139 => ?_)
      obtain ⟨H_139, G_139, q_139⟩ := p_139
      try dsimp +instances only
      have F_139 := F.trans (fr.mono G_139 (fun a j h => ffl h))
      try have ew_6 := w32_id (x := x9 + 1) (by omega) (by omega)
      exact g_ca_write_L99_sp (by omega) n x5 x6 y7 (w32 (x9 + 1)) t_139 H_139 F_139 (by omega) (by omega)
theorem g_ca_write_sp {a0 : Nat} (ha0 : a0 = 48 ∨ a0 = 106) {x1 : Int} {σ : zS} (H : CI σ) : zO (g_ca_write a0 x1 σ) (fun v s => CI s ∧ fr (fw_ca_write a0) σ s ∧ (True)) := by
  have F : fr (fw_ca_write a0) σ σ := fr.refl σ
  have ri_a0_2 := CI.c2 (a := a0) H (by omega)
  unfold g_ca_write
  try dsimp +instances only
  refine zO.bindp (g_ca_regionAt_sp (by omega) H) (fun r_2 p_2 => ?_)
  try dsimp +instances only
  refine zO.ite (fun c_8 => ?_) (fun c_8 => ?_)
  ·
    try dsimp +instances only
    generalize hv_v_13 : σ a0 15 = v_13
    try have ew_9 := w32_id (x := v_13 + 1) (by omega) (by omega)
    generalize hs_s_18 : zu σ a0 15 (w32 (v_13 + 1)) = s_18
    have H_18 : CI s_18 := by rw [← hs_s_18]; exact CI_zun H (by omega) (by omega) (by rcases ha0 with rfl | rfl <;> rfl)
    have F_18 : fr (fw_ca_write a0) σ s_18 := by rw [← hs_s_18]; exact fr.zu F (by omega) (br (bl (zbb _ _)))
    have e_s_18_a0_2 : s_18 a0 2 = σ a0 2 := by rw [← hs_s_18]; exact zu_c (by omega)
    refine zO.bindp (g_se_of_sp (by omega)) (fun r_26 p_26 => ?_)
    try dsimp +instances only
    refine zO.ite (fun c_11 => ?_) (fun c_11 => ?_)
    ·
      try dsimp +instances only
      refine zO.gd (by omega) ?_
      try dsimp +instances only
      generalize hv_v_40 : s_18 (a0 + 4) r_2 = v_40
      refine zO.gd (by omega) ?_
      try dsimp +instances only
      generalize hv_v_48 : s_18 (a0 + 5) r_2 = v_48
      refine zO.gd (by omega) ?_
      try dsimp +instances only
      generalize hv_v_56 : s_18 (a0 + 6) r_2 = v_56
      refine zO.gd (by omega) ?_
      try dsimp +instances only
      generalize hv_v_64 : s_18 (a0 + 7) r_2 = v_64
      refine zO.bind (g_ca_remove_sp (by omega) H_18 (by omega)) (fun r_69 t_69 p_69 => ?_)
      obtain ⟨H_69, G_69, q_69⟩ := p_69
      try dsimp +instances only
      have F_69 := F_18.trans (fr.mono G_69 (fun a j h => ffl (ffr (ffr h))))
      refine zO.ite (fun c_13 => ?_) (fun c_13 => ?_)
      ·
        try dsimp +instances only
        generalize hs_s_83 : zu t_69 (a0 + 10) 1 0 = s_83
        have H_83 : CI s_83 := by rw [← hs_s_83]; exact CI_zuy H_69 (by omega) (by omega) (lo := 0) (hi := 181) (by rcases ha0 with rfl | rfl <;> rfl) (by omega) (by omega)
        have F_83 : fr (fw_ca_write a0) σ s_83 := by rw [← hs_s_83]; exact fr.zu F_69 (by omega) (br (br (br (bl (zbb _ _)))))
        have e_s_83_a0_2 : s_83 a0 2 = t_69 a0 2 := by rw [← hs_s_83]; exact zu_c (by omega)
        refine zO.bind (g_bs_addRest_sp (by omega) H_83) (fun r_93 t_93 p_93 => ?_)
        obtain ⟨H_93, G_93, q_93⟩ := p_93
        try dsimp +instances only
        have F_93 := F_83.trans (fr.mono G_93 (fun a j h => ffl (ffr (ffr (ffr (ffr h))))))
        have e_t_93_a0_2 := G_93 a0 2 (Or.inr (by rcases ha0 with rfl | rfl <;> rfl))
        exact g_ca_write_L99_sp (by omega) zK v_48 v_56 v_64 0 t_93 H_93 F_93 (by omega) (by show _ < (1000000 : Int); omega)
      ·
        try dsimp +instances only
        exact zO.ret ⟨H_69, F_69, trivial⟩
    ·
      try dsimp +instances only
      exact zO.ret ⟨H_18, F_18, trivial⟩
  ·
    try dsimp +instances only
    exact zO.ret ⟨H, F, trivial⟩
def fw_ca_admit (a0 : Nat) (a : Nat) (j : Int) : Bool := (fw_ca_trim a0 a j) || ((fw_ca_ask a0 a j) || ((fw_ca_addNew a0 a j) || false))
set_option maxHeartbeats 4000000 in
theorem g_ca_admit_L4_sp {a0 : Nat} (ha0 : a0 = 48 ∨ a0 = 106) {σ0 : zS} : ∀ (n : Nat) (x2 : Int) (x3 : Int) (σ : zS), CI σ → fr (fw_ca_admit a0) σ0 σ → (0 ≤ x3 ∧ x3 ≤ 181) → (181 - x3) < (n : Int) → zO (g_ca_admit_L4 a0 n x2 x3 σ) (fun v s => CI s ∧ fr (fw_ca_admit a0) σ0 s ∧ (True))
  | 0, _, _, σ, _, _, hi, hm => by exfalso; omega
  | n + 1, x2, x3, σ, H, F, hi, hm => by
    unfold g_ca_admit_L4
    try dsimp +instances only
    generalize hv_v_6 : σ 126 1 = v_6
    have rv_v_6 := CI.c1 (a := 126) H (by omega)
    rw [hv_v_6] at rv_v_6
    refine zO.ite (fun c_1 => ?_) (fun c_1 => ?_)
    ·
      try dsimp +instances only
      refine zO.bind (g_ca_trim_sp (by omega) H) (fun r_52 t_52 p_52 => ?_)
      obtain ⟨H_52, G_52, q_52⟩ := p_52
      try dsimp +instances only
      have F_52 := F.trans (fr.mono G_52 (fun a j h => ffl h))
      exact zO.ret ⟨H_52, F_52, trivial⟩
    ·
      try dsimp +instances only
      refine zO.bindp (g_bs_at_sp (by omega) H) (fun r_15 p_15 => ?_)
      try dsimp +instances only
      refine zO.bindp (g_ca_regionAt_sp (by omega) H) (fun r_18 p_18 => ?_)
      try dsimp +instances only
      refine zO.ite (fun c_5 => ?_) (fun c_5 => ?_)
      ·
        try dsimp +instances only
        unfold g_ca_admit_L45
        try dsimp +instances only
        try have ew_6 := w32_id (x := x3 + 1) (by omega) (by omega)
        exact g_ca_admit_L4_sp (by omega) n x2 (w32 (x3 + 1)) σ H F (by omega) (by omega)
      ·
        try dsimp +instances only
        refine zO.bindp (g_bs_at_sp (by omega) H) (fun r_27 p_27 => ?_)
        try dsimp +instances only
        refine zO.bind (g_ca_ask_sp (by omega) H) (fun r_30 t_30 p_30 => ?_)
        obtain ⟨H_30, G_30, q_30⟩ := p_30
        try dsimp +instances only
        have F_30 := F.trans (fr.mono G_30 (fun a j h => ffl (ffr h)))
        refine zO.bindp (g_bs_at_sp (by omega) H_30) (fun r_36 p_36 => ?_)
        try dsimp +instances only
        refine zO.bind (g_ca_addNew_sp (by omega) H_30) (fun r_39 t_39 p_39 => ?_)
        obtain ⟨H_39, G_39, q_39⟩ := p_39
        try dsimp +instances only
        have F_39 := F_30.trans (fr.mono G_39 (fun a j h => ffl (ffr (ffr h))))
        try have ew_11 := w32_id (x := x2 + 1) (by omega) (by omega)
        unfold g_ca_admit_L45
        try dsimp +instances only
        try have ew_12 := w32_id (x := x3 + 1) (by omega) (by omega)
        exact g_ca_admit_L4_sp (by omega) n (w32 (x2 + 1)) (w32 (x3 + 1)) t_39 H_39 F_39 (by omega) (by omega)
theorem g_ca_admit_sp {a0 : Nat} (ha0 : a0 = 48 ∨ a0 = 106) {σ : zS} (H : CI σ) : zO (g_ca_admit a0 σ) (fun v s => CI s ∧ fr (fw_ca_admit a0) σ s ∧ (True)) := by
  have F : fr (fw_ca_admit a0) σ σ := fr.refl σ
  unfold g_ca_admit
  try dsimp +instances only
  exact g_ca_admit_L4_sp (by omega) zK 0 0 σ H F (by omega) (by show _ < (1000000 : Int); omega)
