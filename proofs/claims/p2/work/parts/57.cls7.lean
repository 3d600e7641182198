/-! THE CLASS over the typed memory: each method answers, keeps the invariant, changes what fw_.. names (printed by wip/zv.py) -/
def fw_qu_readIf (a : Nat) (j : Int) : Bool := (fw_ta_takes a j) || ((fw_ta_word 5 a j) || ((fw_ta_wants a j) || ((fw_qu_top a j) || false)))
theorem g_qu_readIf_sp {σ : zS} (H : CI σ) : zO (g_qu_readIf σ) (fun v s => CI s ∧ fr (fw_qu_readIf) σ s ∧ (True)) := by
  have F : fr (fw_qu_readIf) σ σ := fr.refl σ
  unfold g_qu_readIf
  try dsimp +instances only
  refine zO.bind (g_ta_takes_sp H (by omega)) (fun r_6 t_6 p_6 => ?_)
  obtain ⟨H_6, G_6, q_6⟩ := p_6
  try dsimp +instances only
  have F_6 := F.trans (fr.mono G_6 (fun a j h => ffl h))
  refine zO.ite (fun c_2 => ?_) (fun c_2 => ?_)
  ·
    try dsimp +instances only
    refine zO.bind (g_ta_word_sp (by omega) H_6) (fun r_22 t_22 p_22 => ?_)
    obtain ⟨H_22, G_22, q_22⟩ := p_22
    try dsimp +instances only
    have F_22 := F_6.trans (fr.mono G_22 (fun a j h => ffl (ffr h)))
    refine zO.bind (g_ta_wants_sp H_22 (by omega)) (fun r_32 t_32 p_32 => ?_)
    obtain ⟨H_32, G_32, q_32⟩ := p_32
    try dsimp +instances only
    have F_32 := F_22.trans (fr.mono G_32 (fun a j h => ffl (ffr (ffr h))))
    refine zO.bind (g_qu_top_sp H_32) (fun r_37 t_37 p_37 => ?_)
    obtain ⟨H_37, G_37, q_37⟩ := p_37
    try dsimp +instances only
    have F_37 := F_32.trans (fr.mono G_37 (fun a j h => ffl (ffr (ffr (ffr h)))))
    exact zO.ret ⟨H_37, F_37, trivial⟩
  ·
    try dsimp +instances only
    exact zO.ret ⟨H_6, F_6, trivial⟩
def fw_qu_readParts (a : Nat) (j : Int) : Bool := (fw_ta_another a j) || ((fw_ta_word 4 a j) || ((a == 123) || ((fw_ta_wants a j) || ((fw_ta_ranges a j) || ((a == 124) || ((fw_qu_readIf a j) || ((a == 125) || (((a == 122 && j == 5)) || false))))))))
set_option maxHeartbeats 4000000 in
theorem g_qu_readParts_L9_sp {σ0 : zS} : ∀ (n : Nat) (x1 : Int) (x2 : Int) (σ : zS), CI σ → fr (fw_qu_readParts) σ0 σ → (0 ≤ x2 ∧ x2 ≤ 8) → (8 - x2) < (n : Int) → zO (g_qu_readParts_L9 n x1 x2 σ) (fun v s => CI s ∧ fr (fw_qu_readParts) σ0 s ∧ (True))
  | 0, _, _, σ, _, _, hi, hm => by exfalso; omega
  | n + 1, x1, x2, σ, H, F, hi, hm => by
    unfold g_qu_readParts_L9
    try dsimp +instances only
    refine zO.ite (fun c_1 => ?_) (fun c_1 => ?_)
    ·
      try dsimp +instances only
      exact zO.ret ⟨H, F, trivial⟩
    ·
      try dsimp +instances only
      refine zO.ite (fun c_2 => ?_) (fun c_2 => ?_)
      ·
        try dsimp +instances only
        exact zO.ret ⟨H, F, trivial⟩
      ·
        try dsimp +instances only
        refine zO.bind (g_ta_word_sp (by omega) H) (fun r_30 t_30 p_30 => ?_)
        obtain ⟨H_30, G_30, q_30⟩ := p_30
        try dsimp +instances only
        have F_30 := F.trans (fr.mono G_30 (fun a j h => ffl (ffr h)))
        refine zO.gd (by omega) ?_
        try dsimp +instances only
        generalize hs_s_33 : zu t_30 123 x2 r_30 = s_33
        have H_33 : CI s_33 := by rw [← hs_s_33]; exact CI_zun H_30 (by omega) (by omega) rfl
        have F_33 : fr (fw_qu_readParts) σ0 s_33 := by rw [← hs_s_33]; exact fr.zu F_30 (by omega) (br (br (bl (beq_self_eq_true _))))
        refine zO.bind (g_ta_wants_sp H_33 (by omega)) (fun r_40 t_40 p_40 => ?_)
        obtain ⟨H_40, G_40, q_40⟩ := p_40
        try dsimp +instances only
        have F_40 := F_33.trans (fr.mono G_40 (fun a j h => ffl (ffr (ffr (ffr h)))))
        refine zO.bind (g_ta_ranges_sp H_40) (fun r_52 t_52 p_52 => ?_)
        obtain ⟨H_52, G_52, q_52⟩ := p_52
        try dsimp +instances only
        have F_52 := F_40.trans (fr.mono G_52 (fun a j h => ffl (ffr (ffr (ffr (ffr h))))))
        refine zO.gd (by omega) ?_
        try dsimp +instances only
        generalize hs_s_55 : zu t_52 124 x2 r_52 = s_55
        have H_55 : CI s_55 := by rw [← hs_s_55]; exact CI_zun H_52 (by omega) (by omega) rfl
        have F_55 : fr (fw_qu_readParts) σ0 s_55 := by rw [← hs_s_55]; exact fr.zu F_52 (by omega) (br (br (br (br (br (bl (beq_self_eq_true _)))))))
        refine zO.bind (g_qu_readIf_sp H_55) (fun r_62 t_62 p_62 => ?_)
        obtain ⟨H_62, G_62, q_62⟩ := p_62
        try dsimp +instances only
        have F_62 := F_55.trans (fr.mono G_62 (fun a j h => ffl (ffr (ffr (ffr (ffr (ffr (ffr h))))))))
        refine zO.gd (by omega) ?_
        try dsimp +instances only
        generalize hs_s_65 : zu t_62 125 x2 r_62 = s_65
        have H_65 : CI s_65 := by rw [← hs_s_65]; exact CI_zun H_62 (by omega) (by omega) rfl
        have F_65 : fr (fw_qu_readParts) σ0 s_65 := by rw [← hs_s_65]; exact fr.zu F_62 (by omega) (br (br (br (br (br (br (br (bl (beq_self_eq_true _)))))))))
        try have ew_7 := w32_id (x := x2 + 1) (by omega) (by omega)
        generalize hs_s_70 : zu s_65 122 5 (w32 (x2 + 1)) = s_70
        have H_70 : CI s_70 := by rw [← hs_s_70]; exact CI_zuy H_65 (by omega) (by omega) (lo := 0) (hi := 8) rfl (by omega) (by omega)
        have F_70 : fr (fw_qu_readParts) σ0 s_70 := by rw [← hs_s_70]; exact fr.zu F_65 (by omega) (br (br (br (br (br (br (br (br (bl (zbb _ _))))))))))
        generalize hv_v_78 : s_70 122 5 = v_78
        have rv_v_78 := CI.cq H_70
        rw [hv_v_78] at rv_v_78
        refine zO.ite (fun c_8 => ?_) (fun c_8 => ?_)
        ·
          try dsimp +instances only
          unfold g_qu_readParts_L91
          try dsimp +instances only
          refine zO.bind (g_ta_another_sp H_70) (fun r_91 t_91 p_91 => ?_)
          obtain ⟨H_91, G_91, q_91⟩ := p_91
          try dsimp +instances only
          have F_91 := F_70.trans (fr.mono G_91 (fun a j h => ffl h))
          exact g_qu_readParts_L9_sp n r_91 (w32 (x2 + 1)) t_91 H_91 F_91 (by omega) (by omega)
        ·
          try dsimp +instances only
          unfold g_qu_readParts_L91
          try dsimp +instances only
          refine zO.bind (g_ta_another_sp H_70) (fun r_91 t_91 p_91 => ?_)
          obtain ⟨H_91, G_91, q_91⟩ := p_91
          try dsimp +instances only
          have F_91 := F_70.trans (fr.mono G_91 (fun a j h => ffl h))
          exact g_qu_readParts_L9_sp n r_91 (w32 (x2 + 1)) t_91 H_91 F_91 (by omega) (by omega)
theorem g_qu_readParts_sp {σ : zS} (H : CI σ) : zO (g_qu_readParts σ) (fun v s => CI s ∧ fr (fw_qu_readParts) σ s ∧ (True)) := by
  have F : fr (fw_qu_readParts) σ σ := fr.refl σ
  unfold g_qu_readParts
  try dsimp +instances only
  generalize hs_s_2 : zu σ 122 5 0 = s_2
  have H_2 : CI s_2 := by rw [← hs_s_2]; exact CI_zuy H (by omega) (by omega) (lo := 0) (hi := 8) rfl (by omega) (by omega)
  have F_2 : fr (fw_qu_readParts) σ s_2 := by rw [← hs_s_2]; exact fr.zu F (by omega) (br (br (br (br (br (br (br (br (bl (zbb _ _))))))))))
  exact g_qu_readParts_L9_sp zK 1 0 s_2 H_2 F_2 (by omega) (by show _ < (1000000 : Int); omega)
def fw_c_afterWrites (a : Nat) (j : Int) : Bool := (fw_ca_trim 48 a j) || ((fw_wa_compare a j) || false)
theorem g_c_afterWrites_sp {σ : zS} (H : CI σ) : zO (g_c_afterWrites σ) (fun v s => CI s ∧ fr (fw_c_afterWrites) σ s ∧ (True)) := by
  have F : fr (fw_c_afterWrites) σ σ := fr.refl σ
  unfold g_c_afterWrites
  try dsimp +instances only
  refine zO.bind (g_ca_trim_sp (by omega) H) (fun r_7 t_7 p_7 => ?_)
  obtain ⟨H_7, G_7, q_7⟩ := p_7
  try dsimp +instances only
  have F_7 := F.trans (fr.mono G_7 (fun a j h => ffl h))
  refine zO.bind (g_wa_compare_sp H_7) (fun r_24 t_24 p_24 => ?_)
  obtain ⟨H_24, G_24, q_24⟩ := p_24
  try dsimp +instances only
  have F_24 := F_7.trans (fr.mono G_24 (fun a j h => ffl (ffr h)))
  generalize hv_v_34 : t_24 48 2 = v_34
  have rv_v_34 := CI.c2 (a := 48) H_24 (by omega)
  rw [hv_v_34] at rv_v_34
  exact zO.ret ⟨H_24, F_24, trivial⟩
def fw_c_put (a : Nat) (j : Int) : Bool := (fw_so_bringIn a j) || ((fw_ca_write 48 a j) || ((fw_c_afterWrites a j) || ((fw_wa_remember a j) || ((fw_so_bringOut a j) || false))))
theorem g_c_put_sp {x1 : Int} {x2 : Int} {x3 : Int} {y4 : Int} {σ : zS} (H : CI σ) : zO (g_c_put x1 x2 x3 y4 σ) (fun v s => CI s ∧ fr (fw_c_put) σ s ∧ (True)) := by
  have F : fr (fw_c_put) σ σ := fr.refl σ
  unfold g_c_put
  try dsimp +instances only
  refine zO.bindp (g_so_isRow_sp) (fun r_1 p_1 => ?_)
  try dsimp +instances only
  refine zO.ite (fun c_2 => ?_) (fun c_2 => ?_)
  ·
    try dsimp +instances only
    refine zO.bindp (g_b_isPlace_sp) (fun r_11 p_11 => ?_)
    try dsimp +instances only
    refine zO.ite (fun c_4 => ?_) (fun c_4 => ?_)
    ·
      try dsimp +instances only
      exact zO.ret ⟨H, F, trivial⟩
    ·
      try dsimp +instances only
      refine zO.ite (fun c_5 => ?_) (fun c_5 => ?_)
      ·
        try dsimp +instances only
        exact zO.ret ⟨H, F, trivial⟩
      ·
        try dsimp +instances only
        refine zO.ite (fun c_6 => ?_) (fun c_6 => ?_)
        ·
          try dsimp +instances only
          refine zO.bind (g_wa_remember_sp H) (fun r_52 t_52 p_52 => ?_)
          obtain ⟨H_52, G_52, q_52⟩ := p_52
          try dsimp +instances only
          have F_52 := F.trans (fr.mono G_52 (fun a j h => ffl (ffr (ffr (ffr h)))))
          refine zO.bindp (g_so_isIn_sp H_52) (fun r_63 p_63 => ?_)
          try dsimp +instances only
          refine zO.ite (fun c_9 => ?_) (fun c_9 => ?_)
          ·
            try dsimp +instances only
            unfold g_c_put_L90
            try dsimp +instances only
            refine zO.bind (g_so_bringIn_sp H_52) (fun r_102 t_102 p_102 => ?_)
            obtain ⟨H_102, G_102, q_102⟩ := p_102
            try dsimp +instances only
            have F_102 := F_52.trans (fr.mono G_102 (fun a j h => ffl h))
            refine zO.bindp (g_b_of_sp) (fun r_116 p_116 => ?_)
            try dsimp +instances only
            refine zO.bind (g_ca_write_sp (by omega) H_102) (fun r_119 t_119 p_119 => ?_)
            obtain ⟨H_119, G_119, q_119⟩ := p_119
            try dsimp +instances only
            have F_119 := F_102.trans (fr.mono G_119 (fun a j h => ffl (ffr h)))
            refine zO.bind (g_c_afterWrites_sp H_119) (fun r_123 t_123 p_123 => ?_)
            obtain ⟨H_123, G_123, q_123⟩ := p_123
            try dsimp +instances only
            have F_123 := F_119.trans (fr.mono G_123 (fun a j h => ffl (ffr (ffr h))))
            exact zO.ret ⟨H_123, F_123, trivial⟩
          ·
            try dsimp +instances only
            refine zO.bind (g_so_bringOut_sp H_52) (fun r_84 t_84 p_84 => ?_)
            obtain ⟨H_84, G_84, q_84⟩ := p_84
            try dsimp +instances only
            have F_84 := F_52.trans (fr.mono G_84 (fun a j h => ffl (ffr (ffr (ffr (ffr h))))))
            refine zO.bind (g_ca_write_sp (by omega) H_84) (fun r_87 t_87 p_87 => ?_)
            obtain ⟨H_87, G_87, q_87⟩ := p_87
            try dsimp +instances only
            have F_87 := F_84.trans (fr.mono G_87 (fun a j h => ffl (ffr h)))
            unfold g_c_put_L90
            try dsimp +instances only
            refine zO.bind (g_so_bringIn_sp H_87) (fun r_102 t_102 p_102 => ?_)
            obtain ⟨H_102, G_102, q_102⟩ := p_102
            try dsimp +instances only
            have F_102 := F_87.trans (fr.mono G_102 (fun a j h => ffl h))
            refine zO.bindp (g_b_of_sp) (fun r_116 p_116 => ?_)
            try dsimp +instances only
            refine zO.bind (g_ca_write_sp (by omega) H_102) (fun r_119 t_119 p_119 => ?_)
            obtain ⟨H_119, G_119, q_119⟩ := p_119
            try dsimp +instances only
            have F_119 := F_102.trans (fr.mono G_119 (fun a j h => ffl (ffr h)))
            refine zO.bind (g_c_afterWrites_sp H_119) (fun r_123 t_123 p_123 => ?_)
            obtain ⟨H_123, G_123, q_123⟩ := p_123
            try dsimp +instances only
            have F_123 := F_119.trans (fr.mono G_123 (fun a j h => ffl (ffr (ffr h))))
            exact zO.ret ⟨H_123, F_123, trivial⟩
        ·
          try dsimp +instances only
          exact zO.ret ⟨H, F, trivial⟩
  ·
    try dsimp +instances only
    exact zO.ret ⟨H, F, trivial⟩
def fw_c_take (a : Nat) (j : Int) : Bool := (fw_wa_remember a j) || ((fw_so_bringOut a j) || ((fw_ca_write 48 a j) || ((fw_c_afterWrites a j) || false)))
theorem g_c_take_sp {x1 : Int} {σ : zS} (H : CI σ) : zO (g_c_take x1 σ) (fun v s => CI s ∧ fr (fw_c_take) σ s ∧ (True)) := by
  have F : fr (fw_c_take) σ σ := fr.refl σ
  unfold g_c_take
  try dsimp +instances only
  refine zO.bindp (g_so_isRow_sp) (fun r_1 p_1 => ?_)
  try dsimp +instances only
  refine zO.ite (fun c_2 => ?_) (fun c_2 => ?_)
  ·
    try dsimp +instances only
    refine zO.bindp (g_so_isIn_sp H) (fun r_17 p_17 => ?_)
    try dsimp +instances only
    refine zO.ite (fun c_4 => ?_) (fun c_4 => ?_)
    ·
      try dsimp +instances only
      refine zO.bind (g_wa_remember_sp H) (fun r_40 t_40 p_40 => ?_)
      obtain ⟨H_40, G_40, q_40⟩ := p_40
      try dsimp +instances only
      have F_40 := F.trans (fr.mono G_40 (fun a j h => ffl h))
      refine zO.bind (g_so_bringOut_sp H_40) (fun r_58 t_58 p_58 => ?_)
      obtain ⟨H_58, G_58, q_58⟩ := p_58
      try dsimp +instances only
      have F_58 := F_40.trans (fr.mono G_58 (fun a j h => ffl (ffr h)))
      refine zO.bind (g_ca_write_sp (by omega) H_58) (fun r_61 t_61 p_61 => ?_)
      obtain ⟨H_61, G_61, q_61⟩ := p_61
      try dsimp +instances only
      have F_61 := F_58.trans (fr.mono G_61 (fun a j h => ffl (ffr (ffr h))))
      refine zO.bind (g_c_afterWrites_sp H_61) (fun r_65 t_65 p_65 => ?_)
      obtain ⟨H_65, G_65, q_65⟩ := p_65
      try dsimp +instances only
      have F_65 := F_61.trans (fr.mono G_65 (fun a j h => ffl (ffr (ffr (ffr h)))))
      exact zO.ret ⟨H_65, F_65, trivial⟩
    ·
      try dsimp +instances only
      exact zO.ret ⟨H, F, trivial⟩
  ·
    try dsimp +instances only
    exact zO.ret ⟨H, F, trivial⟩
theorem g_c_row_sp {x1 : Int} {x2 : Int} {σ : zS} (H : CI σ) : zOp (g_c_row x1 x2 σ) σ (fun v => True) := by
  unfold g_c_row
  try dsimp +instances only
  refine zOp.bindp (g_so_isRow_sp) (fun r_1 p_1 => ?_)
  try dsimp +instances only
  refine zOp.ite (fun c_2 => ?_) (fun c_2 => ?_)
  ·
    try dsimp +instances only
    exact zOp.ret trivial
  ·
    try dsimp +instances only
    refine zOp.ite (fun c_3 => ?_) (fun c_3 => ?_)
    ·
      try dsimp +instances only
      exact zOp.ret trivial
    ·
      try dsimp +instances only
      refine zOp.ite (fun c_4 => ?_) (fun c_4 => ?_)
      ·
        try dsimp +instances only
        refine zOp.bindp (g_so_isIn_sp H) (fun r_26 p_26 => ?_)
        try dsimp +instances only
        refine zOp.ite (fun c_6 => ?_) (fun c_6 => ?_)
        ·
          try dsimp +instances only
          refine zOp.ite (fun c_7 => ?_) (fun c_7 => ?_)
          ·
            try dsimp +instances only
            refine zOp.gd (by omega) ?_
            try dsimp +instances only
            generalize hv_v_65 : σ 43 x1 = v_65
            have rv_v_65 := CI.cp (a := 43) (j := x1) H (by omega)
            rw [hv_v_65] at rv_v_65
            exact zOp.ret trivial
          ·
            try dsimp +instances only
            refine zOp.gd (by omega) ?_
            try dsimp +instances only
            generalize hv_v_50 : σ 42 x1 = v_50
            have rv_v_50 := CI.cp (a := 42) (j := x1) H (by omega)
            rw [hv_v_50] at rv_v_50
            exact zOp.ret trivial
        ·
          try dsimp +instances only
          exact zOp.ret trivial
      ·
        try dsimp +instances only
        exact zOp.ret trivial
theorem g_c_worth_sp {x1 : Int} {σ : zS} (H : CI σ) : zOp (g_c_worth x1 σ) σ (fun v => True) := by
  unfold g_c_worth
  try dsimp +instances only
  refine zOp.bindp (g_so_isIn_sp H) (fun r_8 p_8 => ?_)
  try dsimp +instances only
  refine zOp.ite (fun c_2 => ?_) (fun c_2 => ?_)
  ·
    try dsimp +instances only
    exact zOp.ret trivial
  ·
    try dsimp +instances only
    refine zOp.gd (by omega) ?_
    try dsimp +instances only
    generalize hv_v_25 : σ 44 x1 = v_25
    exact zOp.ret trivial
def fw_c_feed (a : Nat) (j : Int) : Bool := (fw_ta_append a j) || false
theorem g_c_feed_sp {x1 : Int} {σ : zS} (H : CI σ) : zO (g_c_feed x1 σ) (fun v s => CI s ∧ fr (fw_c_feed) σ s ∧ ((¬ (1 ≤ x1 ∧ x1 ≤ 127) → v = -2 ∧ s 120 1 = σ 120 1) ∧ (1 ≤ x1 ∧ x1 ≤ 127 ∧ σ 120 1 < 160 → v = σ 120 1 + 1 ∧ s 120 1 = σ 120 1 + 1) ∧ (1 ≤ x1 ∧ x1 ≤ 127 ∧ σ 120 1 = 160 → v = -4 ∧ s 120 1 = σ 120 1))) := by
  have F : fr (fw_c_feed) σ σ := fr.refl σ
  have ri_120_1 := CI.ct H
  unfold g_c_feed
  try dsimp +instances only
  refine zO.ite (fun c_1 => ?_) (fun c_1 => ?_)
  ·
    try dsimp +instances only
    exact zO.ret ⟨H, F, (by omega)⟩
  ·
    try dsimp +instances only
    refine zO.ite (fun c_2 => ?_) (fun c_2 => ?_)
    ·
      try dsimp +instances only
      refine zO.bind (g_ta_append_sp H) (fun r_19 t_19 p_19 => ?_)
      obtain ⟨H_19, G_19, q_19⟩ := p_19
      try dsimp +instances only
      have F_19 := F.trans (fr.mono G_19 (fun a j h => ffl h))
      refine zO.ite (fun c_4 => ?_) (fun c_4 => ?_)
      ·
        try dsimp +instances only
        exact zO.ret ⟨H_19, F_19, (by omega)⟩
      ·
        try dsimp +instances only
        generalize hv_v_29 : t_19 120 1 = v_29
        have rv_v_29 := CI.ct H_19
        rw [hv_v_29] at rv_v_29
        exact zO.ret ⟨H_19, F_19, (by omega)⟩
    ·
      try dsimp +instances only
      exact zO.ret ⟨H, F, (by omega)⟩
def fw_c_clear (a : Nat) (j : Int) : Bool := ((a == 120 && j == 1)) || false
theorem g_c_clear_sp {σ : zS} (H : CI σ) : zO (g_c_clear σ) (fun v s => CI s ∧ fr (fw_c_clear) σ s ∧ (v = σ 120 1 ∧ s 120 1 = 0)) := by
  have F : fr (fw_c_clear) σ σ := fr.refl σ
  have ri_120_1 := CI.ct H
  unfold g_c_clear
  try dsimp +instances only
  generalize hv_v_4 : σ 120 1 = v_4
  have rv_v_4 := CI.ct H
  rw [hv_v_4] at rv_v_4
  generalize hs_s_13 : zu σ 120 1 0 = s_13
  have H_13 : CI s_13 := by rw [← hs_s_13]; exact CI_zuy H (by omega) (by omega) (lo := 0) (hi := 160) rfl (by omega) (by omega)
  have F_13 : fr (fw_c_clear) σ s_13 := by rw [← hs_s_13]; exact fr.zu F (by omega) (bl (zbb _ _))
  have e_s_13_120_1 : s_13 120 1 = 0 := by rw [← hs_s_13]; exact zu_e rfl
  exact zO.ret ⟨H_13, F_13, (by omega)⟩
def fw_c_settings (a : Nat) (j : Int) : Bool := (fw_ta_end a j) || ((fw_ta_begin a j) || ((fw_se_copyFrom 118 49 a j) || ((fw_se_readParts a j) || ((fw_se_copyFrom 49 118 a j) || ((fw_ca_trim 48 a j) || false)))))
theorem g_c_settings_sp {σ : zS} (H : CI σ) : zO (g_c_settings σ) (fun v s => CI s ∧ fr (fw_c_settings) σ s ∧ (s 120 1 = 0)) := by
  have F : fr (fw_c_settings) σ σ := fr.refl σ
  have ri_120_1 := CI.ct H
  unfold g_c_settings
  try dsimp +instances only
  refine zO.bind (g_ta_begin_sp H) (fun r_4 t_4 p_4 => ?_)
  obtain ⟨H_4, G_4, q_4⟩ := p_4
  try dsimp +instances only
  have F_4 := F.trans (fr.mono G_4 (fun a j h => ffl (ffr h)))
  have e_t_4_120_1 := G_4 120 1 (Or.inr rfl)
  refine zO.bind (g_se_copyFrom_sp (by omega) (by omega) H_4) (fun r_21 t_21 p_21 => ?_)
  obtain ⟨H_21, G_21, q_21⟩ := p_21
  try dsimp +instances only
  have F_21 := F_4.trans (fr.mono G_21 (fun a j h => ffl (ffr (ffr h))))
  have e_t_21_120_1 := G_21 120 1 (Or.inr rfl)
  refine zO.bind (g_se_readParts_sp H_21) (fun r_32 t_32 p_32 => ?_)
  obtain ⟨H_32, G_32, q_32⟩ := p_32
  try dsimp +instances only
  have F_32 := F_21.trans (fr.mono G_32 (fun a j h => ffl (ffr (ffr (ffr h)))))
  have e_t_32_120_1 := G_32 120 1 (Or.inr rfl)
  refine zO.bindp (g_ta_isSound_sp) (fun r_40 p_40 => ?_)
  try dsimp +instances only
  refine zO.ite (fun c_5 => ?_) (fun c_5 => ?_)
  ·
    try dsimp +instances only
    unfold g_c_settings_L73
    try dsimp +instances only
    refine zO.bind (g_ta_end_sp H_32) (fun r_78 t_78 p_78 => ?_)
    obtain ⟨H_78, G_78, q_78⟩ := p_78
    try dsimp +instances only
    have F_78 := F_32.trans (fr.mono G_78 (fun a j h => ffl h))
    exact zO.ret ⟨H_78, F_78, (by omega)⟩
  ·
    try dsimp +instances only
    refine zO.bind (g_se_copyFrom_sp (by omega) (by omega) H_32) (fun r_60 t_60 p_60 => ?_)
    obtain ⟨H_60, G_60, q_60⟩ := p_60
    try dsimp +instances only
    have F_60 := F_32.trans (fr.mono G_60 (fun a j h => ffl (ffr (ffr (ffr (ffr h))))))
    have e_t_60_120_1 := G_60 120 1 (Or.inr rfl)
    refine zO.bind (g_ca_trim_sp (by omega) H_60) (fun r_70 t_70 p_70 => ?_)
    obtain ⟨H_70, G_70, q_70⟩ := p_70
    try dsimp +instances only
    have F_70 := F_60.trans (fr.mono G_70 (fun a j h => ffl (ffr (ffr (ffr (ffr (ffr h)))))))
    have e_t_70_120_1 := G_70 120 1 (Or.inr rfl)
    unfold g_c_settings_L73
    try dsimp +instances only
    refine zO.bind (g_ta_end_sp H_70) (fun r_78 t_78 p_78 => ?_)
    obtain ⟨H_78, G_78, q_78⟩ := p_78
    try dsimp +instances only
    have F_78 := F_70.trans (fr.mono G_78 (fun a j h => ffl h))
    exact zO.ret ⟨H_78, F_78, (by omega)⟩
theorem g_c_setting_sp {x1 : Int} {σ : zS} (H : CI σ) : zOp (g_c_setting x1 σ) σ (fun v => True) := by
  unfold g_c_setting
  try dsimp +instances only
  refine zOp.bindp (g_se_of_sp (by omega)) (fun r_11 p_11 => ?_)
  try dsimp +instances only
  exact zOp.ret trivial
def fw_c_done (a : Nat) (j : Int) : Bool := (fw_ca_serve 48 a j) || ((fw_fi_gather 60 a j) || false)
theorem g_c_done_sp {x1 : Int} {x2 : Int} {y3 : Int} {σ : zS} (H : CI σ) : zO (g_c_done x1 x2 y3 σ) (fun v s => CI s ∧ fr (fw_c_done) σ s ∧ (True)) := by
  have F : fr (fw_c_done) σ σ := fr.refl σ
  unfold g_c_done
  try dsimp +instances only
  refine zO.bind (g_ca_serve_sp (by omega) H) (fun r_8 t_8 p_8 => ?_)
  obtain ⟨H_8, G_8, q_8⟩ := p_8
  try dsimp +instances only
  have F_8 := F.trans (fr.mono G_8 (fun a j h => ffl h))
  refine zO.bindp (g_so_rowsIn_sp) (fun r_33 p_33 => ?_)
  try dsimp +instances only
  refine zO.bind (g_fi_gather_sp (by omega) H_8) (fun r_38 t_38 p_38 => ?_)
  obtain ⟨H_38, G_38, q_38⟩ := p_38
  try dsimp +instances only
  have F_38 := F_8.trans (fr.mono G_38 (fun a j h => ffl (ffr h)))
  refine zO.bindp (g_fi_measured_sp (by omega) H_38) (fun r_49 p_49 => ?_)
  try dsimp +instances only
  exact zO.ret ⟨H_38, F_38, trivial⟩
def fw_c_run (a : Nat) (j : Int) : Bool := (fw_ta_end a j) || ((fw_c_done a j) || ((a == 128) || ((fw_ta_begin a j) || ((fw_qu_readParts a j) || (((a == 39 && j == 9)) || false)))))
set_option maxHeartbeats 4000000 in
theorem g_c_run_L37_sp {σ0 : zS} : ∀ (n : Nat) (x1 : Int) (σ : zS), CI σ → fr (fw_c_run) σ0 σ → (0 ≤ x1 ∧ x1 ≤ 8) → (8 - x1) < (n : Int) → zO (g_c_run_L37 n x1 σ) (fun v s => CI s ∧ fr (fw_c_run) σ0 s ∧ (s 120 1 = 0))
  | 0, _, σ, _, _, hi, hm => by exfalso; omega
  | n + 1, x1, σ, H, F, hi, hm => by
    have ri_120_1 := CI.ct H
    unfold g_c_run_L37
    try dsimp +instances only
    generalize hv_v_42 : σ 122 5 = v_42
    have rv_v_42 := CI.cq H
    rw [hv_v_42] at rv_v_42
    refine zO.ite (fun c_1 => ?_) (fun c_1 => ?_)
    ·
      try dsimp +instances only
      unfold g_c_run_L100
      try dsimp +instances only
      generalize hv_v_108 : σ 122 5 = v_108
      have rv_v_108 := CI.cq H
      rw [hv_v_108] at rv_v_108
      refine zO.bind (g_ta_end_sp H) (fun r_111 t_111 p_111 => ?_)
      obtain ⟨H_111, G_111, q_111⟩ := p_111
      try dsimp +instances only
      have F_111 := F.trans (fr.mono G_111 (fun a j h => ffl h))
      exact zO.ret ⟨H_111, F_111, (by omega)⟩
    ·
      try dsimp +instances only
      refine zO.ite (fun c_3 => ?_) (fun c_3 => ?_)
      ·
        try dsimp +instances only
        unfold g_c_run_L100
        try dsimp +instances only
        generalize hv_v_108 : σ 122 5 = v_108
        have rv_v_108 := CI.cq H
        rw [hv_v_108] at rv_v_108
        refine zO.bind (g_ta_end_sp H) (fun r_111 t_111 p_111 => ?_)
        obtain ⟨H_111, G_111, q_111⟩ := p_111
        try dsimp +instances only
        have F_111 := F.trans (fr.mono G_111 (fun a j h => ffl h))
        exact zO.ret ⟨H_111, F_111, (by omega)⟩
      ·
        try dsimp +instances only
        refine zO.gd (by omega) ?_
        try dsimp +instances only
        generalize hv_v_71 : σ 123 x1 = v_71
        refine zO.gd (by omega) ?_
        try dsimp +instances only
        generalize hv_v_80 : σ 124 x1 = v_80
        refine zO.gd (by omega) ?_
        try dsimp +instances only
        generalize hv_v_89 : σ 125 x1 = v_89
        refine zO.bind (g_c_done_sp H) (fun r_90 t_90 p_90 => ?_)
        obtain ⟨H_90, G_90, q_90⟩ := p_90
        try dsimp +instances only
        have F_90 := F.trans (fr.mono G_90 (fun a j h => ffl (ffr h)))
        have e_t_90_120_1 := G_90 120 1 (Or.inr rfl)
        refine zO.gd (by omega) ?_
        try dsimp +instances only
        generalize hs_s_93 : zu t_90 128 x1 r_90 = s_93
        have H_93 : CI s_93 := by rw [← hs_s_93]; exact CI_zun H_90 (by omega) (by omega) rfl
        have F_93 : fr (fw_c_run) σ0 s_93 := by rw [← hs_s_93]; exact fr.zu F_90 (by omega) (br (br (bl (beq_self_eq_true _))))
        have e_s_93_120_1 : s_93 120 1 = t_90 120 1 := by rw [← hs_s_93]; exact zu_c (by omega)
        try have ew_6 := w32_id (x := x1 + 1) (by omega) (by omega)
        exact zO.imp (g_c_run_L37_sp n (w32 (x1 + 1)) s_93 H_93 F_93 (by omega) (by omega)) (fun v s ⟨pa, pb, pc⟩ => ⟨pa, pb, by omega⟩)
theorem g_c_run_sp {σ : zS} (H : CI σ) : zO (g_c_run σ) (fun v s => CI s ∧ fr (fw_c_run) σ s ∧ (s 120 1 = 0)) := by
  have F : fr (fw_c_run) σ σ := fr.refl σ
  have ri_120_1 := CI.ct H
  unfold g_c_run
  try dsimp +instances only
  refine zO.bind (g_ta_begin_sp H) (fun r_4 t_4 p_4 => ?_)
  obtain ⟨H_4, G_4, q_4⟩ := p_4
  try dsimp +instances only
  have F_4 := F.trans (fr.mono G_4 (fun a j h => ffl (ffr (ffr (ffr h)))))
  have e_t_4_120_1 := G_4 120 1 (Or.inr rfl)
  refine zO.bind (g_qu_readParts_sp H_4) (fun r_11 t_11 p_11 => ?_)
  obtain ⟨H_11, G_11, q_11⟩ := p_11
  try dsimp +instances only
  have F_11 := F_4.trans (fr.mono G_11 (fun a j h => ffl (ffr (ffr (ffr (ffr h))))))
  have e_t_11_120_1 := G_11 120 1 (Or.inr rfl)
  refine zO.bindp (g_ta_isSound_sp) (fun r_18 p_18 => ?_)
  try dsimp +instances only
  refine zO.ite (fun c_10 => ?_) (fun c_10 => ?_)
  ·
    try dsimp +instances only
    unfold g_c_run_L100
    try dsimp +instances only
    generalize hv_v_108 : t_11 122 5 = v_108
    have rv_v_108 := CI.cq H_11
    rw [hv_v_108] at rv_v_108
    refine zO.bind (g_ta_end_sp H_11) (fun r_111 t_111 p_111 => ?_)
    obtain ⟨H_111, G_111, q_111⟩ := p_111
    try dsimp +instances only
    have F_111 := F_11.trans (fr.mono G_111 (fun a j h => ffl h))
    exact zO.ret ⟨H_111, F_111, (by omega)⟩
  ·
    try dsimp +instances only
    generalize hv_v_29 : t_11 122 5 = v_29
    have rv_v_29 := CI.cq H_11
    rw [hv_v_29] at rv_v_29
    generalize hs_s_32 : zu t_11 39 9 v_29 = s_32
    have H_32 : CI s_32 := by rw [← hs_s_32]; exact CI_zuy H_11 (by omega) (by omega) (lo := 0) (hi := 8) rfl (by omega) (by omega)
    have F_32 : fr (fw_c_run) σ s_32 := by rw [← hs_s_32]; exact fr.zu F_11 (by omega) (br (br (br (br (br (bl (zbb _ _)))))))
    have e_s_32_120_1 : s_32 120 1 = t_11 120 1 := by rw [← hs_s_32]; exact zu_c (by omega)
    exact zO.imp (g_c_run_L37_sp zK 0 s_32 H_32 F_32 (by omega) (by show _ < (1000000 : Int); omega)) (fun v s ⟨pa, pb, pc⟩ => ⟨pa, pb, by omega⟩)
theorem g_c_answer_sp {x1 : Int} {σ : zS} (H : CI σ) : zOp (g_c_answer x1 σ) σ (fun v => True) := by
  unfold g_c_answer
  try dsimp +instances only
  refine zOp.ite (fun c_1 => ?_) (fun c_1 => ?_)
  ·
    try dsimp +instances only
    exact zOp.ret trivial
  ·
    try dsimp +instances only
    generalize hv_v_6 : σ 39 9 = v_6
    have rv_v_6 := CI.cn H
    rw [hv_v_6] at rv_v_6
    refine zOp.ite (fun c_2 => ?_) (fun c_2 => ?_)
    ·
      try dsimp +instances only
      exact zOp.ret trivial
    ·
      try dsimp +instances only
      refine zOp.ite (fun c_3 => ?_) (fun c_3 => ?_)
      ·
        try dsimp +instances only
        exact zOp.ret trivial
      ·
        try dsimp +instances only
        refine zOp.gd (by omega) ?_
        try dsimp +instances only
        generalize hv_v_26 : σ 128 x1 = v_26
        exact zOp.ret trivial
def fw_c_spellBox (a : Nat) (j : Int) : Bool := (fw_page a j) || ((fw_page a j) || false)
theorem g_c_spellBox_sp {x1 : Int} {σ : zS} (H : CI σ) (hp : σ 129 3 ≤ 40000) : zO (g_c_spellBox x1 σ) (fun v s => CI s ∧ fr (fw_c_spellBox) σ s ∧ (s 129 3 ≤ σ 129 3 + 47)) := by
  have F : fr (fw_c_spellBox) σ σ := fr.refl σ
  unfold g_c_spellBox
  try dsimp +instances only
  refine zO.bindp (g_b_side_sp) (fun r_6 p_6 => ?_)
  try dsimp +instances only
  refine zO.bind (g_jStringBuilder_append_304_sp H (by omega)) (fun r_9 t_9 p_9 => ?_)
  obtain ⟨H_9, G_9, q_9⟩ := p_9
  try dsimp +instances only
  have F_9 := F.trans (fr.mono G_9 (fun a j h => ffl h))
  refine zO.bind (g_jStringBuilder_append_303_sp H_9 (by omega)) (fun r_14 t_14 p_14 => ?_)
  obtain ⟨H_14, G_14, q_14⟩ := p_14
  try dsimp +instances only
  have F_14 := F_9.trans (fr.mono G_14 (fun a j h => ffl (ffr h)))
  refine zO.bindp (g_b_side_sp) (fun r_19 p_19 => ?_)
  try dsimp +instances only
  refine zO.bind (g_jStringBuilder_append_304_sp H_14 (by omega)) (fun r_22 t_22 p_22 => ?_)
  obtain ⟨H_22, G_22, q_22⟩ := p_22
  try dsimp +instances only
  have F_22 := F_14.trans (fr.mono G_22 (fun a j h => ffl h))
  refine zO.bind (g_jStringBuilder_append_303_sp H_22 (by omega)) (fun r_27 t_27 p_27 => ?_)
  obtain ⟨H_27, G_27, q_27⟩ := p_27
  try dsimp +instances only
  have F_27 := F_22.trans (fr.mono G_27 (fun a j h => ffl (ffr h)))
  refine zO.bindp (g_b_side_sp) (fun r_37 p_37 => ?_)
  try dsimp +instances only
  refine zO.bind (g_jStringBuilder_append_304_sp H_27 (by omega)) (fun r_40 t_40 p_40 => ?_)
  obtain ⟨H_40, G_40, q_40⟩ := p_40
  try dsimp +instances only
  have F_40 := F_27.trans (fr.mono G_40 (fun a j h => ffl h))
  refine zO.bind (g_jStringBuilder_append_303_sp H_40 (by omega)) (fun r_45 t_45 p_45 => ?_)
  obtain ⟨H_45, G_45, q_45⟩ := p_45
  try dsimp +instances only
  have F_45 := F_40.trans (fr.mono G_45 (fun a j h => ffl (ffr h)))
  refine zO.bindp (g_b_side_sp) (fun r_50 p_50 => ?_)
  try dsimp +instances only
  refine zO.bind (g_jStringBuilder_append_304_sp H_45 (by omega)) (fun r_53 t_53 p_53 => ?_)
  obtain ⟨H_53, G_53, q_53⟩ := p_53
  try dsimp +instances only
  have F_53 := F_45.trans (fr.mono G_53 (fun a j h => ffl h))
  exact zO.ret ⟨H_53, F_53, (by omega)⟩
def fw_c_spell (a : Nat) (j : Int) : Bool := (fw_c_spellBox a j) || ((fw_page a j) || ((fw_page a j) || false))
set_option maxHeartbeats 4000000 in
theorem g_c_spell_L10_sp {σ0 : zS} : ∀ (n : Nat) (x1 : Int) (σ : zS), CI σ → fr (fw_c_spell) σ0 σ → (0 ≤ x1 ∧ x1 ≤ 181 ∧ σ 129 3 ≤ 50 * x1) → (181 - x1) < (n : Int) → zO (g_c_spell_L10 n x1 σ) (fun v s => CI s ∧ fr (fw_c_spell) σ0 s ∧ (True))
  | 0, _, σ, _, _, hi, hm => by exfalso; omega
  | n + 1, x1, σ, H, F, hi, hm => by
    unfold g_c_spell_L10
    try dsimp +instances only
    generalize hv_v_18 : σ 48 2 = v_18
    have rv_v_18 := CI.c2 (a := 48) H (by omega)
    rw [hv_v_18] at rv_v_18
    refine zO.ite (fun c_1 => ?_) (fun c_1 => ?_)
    ·
      try dsimp +instances only
      refine zO.bindp (g_jStringBuilder_length_sp H) (fun r_64 p_64 => ?_)
      try dsimp +instances only
      exact zO.ret ⟨H, F, trivial⟩
    ·
      try dsimp +instances only
      refine zO.ite (fun c_3 => ?_) (fun c_3 => ?_)
      ·
        try dsimp +instances only
        unfold g_c_spell_L38
        try dsimp +instances only
        refine zO.gd (by omega) ?_
        try dsimp +instances only
        generalize hv_v_50 : σ 52 x1 = v_50
        refine zO.bind (g_c_spellBox_sp H (by omega)) (fun r_51 t_51 p_51 => ?_)
        obtain ⟨H_51, G_51, q_51⟩ := p_51
        try dsimp +instances only
        have F_51 := F.trans (fr.mono G_51 (fun a j h => ffl h))
        try have ew_5 := w32_id (x := x1 + 1) (by omega) (by omega)
        exact g_c_spell_L10_sp n (w32 (x1 + 1)) t_51 H_51 F_51 (by omega) (by omega)
      ·
        try dsimp +instances only
        refine zO.bind (g_jStringBuilder_append_303_sp H (by omega)) (fun r_34 t_34 p_34 => ?_)
        obtain ⟨H_34, G_34, q_34⟩ := p_34
        try dsimp +instances only
        have F_34 := F.trans (fr.mono G_34 (fun a j h => ffl (ffr h)))
        unfold g_c_spell_L38
        try dsimp +instances only
        refine zO.gd (by omega) ?_
        try dsimp +instances only
        generalize hv_v_50 : t_34 52 x1 = v_50
        refine zO.bind (g_c_spellBox_sp H_34 (by omega)) (fun r_51 t_51 p_51 => ?_)
        obtain ⟨H_51, G_51, q_51⟩ := p_51
        try dsimp +instances only
        have F_51 := F_34.trans (fr.mono G_51 (fun a j h => ffl h))
        try have ew_8 := w32_id (x := x1 + 1) (by omega) (by omega)
        exact g_c_spell_L10_sp n (w32 (x1 + 1)) t_51 H_51 F_51 (by omega) (by omega)
theorem g_c_spell_sp {σ : zS} (H : CI σ) : zO (g_c_spell σ) (fun v s => CI s ∧ fr (fw_c_spell) σ s ∧ (True)) := by
  have F : fr (fw_c_spell) σ σ := fr.refl σ
  unfold g_c_spell
  try dsimp +instances only
  refine zO.bind (g_jStringBuilder_setLength_sp H (by omega)) (fun r_5 t_5 p_5 => ?_)
  obtain ⟨H_5, G_5, q_5⟩ := p_5
  try dsimp +instances only
  have F_5 := F.trans (fr.mono G_5 (fun a j h => ffl (ffr (ffr h))))
  exact g_c_spell_L10_sp zK 0 t_5 H_5 F_5 (by omega) (by show _ < (1000000 : Int); omega)
def fw_c_load (a : Nat) (j : Int) : Bool := (fw_ta_another a j) || ((fw_ta_end a j) || ((fw_ca_admit 48 a j) || ((fw_ta_plainBox a j) || ((fw_bs_add 126 a j) || ((fw_ta_begin a j) || (((a == 126 && j == 1)) || false))))))
set_option maxHeartbeats 4000000 in
theorem g_c_load_L19_sp {σ0 : zS} : ∀ (n : Nat) (x1 : Int) (x2 : Int) (σ : zS), CI σ → fr (fw_c_load) σ0 σ → (1 ≤ x2 ∧ x2 ≤ 13) → (13 - x2) < (n : Int) → zO (g_c_load_L19 n x1 x2 σ) (fun v s => CI s ∧ fr (fw_c_load) σ0 s ∧ (s 120 1 = 0))
  | 0, _, _, σ, _, _, hi, hm => by exfalso; omega
  | n + 1, x1, x2, σ, H, F, hi, hm => by
    have ri_120_1 := CI.ct H
    unfold g_c_load_L19
    try dsimp +instances only
    refine zO.ite (fun c_1 => ?_) (fun c_1 => ?_)
    ·
      try dsimp +instances only
      unfold g_c_load_L69
      try dsimp +instances only
      refine zO.bindp (g_ta_isSound_sp) (fun r_77 p_77 => ?_)
      try dsimp +instances only
      refine zO.ite (fun c_3 => ?_) (fun c_3 => ?_)
      ·
        try dsimp +instances only
        unfold g_c_load_L101
        try dsimp +instances only
        refine zO.bind (g_ta_end_sp H) (fun r_101 t_101 p_101 => ?_)
        obtain ⟨H_101, G_101, q_101⟩ := p_101
        try dsimp +instances only
        have F_101 := F.trans (fr.mono G_101 (fun a j h => ffl (ffr h)))
        exact zO.ret ⟨H_101, F_101, (by omega)⟩
      ·
        try dsimp +instances only
        refine zO.bind (g_ca_admit_sp (by omega) H) (fun r_94 t_94 p_94 => ?_)
        obtain ⟨H_94, G_94, q_94⟩ := p_94
        try dsimp +instances only
        have F_94 := F.trans (fr.mono G_94 (fun a j h => ffl (ffr (ffr h))))
        have e_t_94_120_1 := G_94 120 1 (Or.inr rfl)
        unfold g_c_load_L101
        try dsimp +instances only
        refine zO.bind (g_ta_end_sp H_94) (fun r_101 t_101 p_101 => ?_)
        obtain ⟨H_101, G_101, q_101⟩ := p_101
        try dsimp +instances only
        have F_101 := F_94.trans (fr.mono G_101 (fun a j h => ffl (ffr h)))
        exact zO.ret ⟨H_101, F_101, (by omega)⟩
    ·
      try dsimp +instances only
      refine zO.ite (fun c_7 => ?_) (fun c_7 => ?_)
      ·
        try dsimp +instances only
        unfold g_c_load_L69
        try dsimp +instances only
        refine zO.bindp (g_ta_isSound_sp) (fun r_77 p_77 => ?_)
        try dsimp +instances only
        refine zO.ite (fun c_9 => ?_) (fun c_9 => ?_)
        ·
          try dsimp +instances only
          unfold g_c_load_L101
          try dsimp +instances only
          refine zO.bind (g_ta_end_sp H) (fun r_101 t_101 p_101 => ?_)
          obtain ⟨H_101, G_101, q_101⟩ := p_101
          try dsimp +instances only
          have F_101 := F.trans (fr.mono G_101 (fun a j h => ffl (ffr h)))
          exact zO.ret ⟨H_101, F_101, (by omega)⟩
        ·
          try dsimp +instances only
          refine zO.bind (g_ca_admit_sp (by omega) H) (fun r_94 t_94 p_94 => ?_)
          obtain ⟨H_94, G_94, q_94⟩ := p_94
          try dsimp +instances only
          have F_94 := F.trans (fr.mono G_94 (fun a j h => ffl (ffr (ffr h))))
          have e_t_94_120_1 := G_94 120 1 (Or.inr rfl)
          unfold g_c_load_L101
          try dsimp +instances only
          refine zO.bind (g_ta_end_sp H_94) (fun r_101 t_101 p_101 => ?_)
          obtain ⟨H_101, G_101, q_101⟩ := p_101
          try dsimp +instances only
          have F_101 := F_94.trans (fr.mono G_101 (fun a j h => ffl (ffr h)))
          exact zO.ret ⟨H_101, F_101, (by omega)⟩
      ·
        try dsimp +instances only
        refine zO.bind (g_ta_plainBox_sp H) (fun r_37 t_37 p_37 => ?_)
        obtain ⟨H_37, G_37, q_37⟩ := p_37
        try dsimp +instances only
        have F_37 := F.trans (fr.mono G_37 (fun a j h => ffl (ffr (ffr (ffr h)))))
        have e_t_37_120_1 := G_37 120 1 (Or.inr rfl)
        refine zO.bind (g_bs_add_sp (by omega) H_37) (fun r_40 t_40 p_40 => ?_)
        obtain ⟨H_40, G_40, q_40⟩ := p_40
        try dsimp +instances only
        have F_40 := F_37.trans (fr.mono G_40 (fun a j h => ffl (ffr (ffr (ffr (ffr h))))))
        have e_t_40_120_1 := G_40 120 1 (Or.inr rfl)
        refine zO.ite (fun c_15 => ?_) (fun c_15 => ?_)
        ·
          try dsimp +instances only
          unfold g_c_load_L59
          try dsimp +instances only
          refine zO.bind (g_ta_another_sp H_40) (fun r_59 t_59 p_59 => ?_)
          obtain ⟨H_59, G_59, q_59⟩ := p_59
          try dsimp +instances only
          have F_59 := F_40.trans (fr.mono G_59 (fun a j h => ffl h))
          have e_t_59_120_1 := G_59 120 1 (Or.inr rfl)
          try have ew_17 := w32_id (x := x2 + 1) (by omega) (by omega)
          exact zO.imp (g_c_load_L19_sp n r_59 (w32 (x2 + 1)) t_59 H_59 F_59 (by omega) (by omega)) (fun v s ⟨pa, pb, pc⟩ => ⟨pa, pb, by omega⟩)
        ·
          try dsimp +instances only
          unfold g_c_load_L59
          try dsimp +instances only
          refine zO.bind (g_ta_another_sp H_40) (fun r_59 t_59 p_59 => ?_)
          obtain ⟨H_59, G_59, q_59⟩ := p_59
          try dsimp +instances only
          have F_59 := F_40.trans (fr.mono G_59 (fun a j h => ffl h))
          have e_t_59_120_1 := G_59 120 1 (Or.inr rfl)
          try have ew_19 := w32_id (x := x2 + 1) (by omega) (by omega)
          exact zO.imp (g_c_load_L19_sp n r_59 (w32 (x2 + 1)) t_59 H_59 F_59 (by omega) (by omega)) (fun v s ⟨pa, pb, pc⟩ => ⟨pa, pb, by omega⟩)
theorem g_c_load_sp {σ : zS} (H : CI σ) : zO (g_c_load σ) (fun v s => CI s ∧ fr (fw_c_load) σ s ∧ (s 120 1 = 0)) := by
  have F : fr (fw_c_load) σ σ := fr.refl σ
  have ri_120_1 := CI.ct H
  unfold g_c_load
  try dsimp +instances only
  refine zO.bind (g_ta_begin_sp H) (fun r_4 t_4 p_4 => ?_)
  obtain ⟨H_4, G_4, q_4⟩ := p_4
  try dsimp +instances only
  have F_4 := F.trans (fr.mono G_4 (fun a j h => ffl (ffr (ffr (ffr (ffr (ffr h)))))))
  have e_t_4_120_1 := G_4 120 1 (Or.inr rfl)
  generalize hs_s_12 : zu t_4 126 1 0 = s_12
  have H_12 : CI s_12 := by rw [← hs_s_12]; exact CI_zuy H_4 (by omega) (by omega) (lo := 0) (hi := 181) rfl (by omega) (by omega)
  have F_12 : fr (fw_c_load) σ s_12 := by rw [← hs_s_12]; exact fr.zu F_4 (by omega) (br (br (br (br (br (br (bl (zbb _ _))))))))
  have e_s_12_120_1 : s_12 120 1 = t_4 120 1 := by rw [← hs_s_12]; exact zu_c (by omega)
  exact zO.imp (g_c_load_L19_sp zK 1 1 s_12 H_12 F_12 (by omega) (by show _ < (1000000 : Int); omega)) (fun v s ⟨pa, pb, pc⟩ => ⟨pa, pb, by omega⟩)
def fw_c_explainMissing (a : Nat) (j : Int) : Bool := (fw_page a j) || ((fw_c_spellBox a j) || ((fw_page a j) || ((fw_page a j) || ((fw_ca_missingOf 48 a j) || false))))
set_option maxHeartbeats 4000000 in
theorem g_c_explainMissing_L17_sp {σ0 : zS} : ∀ (n : Nat) (x3 : Int) (x4 : Int) (σ : zS), CI σ → fr (fw_c_explainMissing) σ0 σ → (0 ≤ x4 ∧ x4 ≤ 181 ∧ σ 129 3 ≤ 12000 + 65 * x4 ∧ -2147483648 ≤ x3 ∧ x3 ≤ 2147483647) → (181 - x4) < (n : Int) → zO (g_c_explainMissing_L17 n x3 x4 σ) (fun v s => CI s ∧ fr (fw_c_explainMissing) σ0 s ∧ (s 129 3 ≤ 24000 ∧ -2147483648 ≤ v ∧ v ≤ 2147483647))
  | 0, _, _, σ, _, _, hi, hm => by exfalso; omega
  | n + 1, x3, x4, σ, H, F, hi, hm => by
    unfold g_c_explainMissing_L17
    try dsimp +instances only
    generalize hv_v_20 : σ 56 1 = v_20
    have rv_v_20 := CI.c1 (a := 56) H (by omega)
    rw [hv_v_20] at rv_v_20
    refine zO.ite (fun c_1 => ?_) (fun c_1 => ?_)
    ·
      try dsimp +instances only
      exact zO.ret ⟨H, F, (by omega)⟩
    ·
      try dsimp +instances only
      refine zO.bindp (g_bs_at_sp (by omega) H) (fun r_36 p_36 => ?_)
      try dsimp +instances only
      refine zO.bindp (g_ca_costOf_sp (by omega)) (fun r_39 p_39 => ?_)
      try dsimp +instances only
      refine zO.bind (g_jStringBuilder_append_302_sp (by decide) H (by omega)) (fun r_51 t_51 p_51 => ?_)
      obtain ⟨H_51, G_51, q_51⟩ := p_51
      try dsimp +instances only
      have F_51 := F.trans (fr.mono G_51 (fun a j h => ffl h))
      refine zO.bindp (g_bs_at_sp (by omega) H_51) (fun r_59 p_59 => ?_)
      try dsimp +instances only
      refine zO.bind (g_c_spellBox_sp H_51 (by omega)) (fun r_62 t_62 p_62 => ?_)
      obtain ⟨H_62, G_62, q_62⟩ := p_62
      try dsimp +instances only
      have F_62 := F_51.trans (fr.mono G_62 (fun a j h => ffl (ffr h)))
      refine zO.bind (g_jStringBuilder_append_303_sp H_62 (by omega)) (fun r_71 t_71 p_71 => ?_)
      obtain ⟨H_71, G_71, q_71⟩ := p_71
      try dsimp +instances only
      have F_71 := F_62.trans (fr.mono G_71 (fun a j h => ffl (ffr (ffr h))))
      refine zO.bind (g_jStringBuilder_append_304_sp H_71 (by omega)) (fun r_76 t_76 p_76 => ?_)
      obtain ⟨H_76, G_76, q_76⟩ := p_76
      try dsimp +instances only
      have F_76 := F_71.trans (fr.mono G_76 (fun a j h => ffl (ffr (ffr (ffr h)))))
      refine zO.bind (g_jStringBuilder_append_303_sp H_76 (by omega)) (fun r_81 t_81 p_81 => ?_)
      obtain ⟨H_81, G_81, q_81⟩ := p_81
      try dsimp +instances only
      have F_81 := F_76.trans (fr.mono G_81 (fun a j h => ffl (ffr (ffr h))))
      try have ew_10 := w32_id (x := x4 + 1) (by omega) (by omega)
      try have ew_11 := w32_id (x := x3 + r_39) (by omega) (by omega)
      have bw_12 := w32_bd (x3 + r_39)
      have bw_13 := w32_bd (x4 + 1)
      exact zO.imp (g_c_explainMissing_L17_sp n (w32 (x3 + r_39)) (w32 (x4 + 1)) t_81 H_81 F_81 (by omega) (by omega)) (fun v s ⟨pa, pb, pc⟩ => ⟨pa, pb, by omega⟩)
theorem g_c_explainMissing_sp {x1 : Int} {σ : zS} (H : CI σ) (hp : σ 129 3 ≤ 12000) : zO (g_c_explainMissing x1 σ) (fun v s => CI s ∧ fr (fw_c_explainMissing) σ s ∧ (s 129 3 ≤ 24000 ∧ -2147483648 ≤ v ∧ v ≤ 2147483647)) := by
  have F : fr (fw_c_explainMissing) σ σ := fr.refl σ
  unfold g_c_explainMissing
  try dsimp +instances only
  refine zO.bind (g_ca_missingOf_sp (by omega) H) (fun r_8 t_8 p_8 => ?_)
  obtain ⟨H_8, G_8, q_8⟩ := p_8
  try dsimp +instances only
  have F_8 := F.trans (fr.mono G_8 (fun a j h => ffl (ffr (ffr (ffr (ffr h))))))
  have e_t_8_129_3 := G_8 129 3 (Or.inr rfl)
  exact zO.imp (g_c_explainMissing_L17_sp zK 0 0 t_8 H_8 F_8 (by omega) (by show _ < (1000000 : Int); omega)) (fun v s ⟨pa, pb, pc⟩ => ⟨pa, pb, by omega⟩)
def fw_c_explain (a : Nat) (j : Int) : Bool := (fw_c_explainMissing a j) || ((fw_page a j) || ((fw_page a j) || ((fw_page a j) || ((fw_page a j) || ((fw_c_spellBox a j) || ((fw_page a j) || false))))))
set_option maxHeartbeats 4000000 in
theorem g_c_explain_L35_sp {σ0 : zS} : ∀ (n : Nat) (x5 : Int) (x6 : Int) (σ : zS), CI σ → fr (fw_c_explain) σ0 σ → (0 ≤ x6 ∧ x6 ≤ 181 ∧ σ 129 3 ≤ 66 * x6) → (181 - x6) < (n : Int) → zO (g_c_explain_L35 n x5 x6 σ) (fun v s => CI s ∧ fr (fw_c_explain) σ0 s ∧ (True))
  | 0, _, _, σ, _, _, hi, hm => by exfalso; omega
  | n + 1, x5, x6, σ, H, F, hi, hm => by
    unfold g_c_explain_L35
    try dsimp +instances only
    generalize hv_v_44 : σ 48 2 = v_44
    have rv_v_44 := CI.c2 (a := 48) H (by omega)
    rw [hv_v_44] at rv_v_44
    refine zO.ite (fun c_1 => ?_) (fun c_1 => ?_)
    ·
      try dsimp +instances only
      refine zO.bind (g_c_explainMissing_sp H (by omega)) (fun r_144 t_144 p_144 => ?_)
      obtain ⟨H_144, G_144, q_144⟩ := p_144
      try dsimp +instances only
      have F_144 := F.trans (fr.mono G_144 (fun a j h => ffl h))
      refine zO.bind (g_jStringBuilder_append_302_sp (by decide) H_144 (by omega)) (fun r_156 t_156 p_156 => ?_)
      obtain ⟨H_156, G_156, q_156⟩ := p_156
      try dsimp +instances only
      have F_156 := F_144.trans (fr.mono G_156 (fun a j h => ffl (ffr h)))
      refine zO.bind (g_jStringBuilder_append_304_sp H_156 (by omega)) (fun r_161 t_161 p_161 => ?_)
      obtain ⟨H_161, G_161, q_161⟩ := p_161
      try dsimp +instances only
      have F_161 := F_156.trans (fr.mono G_161 (fun a j h => ffl (ffr (ffr h))))
      refine zO.bindp (g_jStringBuilder_length_sp H_161) (fun r_169 p_169 => ?_)
      try dsimp +instances only
      exact zO.ret ⟨H_161, F_161, trivial⟩
    ·
      try dsimp +instances only
      refine zO.gd (by omega) ?_
      try dsimp +instances only
      generalize hv_v_62 : σ 52 x6 = v_62
      refine zO.bindp (g_b_meet_sp) (fun r_65 p_65 => ?_)
      try dsimp +instances only
      refine zO.ite (fun c_7 => ?_) (fun c_7 => ?_)
      ·
        try dsimp +instances only
        unfold g_c_explain_L135
        try dsimp +instances only
        try have ew_8 := w32_id (x := x6 + 1) (by omega) (by omega)
        exact g_c_explain_L35_sp n x5 (w32 (x6 + 1)) σ H F (by omega) (by omega)
      ·
        try dsimp +instances only
        refine zO.bind (g_jStringBuilder_append_302_sp (by decide) H (by omega)) (fun r_78 t_78 p_78 => ?_)
        obtain ⟨H_78, G_78, q_78⟩ := p_78
        try dsimp +instances only
        have F_78 := F.trans (fr.mono G_78 (fun a j h => ffl (ffr (ffr (ffr h)))))
        refine zO.gd (by omega) ?_
        try dsimp +instances only
        generalize hv_v_93 : t_78 51 x6 = v_93
        have rv_v_93 := CI.cy (a := 51) (j := x6) H_78 (by omega)
        rw [hv_v_93] at rv_v_93
        refine zO.bind (g_jStringBuilder_append_304_sp H_78 (by omega)) (fun r_94 t_94 p_94 => ?_)
        obtain ⟨H_94, G_94, q_94⟩ := p_94
        try dsimp +instances only
        have F_94 := F_78.trans (fr.mono G_94 (fun a j h => ffl (ffr (ffr h))))
        refine zO.bind (g_jStringBuilder_append_303_sp H_94 (by omega)) (fun r_99 t_99 p_99 => ?_)
        obtain ⟨H_99, G_99, q_99⟩ := p_99
        try dsimp +instances only
        have F_99 := F_94.trans (fr.mono G_99 (fun a j h => ffl (ffr (ffr (ffr (ffr h))))))
        refine zO.gd (by omega) ?_
        try dsimp +instances only
        generalize hv_v_116 : t_99 52 x6 = v_116
        refine zO.bindp (g_b_common_sp) (fun r_119 p_119 => ?_)
        try dsimp +instances only
        refine zO.bind (g_c_spellBox_sp H_99 (by omega)) (fun r_122 t_122 p_122 => ?_)
        obtain ⟨H_122, G_122, q_122⟩ := p_122
        try dsimp +instances only
        have F_122 := F_99.trans (fr.mono G_122 (fun a j h => ffl (ffr (ffr (ffr (ffr (ffr h)))))))
        refine zO.bind (g_jStringBuilder_append_303_sp H_122 (by omega)) (fun r_131 t_131 p_131 => ?_)
        obtain ⟨H_131, G_131, q_131⟩ := p_131
        try dsimp +instances only
        have F_131 := F_122.trans (fr.mono G_131 (fun a j h => ffl (ffr (ffr (ffr (ffr h))))))
        unfold g_c_explain_L135
        try dsimp +instances only
        try have ew_15 := w32_id (x := x6 + 1) (by omega) (by omega)
        exact g_c_explain_L35_sp n x5 (w32 (x6 + 1)) t_131 H_131 F_131 (by omega) (by omega)
theorem g_c_explain_sp {x1 : Int} {x2 : Int} {x3 : Int} {x4 : Int} {σ : zS} (H : CI σ) : zO (g_c_explain x1 x2 x3 x4 σ) (fun v s => CI s ∧ fr (fw_c_explain) σ s ∧ (True)) := by
  have F : fr (fw_c_explain) σ σ := fr.refl σ
  unfold g_c_explain
  try dsimp +instances only
  refine zO.bindp (g_b_isBox_sp) (fun r_5 p_5 => ?_)
  try dsimp +instances only
  refine zO.ite (fun c_17 => ?_) (fun c_17 => ?_)
  ·
    try dsimp +instances only
    refine zO.bindp (g_b_of_sp) (fun r_19 p_19 => ?_)
    try dsimp +instances only
    refine zO.bind (g_jStringBuilder_setLength_sp H (by omega)) (fun r_29 t_29 p_29 => ?_)
    obtain ⟨H_29, G_29, q_29⟩ := p_29
    try dsimp +instances only
    have F_29 := F.trans (fr.mono G_29 (fun a j h => ffl (ffr (ffr (ffr (ffr (ffr (ffr h))))))))
    exact g_c_explain_L35_sp zK r_19 0 t_29 H_29 F_29 (by omega) (by show _ < (1000000 : Int); omega)
  ·
    try dsimp +instances only
    exact zO.ret ⟨H, F, trivial⟩
theorem g_c_paper_sp {x1 : Int} {σ : zS} (H : CI σ) : zOp (g_c_paper x1 σ) σ (fun v => True) := by
  unfold g_c_paper
  try dsimp +instances only
  refine zOp.ite (fun c_1 => ?_) (fun c_1 => ?_)
  ·
    try dsimp +instances only
    exact zOp.ret trivial
  ·
    try dsimp +instances only
    refine zOp.bindp (g_jStringBuilder_length_sp H) (fun r_9 p_9 => ?_)
    try dsimp +instances only
    refine zOp.ite (fun c_3 => ?_) (fun c_3 => ?_)
    ·
      try dsimp +instances only
      exact zOp.ret trivial
    ·
      try dsimp +instances only
      refine zOp.bindp (g_jStringBuilder_charAt_sp H (by omega)) (fun r_20 p_20 => ?_)
      try dsimp +instances only
      exact zOp.ret trivial
def fw_c_query (a : Nat) (j : Int) : Bool := (fw_c_done a j) || false
theorem g_c_query_sp {x1 : Int} {x2 : Int} {x3 : Int} {x4 : Int} {x5 : Int} {σ : zS} (H : CI σ) : zO (g_c_query x1 x2 x3 x4 x5 σ) (fun v s => CI s ∧ fr (fw_c_query) σ s ∧ (True)) := by
  have F : fr (fw_c_query) σ σ := fr.refl σ
  unfold g_c_query
  try dsimp +instances only
  refine zO.bindp (g_fi_isMeasure_sp) (fun r_1 p_1 => ?_)
  try dsimp +instances only
  refine zO.ite (fun c_2 => ?_) (fun c_2 => ?_)
  ·
    try dsimp +instances only
    exact zO.ret ⟨H, F, trivial⟩
  ·
    try dsimp +instances only
    refine zO.bindp (g_b_isBox_sp) (fun r_13 p_13 => ?_)
    try dsimp +instances only
    refine zO.ite (fun c_4 => ?_) (fun c_4 => ?_)
    ·
      try dsimp +instances only
      refine zO.bindp (g_b_of_sp) (fun r_31 p_31 => ?_)
      try dsimp +instances only
      refine zO.bind (g_c_done_sp H) (fun r_37 t_37 p_37 => ?_)
      obtain ⟨H_37, G_37, q_37⟩ := p_37
      try dsimp +instances only
      have F_37 := F.trans (fr.mono G_37 (fun a j h => ffl h))
      exact zO.ret ⟨H_37, F_37, trivial⟩
    ·
      try dsimp +instances only
      exact zO.ret ⟨H, F, trivial⟩
theorem g_c_find_sp {x1 : Int} {σ : zS} (H : CI σ) : zOp (g_c_find x1 σ) σ (fun v => True) := by
  unfold g_c_find
  try dsimp +instances only
  refine zOp.ite (fun c_1 => ?_) (fun c_1 => ?_)
  ·
    try dsimp +instances only
    refine zOp.ite (fun c_2 => ?_) (fun c_2 => ?_)
    ·
      try dsimp +instances only
      exact zOp.ret trivial
    ·
      try dsimp +instances only
      generalize hv_v_28 : σ 60 2 = v_28
      have rv_v_28 := CI.cf (a := 60) H (by omega)
      rw [hv_v_28] at rv_v_28
      refine zOp.ite (fun c_3 => ?_) (fun c_3 => ?_)
      ·
        try dsimp +instances only
        exact zOp.ret trivial
      ·
        try dsimp +instances only
        refine zOp.gd (by omega) ?_
        try dsimp +instances only
        generalize hv_v_45 : σ 61 x1 = v_45
        exact zOp.ret trivial
  ·
    try dsimp +instances only
    generalize hv_v_12 : σ 60 2 = v_12
    have rv_v_12 := CI.cf (a := 60) H (by omega)
    rw [hv_v_12] at rv_v_12
    exact zOp.ret trivial
def fw_c_addPiece (a : Nat) (j : Int) : Bool := (fw_bs_add 131 a j) || ((a == 133) || false)
theorem g_c_addPiece_sp {x1 : Int} {x2 : Int} {σ : zS} (H : CI σ) : zO (g_c_addPiece x1 x2 σ) (fun v s => CI s ∧ fr (fw_c_addPiece) σ s ∧ (True)) := by
  have F : fr (fw_c_addPiece) σ σ := fr.refl σ
  unfold g_c_addPiece
  try dsimp +instances only
  generalize hv_v_4 : σ 131 1 = v_4
  have rv_v_4 := CI.c1 (a := 131) H (by omega)
  rw [hv_v_4] at rv_v_4
  refine zO.ite (fun c_1 => ?_) (fun c_1 => ?_)
  ·
    try dsimp +instances only
    unfold g_c_addPiece_L28
    try dsimp +instances only
    refine zO.bind (g_bs_add_sp (by omega) H) (fun r_33 t_33 p_33 => ?_)
    obtain ⟨H_33, G_33, q_33⟩ := p_33
    try dsimp +instances only
    have F_33 := F.trans (fr.mono G_33 (fun a j h => ffl h))
    exact zO.ret ⟨H_33, F_33, trivial⟩
  ·
    try dsimp +instances only
    refine zO.gd (by omega) ?_
    try dsimp +instances only
    generalize hs_s_27 : zu σ 133 v_4 x2 = s_27
    have H_27 : CI s_27 := by rw [← hs_s_27]; exact CI_zun H (by omega) (by omega) rfl
    have F_27 : fr (fw_c_addPiece) σ s_27 := by rw [← hs_s_27]; exact fr.zu F (by omega) (br (bl (beq_self_eq_true _)))
    unfold g_c_addPiece_L28
    try dsimp +instances only
    refine zO.bind (g_bs_add_sp (by omega) H_27) (fun r_33 t_33 p_33 => ?_)
    obtain ⟨H_33, G_33, q_33⟩ := p_33
    try dsimp +instances only
    have F_33 := F_27.trans (fr.mono G_33 (fun a j h => ffl h))
    exact zO.ret ⟨H_33, F_33, trivial⟩
def fw_c_probe (a : Nat) (j : Int) : Bool := (fw_c_addPiece a j) || ((fw_ca_missingOf 48 a j) || (((a == 131 && j == 1)) || false))
set_option maxHeartbeats 4000000 in
theorem g_c_probe_L129_sp {σ0 : zS} : ∀ (n : Nat) (x7 : Int) (σ : zS), CI σ → fr (fw_c_probe) σ0 σ → (0 ≤ x7 ∧ x7 ≤ 181) → (181 - x7) < (n : Int) → zO (g_c_probe_L129 n x7 σ) (fun v s => CI s ∧ fr (fw_c_probe) σ0 s ∧ (True))
  | 0, _, σ, _, _, hi, hm => by exfalso; omega
  | n + 1, x7, σ, H, F, hi, hm => by
    unfold g_c_probe_L129
    try dsimp +instances only
    generalize hv_v_133 : σ 56 1 = v_133
    have rv_v_133 := CI.c1 (a := 56) H (by omega)
    rw [hv_v_133] at rv_v_133
    refine zO.ite (fun c_1 => ?_) (fun c_1 => ?_)
    ·
      try dsimp +instances only
      generalize hv_v_162 : σ 131 1 = v_162
      have rv_v_162 := CI.c1 (a := 131) H (by omega)
      rw [hv_v_162] at rv_v_162
      exact zO.ret ⟨H, F, trivial⟩
    ·
      try dsimp +instances only
      refine zO.bindp (g_bs_at_sp (by omega) H) (fun r_144 p_144 => ?_)
      try dsimp +instances only
      refine zO.bind (g_c_addPiece_sp H) (fun r_149 t_149 p_149 => ?_)
      obtain ⟨H_149, G_149, q_149⟩ := p_149
      try dsimp +instances only
      have F_149 := F.trans (fr.mono G_149 (fun a j h => ffl h))
      try have ew_4 := w32_id (x := x7 + 1) (by omega) (by omega)
      exact g_c_probe_L129_sp n (w32 (x7 + 1)) t_149 H_149 F_149 (by omega) (by omega)
set_option maxHeartbeats 4000000 in
theorem g_c_probe_L35_sp {σ0 : zS} : ∀ (n : Nat) (x5 : Int) (x6 : Int) (σ : zS), CI σ → fr (fw_c_probe) σ0 σ → (0 ≤ x6 ∧ x6 ≤ 181) → (181 - x6) < (n : Int) → zO (g_c_probe_L35 n x5 x6 σ) (fun v s => CI s ∧ fr (fw_c_probe) σ0 s ∧ (True))
  | 0, _, _, σ, _, _, hi, hm => by exfalso; omega
  | n + 1, x5, x6, σ, H, F, hi, hm => by
    unfold g_c_probe_L35
    try dsimp +instances only
    generalize hv_v_44 : σ 48 2 = v_44
    have rv_v_44 := CI.c2 (a := 48) H (by omega)
    rw [hv_v_44] at rv_v_44
    refine zO.ite (fun c_5 => ?_) (fun c_5 => ?_)
    ·
      try dsimp +instances only
      refine zO.bind (g_ca_missingOf_sp (by omega) H) (fun r_121 t_121 p_121 => ?_)
      obtain ⟨H_121, G_121, q_121⟩ := p_121
      try dsimp +instances only
      have F_121 := F.trans (fr.mono G_121 (fun a j h => ffl (ffr h)))
      exact g_c_probe_L129_sp zK 0 t_121 H_121 F_121 (by omega) (by show _ < (1000000 : Int); omega)
    ·
      try dsimp +instances only
      refine zO.gd (by omega) ?_
      try dsimp +instances only
      generalize hv_v_62 : σ 52 x6 = v_62
      refine zO.bindp (g_b_meet_sp) (fun r_65 p_65 => ?_)
      try dsimp +instances only
      refine zO.ite (fun c_8 => ?_) (fun c_8 => ?_)
      ·
        try dsimp +instances only
        unfold g_c_probe_L106
        try dsimp +instances only
        try have ew_9 := w32_id (x := x6 + 1) (by omega) (by omega)
        exact g_c_probe_L35_sp n x5 (w32 (x6 + 1)) σ H F (by omega) (by omega)
      ·
        try dsimp +instances only
        refine zO.gd (by omega) ?_
        try dsimp +instances only
        generalize hv_v_84 : σ 52 x6 = v_84
        refine zO.bindp (g_b_common_sp) (fun r_87 p_87 => ?_)
        try dsimp +instances only
        refine zO.gd (by omega) ?_
        try dsimp +instances only
        generalize hv_v_102 : σ 51 x6 = v_102
        have rv_v_102 := CI.cy (a := 51) (j := x6) H (by omega)
        rw [hv_v_102] at rv_v_102
        refine zO.bind (g_c_addPiece_sp H) (fun r_103 t_103 p_103 => ?_)
        obtain ⟨H_103, G_103, q_103⟩ := p_103
        try dsimp +instances only
        have F_103 := F.trans (fr.mono G_103 (fun a j h => ffl h))
        unfold g_c_probe_L106
        try dsimp +instances only
        try have ew_12 := w32_id (x := x6 + 1) (by omega) (by omega)
        exact g_c_probe_L35_sp n x5 (w32 (x6 + 1)) t_103 H_103 F_103 (by omega) (by omega)
theorem g_c_probe_sp {x1 : Int} {x2 : Int} {x3 : Int} {x4 : Int} {σ : zS} (H : CI σ) : zO (g_c_probe x1 x2 x3 x4 σ) (fun v s => CI s ∧ fr (fw_c_probe) σ s ∧ (True)) := by
  have F : fr (fw_c_probe) σ σ := fr.refl σ
  unfold g_c_probe
  try dsimp +instances only
  refine zO.bindp (g_b_isBox_sp) (fun r_5 p_5 => ?_)
  try dsimp +instances only
  refine zO.ite (fun c_14 => ?_) (fun c_14 => ?_)
  ·
    try dsimp +instances only
    refine zO.bindp (g_b_of_sp) (fun r_19 p_19 => ?_)
    try dsimp +instances only
    generalize hs_s_29 : zu σ 131 1 0 = s_29
    have H_29 : CI s_29 := by rw [← hs_s_29]; exact CI_zuy H (by omega) (by omega) (lo := 0) (hi := 181) rfl (by omega) (by omega)
    have F_29 : fr (fw_c_probe) σ s_29 := by rw [← hs_s_29]; exact fr.zu F (by omega) (br (br (bl (zbb _ _))))
    exact g_c_probe_L35_sp zK r_19 0 s_29 H_29 F_29 (by omega) (by show _ < (1000000 : Int); omega)
  ·
    try dsimp +instances only
    exact zO.ret ⟨H, F, trivial⟩
theorem g_c_piece_sp {x1 : Int} {x2 : Int} {σ : zS} (H : CI σ) : zOp (g_c_piece x1 x2 σ) σ (fun v => True) := by
  unfold g_c_piece
  try dsimp +instances only
  refine zOp.ite (fun c_1 => ?_) (fun c_1 => ?_)
  ·
    try dsimp +instances only
    exact zOp.ret trivial
  ·
    try dsimp +instances only
    generalize hv_v_9 : σ 131 1 = v_9
    have rv_v_9 := CI.c1 (a := 131) H (by omega)
    rw [hv_v_9] at rv_v_9
    refine zOp.ite (fun c_2 => ?_) (fun c_2 => ?_)
    ·
      try dsimp +instances only
      exact zOp.ret trivial
    ·
      try dsimp +instances only
      refine zOp.ite (fun c_3 => ?_) (fun c_3 => ?_)
      ·
        try dsimp +instances only
        exact zOp.ret trivial
      ·
        try dsimp +instances only
        refine zOp.ite (fun c_4 => ?_) (fun c_4 => ?_)
        ·
          try dsimp +instances only
          refine zOp.ite (fun c_5 => ?_) (fun c_5 => ?_)
          ·
            try dsimp +instances only
            refine zOp.gd (by omega) ?_
            try dsimp +instances only
            generalize hv_v_51 : σ 133 x1 = v_51
            exact zOp.ret trivial
          ·
            try dsimp +instances only
            refine zOp.bindp (g_bs_at_sp (by omega) H) (fun r_36 p_36 => ?_)
            try dsimp +instances only
            refine zOp.bindp (g_b_side_sp) (fun r_40 p_40 => ?_)
            try dsimp +instances only
            exact zOp.ret trivial
        ·
          try dsimp +instances only
          exact zOp.ret trivial
theorem g_c_region_sp {x1 : Int} {x2 : Int} {σ : zS} (H : CI σ) : zOp (g_c_region x1 x2 σ) σ (fun v => True) := by
  unfold g_c_region
  try dsimp +instances only
  refine zOp.ite (fun c_1 => ?_) (fun c_1 => ?_)
  ·
    try dsimp +instances only
    exact zOp.ret trivial
  ·
    try dsimp +instances only
    generalize hv_v_14 : σ 48 2 = v_14
    have rv_v_14 := CI.c2 (a := 48) H (by omega)
    rw [hv_v_14] at rv_v_14
    refine zOp.ite (fun c_2 => ?_) (fun c_2 => ?_)
    ·
      try dsimp +instances only
      exact zOp.ret trivial
    ·
      try dsimp +instances only
      refine zOp.ite (fun c_3 => ?_) (fun c_3 => ?_)
      ·
        try dsimp +instances only
        exact zOp.ret trivial
      ·
        try dsimp +instances only
        refine zOp.ite (fun c_4 => ?_) (fun c_4 => ?_)
        ·
          try dsimp +instances only
          refine zOp.ite (fun c_5 => ?_) (fun c_5 => ?_)
          ·
            try dsimp +instances only
            refine zOp.ite (fun c_6 => ?_) (fun c_6 => ?_)
            ·
              try dsimp +instances only
              refine zOp.ite (fun c_7 => ?_) (fun c_7 => ?_)
              ·
                try dsimp +instances only
                refine zOp.ite (fun c_8 => ?_) (fun c_8 => ?_)
                ·
                  try dsimp +instances only
                  refine zOp.ite (fun c_9 => ?_) (fun c_9 => ?_)
                  ·
                    try dsimp +instances only
                    refine zOp.gd (by omega) ?_
                    try dsimp +instances only
                    generalize hv_v_132 : σ 52 x1 = v_132
                    refine zOp.bindp (g_ca_costOf_sp (by omega)) (fun r_133 p_133 => ?_)
                    try dsimp +instances only
                    exact zOp.ret trivial
                  ·
                    try dsimp +instances only
                    refine zOp.gd (by omega) ?_
                    try dsimp +instances only
                    generalize hv_v_119 : σ 52 x1 = v_119
                    refine zOp.bindp (g_ca_sizeOf_sp (by omega)) (fun r_120 p_120 => ?_)
                    try dsimp +instances only
                    exact zOp.ret trivial
                ·
                  try dsimp +instances only
                  refine zOp.gd (by omega) ?_
                  try dsimp +instances only
                  generalize hv_v_83 : σ 54 x1 = v_83
                  refine zOp.ite (fun c_12 => ?_) (fun c_12 => ?_)
                  ·
                    try dsimp +instances only
                    refine zOp.gd (by omega) ?_
                    try dsimp +instances only
                    try have ew_13 := w32_id (x := x2 - 6) (by omega) (by omega)
                    refine zOp.bindp (g_b_side_sp) (fun r_103 p_103 => ?_)
                    try dsimp +instances only
                    exact zOp.ret trivial
                  ·
                    try dsimp +instances only
                    exact zOp.ret trivial
              ·
                try dsimp +instances only
                refine zOp.gd (by omega) ?_
                try dsimp +instances only
                generalize hv_v_70 : σ 53 x1 = v_70
                exact zOp.ret trivial
            ·
              try dsimp +instances only
              refine zOp.gd (by omega) ?_
              try dsimp +instances only
              generalize hv_v_58 : σ 51 x1 = v_58
              have rv_v_58 := CI.cy (a := 51) (j := x1) H (by omega)
              rw [hv_v_58] at rv_v_58
              exact zOp.ret trivial
          ·
            try dsimp +instances only
            refine zOp.gd (by omega) ?_
            try dsimp +instances only
            generalize hv_v_42 : σ 52 x1 = v_42
            refine zOp.bindp (g_b_side_sp) (fun r_44 p_44 => ?_)
            try dsimp +instances only
            exact zOp.ret trivial
        ·
          try dsimp +instances only
          exact zOp.ret trivial
theorem g_c_weight_sp {x1 : Int} {σ : zS} (H : CI σ) : zOp (g_c_weight x1 σ) σ (fun v => True) := by
  unfold g_c_weight
  try dsimp +instances only
  refine zOp.ite (fun c_1 => ?_) (fun c_1 => ?_)
  ·
    try dsimp +instances only
    exact zOp.ret trivial
  ·
    try dsimp +instances only
    generalize hv_v_12 : σ 48 2 = v_12
    have rv_v_12 := CI.c2 (a := 48) H (by omega)
    rw [hv_v_12] at rv_v_12
    refine zOp.ite (fun c_2 => ?_) (fun c_2 => ?_)
    ·
      try dsimp +instances only
      exact zOp.ret trivial
    ·
      try dsimp +instances only
      refine zOp.gd (by omega) ?_
      try dsimp +instances only
      generalize hv_v_29 : σ 55 x1 = v_29
      exact zOp.ret trivial
theorem g_c_told_sp {x1 : Int} {σ : zS} (H : CI σ) : zOp (g_c_told x1 σ) σ (fun v => True) := by
  unfold g_c_told
  try dsimp +instances only
  refine zOp.ite (fun c_1 => ?_) (fun c_1 => ?_)
  ·
    try dsimp +instances only
    generalize hv_v_67 : σ 48 2 = v_67
    have rv_v_67 := CI.c2 (a := 48) H (by omega)
    rw [hv_v_67] at rv_v_67
    exact zOp.ret trivial
  ·
    try dsimp +instances only
    refine zOp.ite (fun c_2 => ?_) (fun c_2 => ?_)
    ·
      try dsimp +instances only
      refine zOp.bindp (g_ca_sizes_sp (by omega) H) (fun r_79 p_79 => ?_)
      try dsimp +instances only
      exact zOp.ret trivial
    ·
      try dsimp +instances only
      refine zOp.ite (fun c_4 => ?_) (fun c_4 => ?_)
      ·
        try dsimp +instances only
        generalize hv_v_91 : σ 48 10 = v_91
        exact zOp.ret trivial
      ·
        try dsimp +instances only
        refine zOp.ite (fun c_5 => ?_) (fun c_5 => ?_)
        ·
          try dsimp +instances only
          generalize hv_v_103 : σ 48 11 = v_103
          exact zOp.ret trivial
        ·
          try dsimp +instances only
          refine zOp.ite (fun c_6 => ?_) (fun c_6 => ?_)
          ·
            try dsimp +instances only
            generalize hv_v_115 : σ 48 12 = v_115
            exact zOp.ret trivial
          ·
            try dsimp +instances only
            refine zOp.ite (fun c_7 => ?_) (fun c_7 => ?_)
            ·
              try dsimp +instances only
              generalize hv_v_127 : σ 48 13 = v_127
              exact zOp.ret trivial
            ·
              try dsimp +instances only
              refine zOp.ite (fun c_8 => ?_) (fun c_8 => ?_)
              ·
                try dsimp +instances only
                generalize hv_v_139 : σ 48 14 = v_139
                exact zOp.ret trivial
              ·
                try dsimp +instances only
                refine zOp.ite (fun c_9 => ?_) (fun c_9 => ?_)
                ·
                  try dsimp +instances only
                  generalize hv_v_151 : σ 48 15 = v_151
                  exact zOp.ret trivial
                ·
                  try dsimp +instances only
                  refine zOp.ite (fun c_10 => ?_) (fun c_10 => ?_)
                  ·
                    try dsimp +instances only
                    generalize hv_v_163 : σ 48 9 = v_163
                    exact zOp.ret trivial
                  ·
                    try dsimp +instances only
                    refine zOp.ite (fun c_11 => ?_) (fun c_11 => ?_)
                    ·
                      try dsimp +instances only
                      generalize hv_v_174 : σ 41 4 = v_174
                      have rv_v_174 := CI.c4 (a := 41) H (by omega)
                      rw [hv_v_174] at rv_v_174
                      exact zOp.ret trivial
                    ·
                      try dsimp +instances only
                      refine zOp.ite (fun c_12 => ?_) (fun c_12 => ?_)
                      ·
                        try dsimp +instances only
                        refine zOp.bindp (g_jStringBuilder_length_sp H) (fun r_183 p_183 => ?_)
                        try dsimp +instances only
                        exact zOp.ret trivial
                      ·
                        try dsimp +instances only
                        exact zOp.ret trivial
def fw_c_flush (a : Nat) (j : Int) : Bool := ((a == 48 && j == 2)) || false
theorem g_c_flush_sp {σ : zS} (H : CI σ) : zO (g_c_flush σ) (fun v s => CI s ∧ fr (fw_c_flush) σ s ∧ (True)) := by
  have F : fr (fw_c_flush) σ σ := fr.refl σ
  unfold g_c_flush
  try dsimp +instances only
  generalize hv_v_7 : σ 48 2 = v_7
  have rv_v_7 := CI.c2 (a := 48) H (by omega)
  rw [hv_v_7] at rv_v_7
  generalize hs_s_19 : zu σ 48 2 0 = s_19
  have H_19 : CI s_19 := by rw [← hs_s_19]; exact CI_zuy H (by omega) (by omega) (lo := 0) (hi := 181) rfl (by omega) (by omega)
  have F_19 : fr (fw_c_flush) σ s_19 := by rw [← hs_s_19]; exact fr.zu F (by omega) (bl (zbb _ _))
  exact zO.ret ⟨H_19, F_19, trivial⟩
theorem g_c_keep_sp {x1 : Int} {σ : zS} (H : CI σ) : zOp (g_c_keep x1 σ) σ (fun v => True) := by
  unfold g_c_keep
  try dsimp +instances only
  refine zOp.ite (fun c_1 => ?_) (fun c_1 => ?_)
  ·
    try dsimp +instances only
    refine zOp.bindp (g_ca_bestSet_sp (by omega) H) (fun r_17 p_17 => ?_)
    try dsimp +instances only
    exact zOp.ret trivial
  ·
    try dsimp +instances only
    exact zOp.ret trivial
def fw_c_trace (a : Nat) (j : Int) : Bool := (fw_bs_add 63 a j) || (((a == 63 && j == 1)) || false)
theorem g_c_trace_sp {x1 : Int} {x2 : Int} {x3 : Int} {x4 : Int} {σ : zS} (H : CI σ) : zO (g_c_trace x1 x2 x3 x4 σ) (fun v s => CI s ∧ fr (fw_c_trace) σ s ∧ (True)) := by
  have F : fr (fw_c_trace) σ σ := fr.refl σ
  unfold g_c_trace
  try dsimp +instances only
  refine zO.ite (fun c_1 => ?_) (fun c_1 => ?_)
  ·
    try dsimp +instances only
    refine zO.bindp (g_b_isBox_sp) (fun r_23 p_23 => ?_)
    try dsimp +instances only
    refine zO.ite (fun c_3 => ?_) (fun c_3 => ?_)
    ·
      try dsimp +instances only
      refine zO.bindp (g_b_of_sp) (fun r_44 p_44 => ?_)
      try dsimp +instances only
      refine zO.bind (g_bs_add_sp (by omega) H) (fun r_47 t_47 p_47 => ?_)
      obtain ⟨H_47, G_47, q_47⟩ := p_47
      try dsimp +instances only
      have F_47 := F.trans (fr.mono G_47 (fun a j h => ffl h))
      refine zO.ite (fun c_6 => ?_) (fun c_6 => ?_)
      ·
        try dsimp +instances only
        exact zO.ret ⟨H_47, F_47, trivial⟩
      ·
        try dsimp +instances only
        generalize hv_v_60 : t_47 63 1 = v_60
        have rv_v_60 := CI.c1 (a := 63) H_47 (by omega)
        rw [hv_v_60] at rv_v_60
        exact zO.ret ⟨H_47, F_47, trivial⟩
    ·
      try dsimp +instances only
      exact zO.ret ⟨H, F, trivial⟩
  ·
    try dsimp +instances only
    generalize hs_s_13 : zu σ 63 1 0 = s_13
    have H_13 : CI s_13 := by rw [← hs_s_13]; exact CI_zuy H (by omega) (by omega) (lo := 0) (hi := 181) rfl (by omega) (by omega)
    have F_13 : fr (fw_c_trace) σ s_13 := by rw [← hs_s_13]; exact fr.zu F (by omega) (br (bl (zbb _ _)))
    exact zO.ret ⟨H_13, F_13, trivial⟩
def fw_c_doAgain (a : Nat) (j : Int) : Bool := (fw_ca_serve 106 a j) || ((fw_ca_forgetAll 106 a j) || ((fw_se_copyFrom 107 49 a j) || ((fw_se_become 107 a j) || false)))
set_option maxHeartbeats 4000000 in
theorem g_c_doAgain_L41_sp {σ0 : zS} : ∀ (n : Nat) (x2 : Int) (σ : zS), CI σ → fr (fw_c_doAgain) σ0 σ → (0 ≤ x2 ∧ x2 ≤ 181) → (181 - x2) < (n : Int) → zO (g_c_doAgain_L41 n x2 σ) (fun v s => CI s ∧ fr (fw_c_doAgain) σ0 s ∧ (True))
  | 0, _, σ, _, _, hi, hm => by exfalso; omega
  | n + 1, x2, σ, H, F, hi, hm => by
    unfold g_c_doAgain_L41
    try dsimp +instances only
    generalize hv_v_49 : σ 63 1 = v_49
    have rv_v_49 := CI.c1 (a := 63) H (by omega)
    rw [hv_v_49] at rv_v_49
    refine zO.ite (fun c_1 => ?_) (fun c_1 => ?_)
    ·
      try dsimp +instances only
      exact zO.ret ⟨H, F, trivial⟩
    ·
      try dsimp +instances only
      refine zO.bindp (g_bs_at_sp (by omega) H) (fun r_67 p_67 => ?_)
      try dsimp +instances only
      refine zO.bind (g_ca_serve_sp (by omega) H) (fun r_70 t_70 p_70 => ?_)
      obtain ⟨H_70, G_70, q_70⟩ := p_70
      try dsimp +instances only
      have F_70 := F.trans (fr.mono G_70 (fun a j h => ffl h))
      try have ew_4 := w32_id (x := x2 + 1) (by omega) (by omega)
      exact g_c_doAgain_L41_sp n (w32 (x2 + 1)) t_70 H_70 F_70 (by omega) (by omega)
theorem g_c_doAgain_sp {x1 : Int} {σ : zS} (H : CI σ) : zO (g_c_doAgain x1 σ) (fun v s => CI s ∧ fr (fw_c_doAgain) σ s ∧ (True)) := by
  have F : fr (fw_c_doAgain) σ σ := fr.refl σ
  unfold g_c_doAgain
  try dsimp +instances only
  refine zO.bind (g_ca_forgetAll_sp (by omega) H) (fun r_4 t_4 p_4 => ?_)
  obtain ⟨H_4, G_4, q_4⟩ := p_4
  try dsimp +instances only
  have F_4 := F.trans (fr.mono G_4 (fun a j h => ffl (ffr h)))
  refine zO.bind (g_se_copyFrom_sp (by omega) (by omega) H_4) (fun r_24 t_24 p_24 => ?_)
  obtain ⟨H_24, G_24, q_24⟩ := p_24
  try dsimp +instances only
  have F_24 := F_4.trans (fr.mono G_24 (fun a j h => ffl (ffr (ffr h))))
  refine zO.bind (g_se_become_sp (by omega) H_24) (fun r_36 t_36 p_36 => ?_)
  obtain ⟨H_36, G_36, q_36⟩ := p_36
  try dsimp +instances only
  have F_36 := F_24.trans (fr.mono G_36 (fun a j h => ffl (ffr (ffr (ffr h)))))
  exact g_c_doAgain_L41_sp zK 0 t_36 H_36 F_36 (by omega) (by show _ < (1000000 : Int); omega)
def fw_c_again (a : Nat) (j : Int) : Bool := (fw_c_doAgain a j) || false
theorem g_c_again_sp {x1 : Int} {x2 : Int} {σ : zS} (H : CI σ) : zO (g_c_again x1 x2 σ) (fun v s => CI s ∧ fr (fw_c_again) σ s ∧ (True)) := by
  have F : fr (fw_c_again) σ σ := fr.refl σ
  unfold g_c_again
  try dsimp +instances only
  refine zO.ite (fun c_1 => ?_) (fun c_1 => ?_)
  ·
    try dsimp +instances only
    exact zO.ret ⟨H, F, trivial⟩
  ·
    try dsimp +instances only
    refine zO.ite (fun c_2 => ?_) (fun c_2 => ?_)
    ·
      try dsimp +instances only
      refine zO.ite (fun c_3 => ?_) (fun c_3 => ?_)
      ·
        try dsimp +instances only
        exact zO.ret ⟨H, F, trivial⟩
      ·
        try dsimp +instances only
        refine zO.ite (fun c_4 => ?_) (fun c_4 => ?_)
        ·
          try dsimp +instances only
          refine zO.bind (g_c_doAgain_sp H) (fun r_27 t_27 p_27 => ?_)
          obtain ⟨H_27, G_27, q_27⟩ := p_27
          try dsimp +instances only
          have F_27 := F.trans (fr.mono G_27 (fun a j h => ffl h))
          refine zO.ite (fun c_6 => ?_) (fun c_6 => ?_)
          ·
            try dsimp +instances only
            generalize hv_v_68 : t_27 106 11 = v_68
            exact zO.ret ⟨H_27, F_27, trivial⟩
          ·
            try dsimp +instances only
            refine zO.ite (fun c_7 => ?_) (fun c_7 => ?_)
            ·
              try dsimp +instances only
              generalize hv_v_76 : t_27 106 10 = v_76
              exact zO.ret ⟨H_27, F_27, trivial⟩
            ·
              try dsimp +instances only
              refine zO.ite (fun c_8 => ?_) (fun c_8 => ?_)
              ·
                try dsimp +instances only
                generalize hv_v_84 : t_27 106 12 = v_84
                exact zO.ret ⟨H_27, F_27, trivial⟩
              ·
                try dsimp +instances only
                refine zO.ite (fun c_9 => ?_) (fun c_9 => ?_)
                ·
                  try dsimp +instances only
                  generalize hv_v_92 : t_27 106 13 = v_92
                  exact zO.ret ⟨H_27, F_27, trivial⟩
                ·
                  try dsimp +instances only
                  refine zO.ite (fun c_10 => ?_) (fun c_10 => ?_)
                  ·
                    try dsimp +instances only
                    generalize hv_v_100 : t_27 106 14 = v_100
                    exact zO.ret ⟨H_27, F_27, trivial⟩
                  ·
                    try dsimp +instances only
                    generalize hv_v_108 : t_27 106 2 = v_108
                    have rv_v_108 := CI.c2 (a := 106) H_27 (by omega)
                    rw [hv_v_108] at rv_v_108
                    exact zO.ret ⟨H_27, F_27, trivial⟩
        ·
          try dsimp +instances only
          exact zO.ret ⟨H, F, trivial⟩
    ·
      try dsimp +instances only
      exact zO.ret ⟨H, F, trivial⟩
def fw_c_least (a : Nat) (j : Int) : Bool := (fw_c_doAgain a j) || false
set_option maxHeartbeats 4000000 in
theorem g_c_least_L2_sp {σ0 : zS} : ∀ (n : Nat) (x1 : Int) (x2 : Int) (σ : zS), CI σ → fr (fw_c_least) σ0 σ → (1 ≤ x2 ∧ x2 ≤ 100) → (100 - x2) < (n : Int) → zO (g_c_least_L2 n x1 x2 σ) (fun v s => CI s ∧ fr (fw_c_least) σ0 s ∧ (True))
  | 0, _, _, σ, _, _, hi, hm => by exfalso; omega
  | n + 1, x1, x2, σ, H, F, hi, hm => by
    unfold g_c_least_L2
    try dsimp +instances only
    refine zO.ite (fun c_1 => ?_) (fun c_1 => ?_)
    ·
      try dsimp +instances only
      exact zO.ret ⟨H, F, trivial⟩
    ·
      try dsimp +instances only
      refine zO.bind (g_c_doAgain_sp H) (fun r_10 t_10 p_10 => ?_)
      obtain ⟨H_10, G_10, q_10⟩ := p_10
      try dsimp +instances only
      have F_10 := F.trans (fr.mono G_10 (fun a j h => ffl h))
      generalize hv_v_17 : t_10 106 11 = v_17
      refine zO.ite (fun c_3 => ?_) (fun c_3 => ?_)
      ·
        try dsimp +instances only
        try have ew_4 := w32_id (x := x2 + 1) (by omega) (by omega)
        exact g_c_least_L2_sp n x1 (w32 (x2 + 1)) t_10 H_10 F_10 (by omega) (by omega)
      ·
        try dsimp +instances only
        exact zO.ret ⟨H_10, F_10, trivial⟩
theorem g_c_least_sp {x1 : Int} {σ : zS} (H : CI σ) : zO (g_c_least x1 σ) (fun v s => CI s ∧ fr (fw_c_least) σ s ∧ (True)) := by
  have F : fr (fw_c_least) σ σ := fr.refl σ
  unfold g_c_least
  try dsimp +instances only
  exact g_c_least_L2_sp zK x1 1 σ H F (by omega) (by show _ < (1000000 : Int); omega)
def fw_c_watch (a : Nat) (j : Int) : Bool := (fw_wa_add a j) || false
theorem g_c_watch_sp {x1 : Int} {x2 : Int} {x3 : Int} {x4 : Int} {x5 : Int} {σ : zS} (H : CI σ) : zO (g_c_watch x1 x2 x3 x4 x5 σ) (fun v s => CI s ∧ fr (fw_c_watch) σ s ∧ (True)) := by
  have F : fr (fw_c_watch) σ σ := fr.refl σ
  unfold g_c_watch
  try dsimp +instances only
  refine zO.bindp (g_fi_isMeasure_sp) (fun r_1 p_1 => ?_)
  try dsimp +instances only
  refine zO.ite (fun c_2 => ?_) (fun c_2 => ?_)
  ·
    try dsimp +instances only
    refine zO.bindp (g_b_isBox_sp) (fun r_15 p_15 => ?_)
    try dsimp +instances only
    refine zO.ite (fun c_4 => ?_) (fun c_4 => ?_)
    ·
      try dsimp +instances only
      refine zO.bindp (g_b_of_sp) (fun r_38 p_38 => ?_)
      try dsimp +instances only
      refine zO.bind (g_wa_add_sp H) (fun r_41 t_41 p_41 => ?_)
      obtain ⟨H_41, G_41, q_41⟩ := p_41
      try dsimp +instances only
      have F_41 := F.trans (fr.mono G_41 (fun a j h => ffl h))
      refine zO.ite (fun c_7 => ?_) (fun c_7 => ?_)
      ·
        try dsimp +instances only
        exact zO.ret ⟨H_41, F_41, trivial⟩
      ·
        try dsimp +instances only
        generalize hv_v_54 : t_41 65 5 = v_54
        have rv_v_54 := CI.cw (a := 65) H_41 (by omega)
        rw [hv_v_54] at rv_v_54
        try have ew_8 := w32_id (x := v_54 - 1) (by omega) (by omega)
        exact zO.ret ⟨H_41, F_41, trivial⟩
    ·
      try dsimp +instances only
      exact zO.ret ⟨H, F, trivial⟩
  ·
    try dsimp +instances only
    exact zO.ret ⟨H, F, trivial⟩
def fw_c_value (a : Nat) (j : Int) : Bool := (fw_wa_valueOf a j) || false
theorem g_c_value_sp {x1 : Int} {σ : zS} (H : CI σ) : zO (g_c_value x1 σ) (fun v s => CI s ∧ fr (fw_c_value) σ s ∧ (True)) := by
  have F : fr (fw_c_value) σ σ := fr.refl σ
  unfold g_c_value
  try dsimp +instances only
  refine zO.bindp (g_wa_has_sp H) (fun r_8 p_8 => ?_)
  try dsimp +instances only
  refine zO.ite (fun c_2 => ?_) (fun c_2 => ?_)
  ·
    try dsimp +instances only
    exact zO.ret ⟨H, F, trivial⟩
  ·
    try dsimp +instances only
    refine zO.bind (g_wa_valueOf_sp H) (fun r_29 t_29 p_29 => ?_)
    obtain ⟨H_29, G_29, q_29⟩ := p_29
    try dsimp +instances only
    have F_29 := F.trans (fr.mono G_29 (fun a j h => ffl h))
    exact zO.ret ⟨H_29, F_29, trivial⟩
theorem g_c_changes_sp {x1 : Int} {σ : zS} (H : CI σ) : zOp (g_c_changes x1 σ) σ (fun v => True) := by
  unfold g_c_changes
  try dsimp +instances only
  refine zOp.bindp (g_wa_has_sp H) (fun r_8 p_8 => ?_)
  try dsimp +instances only
  refine zOp.ite (fun c_2 => ?_) (fun c_2 => ?_)
  ·
    try dsimp +instances only
    exact zOp.ret trivial
  ·
    try dsimp +instances only
    refine zOp.gd (by omega) ?_
    try dsimp +instances only
    generalize hv_v_25 : σ 68 x1 = v_25
    exact zOp.ret trivial
def fw_c_list (a : Nat) (j : Int) : Bool := (fw_li_make a j) || false
theorem g_c_list_sp {x1 : Int} {x2 : Int} {σ : zS} (H : CI σ) : zO (g_c_list x1 x2 σ) (fun v s => CI s ∧ fr (fw_c_list) σ s ∧ ((¬ (0 ≤ x1 ∧ x1 < 6) → v = -1) ∧ (0 ≤ x1 ∧ x1 < 6 ∧ 60 < x2 → v = -2) ∧ (0 ≤ x1 ∧ x1 < 6 ∧ x2 < 0 → v = -14) ∧ (0 ≤ x1 ∧ x1 < 6 ∧ 0 ≤ x2 ∧ x2 ≤ 60 → v = 1))) := by
  have F : fr (fw_c_list) σ σ := fr.refl σ
  unfold g_c_list
  try dsimp +instances only
  refine zO.bindp (g_li_isList_sp) (fun r_1 p_1 => ?_)
  try dsimp +instances only
  refine zO.ite (fun c_2 => ?_) (fun c_2 => ?_)
  ·
    try dsimp +instances only
    refine zO.ite (fun c_3 => ?_) (fun c_3 => ?_)
    ·
      try dsimp +instances only
      refine zO.ite (fun c_4 => ?_) (fun c_4 => ?_)
      ·
        try dsimp +instances only
        refine zO.bind (g_li_make_sp H) (fun r_31 t_31 p_31 => ?_)
        obtain ⟨H_31, G_31, q_31⟩ := p_31
        try dsimp +instances only
        have F_31 := F.trans (fr.mono G_31 (fun a j h => ffl h))
        exact zO.ret ⟨H_31, F_31, (by omega)⟩
      ·
        try dsimp +instances only
        exact zO.ret ⟨H, F, (by omega)⟩
    ·
      try dsimp +instances only
      exact zO.ret ⟨H, F, (by omega)⟩
  ·
    try dsimp +instances only
    exact zO.ret ⟨H, F, (by omega)⟩
def fw_c_set (a : Nat) (j : Int) : Bool := ((decide (136 ≤ a) && decide (a ≤ 141))) || false
theorem g_c_set_sp {x1 : Int} {x2 : Int} {y3 : Int} {σ : zS} (H : CI σ) : zO (g_c_set x1 x2 y3 σ) (fun v s => CI s ∧ fr (fw_c_set) σ s ∧ ((¬ (0 ≤ x1 ∧ x1 < 6) → v = -1) ∧ (0 ≤ x1 ∧ x1 < 6 ∧ σ 142 x1 < 0 → v = -11) ∧ (0 ≤ x1 ∧ x1 < 6 ∧ 0 ≤ σ 142 x1 ∧ (0 ≤ x2 ∧ x2 < σ 142 x1) → v = 1) ∧ (0 ≤ x1 ∧ x1 < 6 ∧ 0 ≤ σ 142 x1 ∧ ¬ (0 ≤ x2 ∧ x2 < σ 142 x1) → v = -13))) := by
  have F : fr (fw_c_set) σ σ := fr.refl σ
  unfold g_c_set
  try dsimp +instances only
  refine zO.bindp (g_li_refusal_sp H) (fun r_5 p_5 => ?_)
  try dsimp +instances only
  refine zO.ite (fun c_2 => ?_) (fun c_2 => ?_)
  ·
    try dsimp +instances only
    refine zO.bindp (g_li_hasPlace_sp H) (fun r_24 p_24 => ?_)
    try dsimp +instances only
    refine zO.ite (fun c_4 => ?_) (fun c_4 => ?_)
    ·
      try dsimp +instances only
      refine zO.gd (by omega) ?_
      try dsimp +instances only
      generalize hv_A_41 : 136 + (x1).toNat = A_41
      have rv_A_41 : 136 ≤ A_41 ∧ A_41 ≤ 141 := by omega
      refine zO.gd (by omega) ?_
      try dsimp +instances only
      generalize hs_s_44 : zu σ A_41 x2 y3 = s_44
      have H_44 : CI s_44 := by rw [← hs_s_44]; exact CI_zun H (by omega) (by omega) (rng_row rv_A_41)
      have F_44 : fr (fw_c_set) σ s_44 := by rw [← hs_s_44]; exact fr.zu F (by omega) (bl (row_mem rv_A_41))
      exact zO.ret ⟨H_44, F_44, (by omega)⟩
    ·
      try dsimp +instances only
      exact zO.ret ⟨H, F, (by omega)⟩
  ·
    try dsimp +instances only
    exact zO.ret ⟨H, F, (by omega)⟩
theorem g_c_get_sp {x1 : Int} {x2 : Int} {σ : zS} (H : CI σ) : zOp (g_c_get x1 x2 σ) σ (fun v => True) := by
  unfold g_c_get
  try dsimp +instances only
  refine zOp.bindp (g_li_hasPlace_sp H) (fun r_6 p_6 => ?_)
  try dsimp +instances only
  refine zOp.ite (fun c_2 => ?_) (fun c_2 => ?_)
  ·
    try dsimp +instances only
    exact zOp.ret trivial
  ·
    try dsimp +instances only
    refine zOp.gd (by omega) ?_
    try dsimp +instances only
    generalize hv_A_20 : 136 + (x1).toNat = A_20
    have rv_A_20 : 136 ≤ A_20 ∧ A_20 ≤ 141 := by omega
    refine zOp.gd (by omega) ?_
    try dsimp +instances only
    generalize hv_v_22 : σ A_20 x2 = v_22
    exact zOp.ret trivial
def fw_c_move (a : Nat) (j : Int) : Bool := ((decide (136 ≤ a) && decide (a ≤ 141))) || false
theorem g_c_move_sp {x1 : Int} {x2 : Int} {x3 : Int} {x4 : Int} {x5 : Int} {σ : zS} (H : CI σ) : zO (g_c_move x1 x2 x3 x4 x5 σ) (fun v s => CI s ∧ fr (fw_c_move) σ s ∧ ((¬ (0 ≤ x1 ∧ x1 < 6) → v = -1) ∧ (¬ (0 ≤ x3 ∧ x3 < 6) → v = -1) ∧ (0 ≤ x1 ∧ x1 < 6 ∧ 0 ≤ x3 ∧ x3 < 6 ∧ (σ 142 x1 < 0 ∨ σ 142 x3 < 0) → v = -11) ∧ (0 ≤ x1 ∧ x1 < 6 ∧ 0 ≤ x3 ∧ x3 < 6 ∧ 0 ≤ σ 142 x1 ∧ 0 ≤ σ 142 x3 ∧ (0 ≤ x2 ∧ 0 ≤ x4 ∧ 0 ≤ x5 ∧ x5 ≤ σ 142 x1 - x2 ∧ x5 ≤ σ 142 x3 - x4) → v = x5) ∧ (0 ≤ x1 ∧ x1 < 6 ∧ 0 ≤ x3 ∧ x3 < 6 ∧ 0 ≤ σ 142 x1 ∧ 0 ≤ σ 142 x3 ∧ ¬ (0 ≤ x2 ∧ 0 ≤ x4 ∧ 0 ≤ x5 ∧ x5 ≤ σ 142 x1 - x2 ∧ x5 ≤ σ 142 x3 - x4) → v = -13))) := by
  have F : fr (fw_c_move) σ σ := fr.refl σ
  unfold g_c_move
  try dsimp +instances only
  refine zO.bindp (g_li_isList_sp) (fun r_1 p_1 => ?_)
  try dsimp +instances only
  refine zO.ite (fun c_2 => ?_) (fun c_2 => ?_)
  ·
    try dsimp +instances only
    exact zO.ret ⟨H, F, (by omega)⟩
  ·
    try dsimp +instances only
    refine zO.bindp (g_li_isList_sp) (fun r_8 p_8 => ?_)
    try dsimp +instances only
    refine zO.ite (fun c_4 => ?_) (fun c_4 => ?_)
    ·
      try dsimp +instances only
      refine zO.bindp (g_li_refusal_sp H) (fun r_21 p_21 => ?_)
      try dsimp +instances only
      refine zO.ite (fun c_6 => ?_) (fun c_6 => ?_)
      ·
        try dsimp +instances only
        exact zO.ret ⟨H, F, (by omega)⟩
      ·
        try dsimp +instances only
        refine zO.bindp (g_li_refusal_sp H) (fun r_32 p_32 => ?_)
        try dsimp +instances only
        refine zO.ite (fun c_8 => ?_) (fun c_8 => ?_)
        ·
          try dsimp +instances only
          refine zO.bindp (g_li_hasSpan_sp H) (fun r_49 p_49 => ?_)
          try dsimp +instances only
          refine zO.ite (fun c_10 => ?_) (fun c_10 => ?_)
          ·
            try dsimp +instances only
            exact zO.ret ⟨H, F, (by omega)⟩
          ·
            try dsimp +instances only
            refine zO.bindp (g_li_hasSpan_sp H) (fun r_64 p_64 => ?_)
            try dsimp +instances only
            refine zO.ite (fun c_12 => ?_) (fun c_12 => ?_)
            ·
              try dsimp +instances only
              refine zO.gd (by omega) ?_
              try dsimp +instances only
              generalize hv_A_81 : 136 + (x1).toNat = A_81
              have rv_A_81 : 136 ≤ A_81 ∧ A_81 ≤ 141 := by omega
              refine zO.gd (by omega) ?_
              try dsimp +instances only
              generalize hv_A_91 : 136 + (x3).toNat = A_91
              have rv_A_91 : 136 ≤ A_91 ∧ A_91 ≤ 141 := by omega
              refine zO.gd (by omega) ?_
              try dsimp +instances only
              generalize hs_s_96 : zcp σ A_81 x2 A_91 x4 x5 = s_96
              have H_96 : CI s_96 := by rw [← hs_s_96]; exact CI_zcpn H (by omega) (by omega) (fun j => rng_row rv_A_91)
              have F_96 : fr (fw_c_move) σ s_96 := by rw [← hs_s_96]; exact fr.zcp F (by omega) (fun j => bl (row_mem rv_A_91))
              exact zO.ret ⟨H_96, F_96, (by omega)⟩
            ·
              try dsimp +instances only
              exact zO.ret ⟨H, F, (by omega)⟩
        ·
          try dsimp +instances only
          exact zO.ret ⟨H, F, (by omega)⟩
    ·
      try dsimp +instances only
      exact zO.ret ⟨H, F, (by omega)⟩
def fw_c_lay (a : Nat) (j : Int) : Bool := (fw_li_layFrom a j) || false
theorem g_c_lay_sp {x1 : Int} {x2 : Int} {σ : zS} (H : CI σ) : zO (g_c_lay x1 x2 σ) (fun v s => CI s ∧ fr (fw_c_lay) σ s ∧ (True)) := by
  have F : fr (fw_c_lay) σ σ := fr.refl σ
  unfold g_c_lay
  try dsimp +instances only
  refine zO.bindp (g_li_refusal_sp H) (fun r_5 p_5 => ?_)
  try dsimp +instances only
  refine zO.ite (fun c_2 => ?_) (fun c_2 => ?_)
  ·
    try dsimp +instances only
    refine zO.bind (g_li_layFrom_sp H) (fun r_30 t_30 p_30 => ?_)
    obtain ⟨H_30, G_30, q_30⟩ := p_30
    try dsimp +instances only
    have F_30 := F.trans (fr.mono G_30 (fun a j h => ffl h))
    exact zO.ret ⟨H_30, F_30, trivial⟩
  ·
    try dsimp +instances only
    exact zO.ret ⟨H, F, trivial⟩
theorem g_c_judge_sp {x1 : Int} {x2 : Int} {σ : zS} (H : CI σ) : zOp (g_c_judge x1 x2 σ) σ (fun v => True) := by
  unfold g_c_judge
  try dsimp +instances only
  refine zOp.bindp (g_li_refusal_sp H) (fun r_5 p_5 => ?_)
  try dsimp +instances only
  refine zOp.ite (fun c_2 => ?_) (fun c_2 => ?_)
  ·
    try dsimp +instances only
    refine zOp.bindp (g_li_judgeFrom_sp H) (fun r_30 p_30 => ?_)
    try dsimp +instances only
    exact zOp.ret trivial
  ·
    try dsimp +instances only
    exact zOp.ret trivial
def fw_c_image (a : Nat) (j : Int) : Bool := (fw_st_copyFrom 73 40 a j) || (((a == 39 && j == 2)) || false)
theorem g_c_image_sp {σ : zS} (H : CI σ) : zO (g_c_image σ) (fun v s => CI s ∧ fr (fw_c_image) σ s ∧ (True)) := by
  have F : fr (fw_c_image) σ σ := fr.refl σ
  unfold g_c_image
  try dsimp +instances only
  refine zO.bind (g_st_copyFrom_sp (by omega) (by omega) H) (fun r_8 t_8 p_8 => ?_)
  obtain ⟨H_8, G_8, q_8⟩ := p_8
  try dsimp +instances only
  have F_8 := F.trans (fr.mono G_8 (fun a j h => ffl h))
  generalize hs_s_13 : zu t_8 39 2 1 = s_13
  have H_13 : CI s_13 := by rw [← hs_s_13]; exact CI_zun H_8 (by omega) (by omega) rfl
  have F_13 : fr (fw_c_image) σ s_13 := by rw [← hs_s_13]; exact fr.zu F_8 (by omega) (br (bl (zbb _ _)))
  generalize hv_v_23 : s_13 48 2 = v_23
  have rv_v_23 := CI.c2 (a := 48) H_13 (by omega)
  rw [hv_v_23] at rv_v_23
  exact zO.ret ⟨H_13, F_13, trivial⟩
def fw_c_undo (a : Nat) (j : Int) : Bool := (fw_st_copyFrom 40 73 a j) || false
theorem g_c_undo_sp {σ : zS} (H : CI σ) : zO (g_c_undo σ) (fun v s => CI s ∧ fr (fw_c_undo) σ s ∧ (True)) := by
  have F : fr (fw_c_undo) σ σ := fr.refl σ
  unfold g_c_undo
  try dsimp +instances only
  generalize hv_v_1 : σ 39 2 = v_1
  refine zO.ite (fun c_1 => ?_) (fun c_1 => ?_)
  ·
    try dsimp +instances only
    refine zO.bind (g_st_copyFrom_sp (by omega) (by omega) H) (fun r_18 t_18 p_18 => ?_)
    obtain ⟨H_18, G_18, q_18⟩ := p_18
    try dsimp +instances only
    have F_18 := F.trans (fr.mono G_18 (fun a j h => ffl h))
    generalize hv_v_28 : t_18 48 2 = v_28
    have rv_v_28 := CI.c2 (a := 48) H_18 (by omega)
    rw [hv_v_28] at rv_v_28
    exact zO.ret ⟨H_18, F_18, trivial⟩
  ·
    try dsimp +instances only
    exact zO.ret ⟨H, F, trivial⟩
